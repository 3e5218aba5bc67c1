section
-- ===== PART A: goes FIRST, ahead of the names: the tables' words, and 'selects' of the private methods out of them =====
/-- a private method of a class that the tables say can be made, by its rows of tables_1 -/
def lw_okq (q : MethodName × Nat) : Prop := (q.1.cls ≠ "java/lang/invoke/MethodHandle" ∧ q.1.cls ≠ "java/lang/invoke/VarHandle") ∧ Cond.instantiable q.1.cls q.2 ∈ tables_1 ∧ Cond.privateMethod q.1 ∈ tables_1 ∧ Cond.instanceMethod q.1 ∈ tables_1
theorem lw_p0 : lw_okq (⟨"GlitchCourtLaw", "tells", "(LGlitchCourt;[I)Z"⟩, 7) := ⟨⟨by decide +kernel, by decide +kernel⟩, List.mem_of_getElem? (i := 340) (by decide +kernel), List.mem_of_getElem? (i := 368) (by decide +kernel), List.mem_of_getElem? (i := 369) (by decide +kernel)⟩
theorem lw_p1 : lw_okq (⟨"GlitchCourtLaw", "writes", "(Ljava/lang/String;)V"⟩, 7) := ⟨⟨by decide +kernel, by decide +kernel⟩, List.mem_of_getElem? (i := 340) (by decide +kernel), List.mem_of_getElem? (i := 377) (by decide +kernel), List.mem_of_getElem? (i := 378) (by decide +kernel)⟩
theorem lw_p2 : lw_okq (⟨"GlitchCourtLaw", "spaced", "(I)V"⟩, 7) := ⟨⟨by decide +kernel, by decide +kernel⟩, List.mem_of_getElem? (i := 340) (by decide +kernel), List.mem_of_getElem? (i := 429) (by decide +kernel), List.mem_of_getElem? (i := 430) (by decide +kernel)⟩
theorem lw_p3 : lw_okq (⟨"GlitchCourtLaw", "gate", "(II)V"⟩, 7) := ⟨⟨by decide +kernel, by decide +kernel⟩, List.mem_of_getElem? (i := 340) (by decide +kernel), List.mem_of_getElem? (i := 436) (by decide +kernel), List.mem_of_getElem? (i := 437) (by decide +kernel)⟩
theorem lw_p4 : lw_okq (⟨"GlitchCourtLaw", "feeds", "(LGlitchCourt;)I"⟩, 7) := ⟨⟨by decide +kernel, by decide +kernel⟩, List.mem_of_getElem? (i := 340) (by decide +kernel), List.mem_of_getElem? (i := 452) (by decide +kernel), List.mem_of_getElem? (i := 453) (by decide +kernel)⟩
theorem lw_p5 : lw_okq (⟨"GlitchCourt", "putBytes", "(I)V"⟩, 10) := ⟨⟨by decide +kernel, by decide +kernel⟩, List.mem_of_getElem? (i := 25) (by decide +kernel), List.mem_of_getElem? (i := 460) (by decide +kernel), List.mem_of_getElem? (i := 461) (by decide +kernel)⟩
theorem lw_p6 : lw_okq (⟨"java/lang/Throwable", "fillInStackTrace", "(I)Ljava/lang/Throwable;"⟩, 6) := ⟨⟨by decide +kernel, by decide +kernel⟩, List.mem_of_getElem? (i := 505) (by decide +kernel), List.mem_of_getElem? (i := 503) (by decide +kernel), List.mem_of_getElem? (i := 504) (by decide +kernel)⟩
theorem lw_p7 : lw_okq (⟨"GlitchCourt$Tokens", "scanWord", "()V"⟩, 8) := ⟨⟨by decide +kernel, by decide +kernel⟩, List.mem_of_getElem? (i := 157) (by decide +kernel), List.mem_of_getElem? (i := 549) (by decide +kernel), List.mem_of_getElem? (i := 550) (by decide +kernel)⟩
theorem lw_p8 : lw_okq (⟨"GlitchCourt$Tokens", "scanNumber", "()V"⟩, 8) := ⟨⟨by decide +kernel, by decide +kernel⟩, List.mem_of_getElem? (i := 157) (by decide +kernel), List.mem_of_getElem? (i := 553) (by decide +kernel), List.mem_of_getElem? (i := 554) (by decide +kernel)⟩
theorem lw_p9 : lw_okq (⟨"GlitchCourt$Bench", "lateWave", "(I[J)J"⟩, 7) := ⟨⟨by decide +kernel, by decide +kernel⟩, List.mem_of_getElem? (i := 220) (by decide +kernel), List.mem_of_getElem? (i := 680) (by decide +kernel), List.mem_of_getElem? (i := 681) (by decide +kernel)⟩
theorem lw_p10 : lw_okq (⟨"GlitchCourt$Bench", "dearWave", "(I)J"⟩, 7) := ⟨⟨by decide +kernel, by decide +kernel⟩, List.mem_of_getElem? (i := 220) (by decide +kernel), List.mem_of_getElem? (i := 694) (by decide +kernel), List.mem_of_getElem? (i := 695) (by decide +kernel)⟩
theorem lw_p11 : lw_okq (⟨"GlitchCourt$Bench", "swing", "(II)I"⟩, 7) := ⟨⟨by decide +kernel, by decide +kernel⟩, List.mem_of_getElem? (i := 220) (by decide +kernel), List.mem_of_getElem? (i := 698) (by decide +kernel), List.mem_of_getElem? (i := 699) (by decide +kernel)⟩
theorem lw_p12 : lw_okq (⟨"GlitchCourt$Bench", "longestPath", "(I)I"⟩, 7) := ⟨⟨by decide +kernel, by decide +kernel⟩, List.mem_of_getElem? (i := 220) (by decide +kernel), List.mem_of_getElem? (i := 702) (by decide +kernel), List.mem_of_getElem? (i := 703) (by decide +kernel)⟩
theorem lw_p13 : lw_okq (⟨"GlitchCourt$Bench", "showInto", "([JIJ)V"⟩, 7) := ⟨⟨by decide +kernel, by decide +kernel⟩, List.mem_of_getElem? (i := 220) (by decide +kernel), List.mem_of_getElem? (i := 709) (by decide +kernel), List.mem_of_getElem? (i := 710) (by decide +kernel)⟩
theorem lw_p14 : lw_okq (⟨"GlitchCourtLaw", "nets", "()I"⟩, 7) := ⟨⟨by decide +kernel, by decide +kernel⟩, List.mem_of_getElem? (i := 340) (by decide +kernel), List.mem_of_getElem? (i := 719) (by decide +kernel), List.mem_of_getElem? (i := 720) (by decide +kernel)⟩
theorem lw_p15 : lw_okq (⟨"GlitchCourtLaw", "holds", "(LGlitchCourt;[I)Z"⟩, 7) := ⟨⟨by decide +kernel, by decide +kernel⟩, List.mem_of_getElem? (i := 340) (by decide +kernel), List.mem_of_getElem? (i := 747) (by decide +kernel), List.mem_of_getElem? (i := 748) (by decide +kernel)⟩
def lw_privs_1 : List (MethodName × Nat) := [(⟨"GlitchCourtLaw", "tells", "(LGlitchCourt;[I)Z"⟩, 7), (⟨"GlitchCourtLaw", "writes", "(Ljava/lang/String;)V"⟩, 7), (⟨"GlitchCourtLaw", "spaced", "(I)V"⟩, 7), (⟨"GlitchCourtLaw", "gate", "(II)V"⟩, 7), (⟨"GlitchCourtLaw", "feeds", "(LGlitchCourt;)I"⟩, 7), (⟨"GlitchCourt", "putBytes", "(I)V"⟩, 10), (⟨"java/lang/Throwable", "fillInStackTrace", "(I)Ljava/lang/Throwable;"⟩, 6), (⟨"GlitchCourt$Tokens", "scanWord", "()V"⟩, 8), (⟨"GlitchCourt$Tokens", "scanNumber", "()V"⟩, 8), (⟨"GlitchCourt$Bench", "lateWave", "(I[J)J"⟩, 7), (⟨"GlitchCourt$Bench", "dearWave", "(I)J"⟩, 7), (⟨"GlitchCourt$Bench", "swing", "(II)I"⟩, 7), (⟨"GlitchCourt$Bench", "longestPath", "(I)I"⟩, 7), (⟨"GlitchCourt$Bench", "showInto", "([JIJ)V"⟩, 7), (⟨"GlitchCourtLaw", "nets", "()I"⟩, 7), (⟨"GlitchCourtLaw", "holds", "(LGlitchCourt;[I)Z"⟩, 7)]
theorem lw_r1 : ∀ q ∈ lw_privs_1, lw_okq q := List.forall_mem_cons.mpr ⟨lw_p0, List.forall_mem_cons.mpr ⟨lw_p1, List.forall_mem_cons.mpr ⟨lw_p2, List.forall_mem_cons.mpr ⟨lw_p3, List.forall_mem_cons.mpr ⟨lw_p4, List.forall_mem_cons.mpr ⟨lw_p5, List.forall_mem_cons.mpr ⟨lw_p6, List.forall_mem_cons.mpr ⟨lw_p7, List.forall_mem_cons.mpr ⟨lw_p8, List.forall_mem_cons.mpr ⟨lw_p9, List.forall_mem_cons.mpr ⟨lw_p10, List.forall_mem_cons.mpr ⟨lw_p11, List.forall_mem_cons.mpr ⟨lw_p12, List.forall_mem_cons.mpr ⟨lw_p13, List.forall_mem_cons.mpr ⟨lw_p14, List.forall_mem_cons.mpr ⟨lw_p15, fun _ h => absurd h List.not_mem_nil⟩⟩⟩⟩⟩⟩⟩⟩⟩⟩⟩⟩⟩⟩⟩⟩
theorem lw_p16 : lw_okq (⟨"GlitchCourtLaw", "acts", "(LGlitchCourt;I)I"⟩, 7) := ⟨⟨by decide +kernel, by decide +kernel⟩, List.mem_of_getElem? (i := 340) (by decide +kernel), List.mem_of_getElem? (i := 754) (by decide +kernel), List.mem_of_getElem? (i := 755) (by decide +kernel)⟩
theorem lw_p17 : lw_okq (⟨"GlitchCourtLaw", "net", "(I)I"⟩, 7) := ⟨⟨by decide +kernel, by decide +kernel⟩, List.mem_of_getElem? (i := 340) (by decide +kernel), List.mem_of_getElem? (i := 758) (by decide +kernel), List.mem_of_getElem? (i := 759) (by decide +kernel)⟩
theorem lw_p18 : lw_okq (⟨"GlitchCourt", "requireGate", "(I)V"⟩, 10) := ⟨⟨by decide +kernel, by decide +kernel⟩, List.mem_of_getElem? (i := 25) (by decide +kernel), List.mem_of_getElem? (i := 766) (by decide +kernel), List.mem_of_getElem? (i := 767) (by decide +kernel)⟩
theorem lw_p19 : lw_okq (⟨"GlitchCourt", "requireTimes", "(II)V"⟩, 10) := ⟨⟨by decide +kernel, by decide +kernel⟩, List.mem_of_getElem? (i := 25) (by decide +kernel), List.mem_of_getElem? (i := 775) (by decide +kernel), List.mem_of_getElem? (i := 776) (by decide +kernel)⟩
theorem lw_p20 : lw_okq (⟨"GlitchCourt$Circuit", "readersOf", "(I)I"⟩, 9) := ⟨⟨by decide +kernel, by decide +kernel⟩, List.mem_of_getElem? (i := 226) (by decide +kernel), List.mem_of_getElem? (i := 854) (by decide +kernel), List.mem_of_getElem? (i := 855) (by decide +kernel)⟩
theorem lw_p21 : lw_okq (⟨"GlitchCourtLaw", "disputes", "(LGlitchCourt;I)V"⟩, 7) := ⟨⟨by decide +kernel, by decide +kernel⟩, List.mem_of_getElem? (i := 340) (by decide +kernel), List.mem_of_getElem? (i := 874) (by decide +kernel), List.mem_of_getElem? (i := 875) (by decide +kernel)⟩
theorem lw_p22 : lw_okq (⟨"GlitchCourt$Bench", "pulseStarts", "(I)J"⟩, 7) := ⟨⟨by decide +kernel, by decide +kernel⟩, List.mem_of_getElem? (i := 220) (by decide +kernel), List.mem_of_getElem? (i := 897) (by decide +kernel), List.mem_of_getElem? (i := 898) (by decide +kernel)⟩
theorem lw_p23 : lw_okq (⟨"GlitchCourt", "requirePulse", "(II)I"⟩, 10) := ⟨⟨by decide +kernel, by decide +kernel⟩, List.mem_of_getElem? (i := 25) (by decide +kernel), List.mem_of_getElem? (i := 905) (by decide +kernel), List.mem_of_getElem? (i := 906) (by decide +kernel)⟩
theorem lw_p24 : lw_okq (⟨"GlitchCourt", "requireDispute", "(I)LGlitchCourt$Dispute;"⟩, 10) := ⟨⟨by decide +kernel, by decide +kernel⟩, List.mem_of_getElem? (i := 25) (by decide +kernel), List.mem_of_getElem? (i := 929) (by decide +kernel), List.mem_of_getElem? (i := 930) (by decide +kernel)⟩
theorem lw_p25 : lw_okq (⟨"GlitchCourtLaw", "isShown", "(LGlitchCourt;I)Z"⟩, 7) := ⟨⟨by decide +kernel, by decide +kernel⟩, List.mem_of_getElem? (i := 340) (by decide +kernel), List.mem_of_getElem? (i := 967) (by decide +kernel), List.mem_of_getElem? (i := 968) (by decide +kernel)⟩
theorem lw_p26 : lw_okq (⟨"GlitchCourt", "requireWave", "(II)J"⟩, 10) := ⟨⟨by decide +kernel, by decide +kernel⟩, List.mem_of_getElem? (i := 25) (by decide +kernel), List.mem_of_getElem? (i := 975) (by decide +kernel), List.mem_of_getElem? (i := 976) (by decide +kernel)⟩
theorem lw_p27 : lw_okq (⟨"GlitchCourt", "requireNet", "(I)V"⟩, 10) := ⟨⟨by decide +kernel, by decide +kernel⟩, List.mem_of_getElem? (i := 25) (by decide +kernel), List.mem_of_getElem? (i := 979) (by decide +kernel), List.mem_of_getElem? (i := 980) (by decide +kernel)⟩
def lw_privs_2 : List (MethodName × Nat) := [(⟨"GlitchCourtLaw", "acts", "(LGlitchCourt;I)I"⟩, 7), (⟨"GlitchCourtLaw", "net", "(I)I"⟩, 7), (⟨"GlitchCourt", "requireGate", "(I)V"⟩, 10), (⟨"GlitchCourt", "requireTimes", "(II)V"⟩, 10), (⟨"GlitchCourt$Circuit", "readersOf", "(I)I"⟩, 9), (⟨"GlitchCourtLaw", "disputes", "(LGlitchCourt;I)V"⟩, 7), (⟨"GlitchCourt$Bench", "pulseStarts", "(I)J"⟩, 7), (⟨"GlitchCourt", "requirePulse", "(II)I"⟩, 10), (⟨"GlitchCourt", "requireDispute", "(I)LGlitchCourt$Dispute;"⟩, 10), (⟨"GlitchCourtLaw", "isShown", "(LGlitchCourt;I)Z"⟩, 7), (⟨"GlitchCourt", "requireWave", "(II)J"⟩, 10), (⟨"GlitchCourt", "requireNet", "(I)V"⟩, 10)]
theorem lw_r2 : ∀ q ∈ lw_privs_2, lw_okq q := List.forall_mem_cons.mpr ⟨lw_p16, List.forall_mem_cons.mpr ⟨lw_p17, List.forall_mem_cons.mpr ⟨lw_p18, List.forall_mem_cons.mpr ⟨lw_p19, List.forall_mem_cons.mpr ⟨lw_p20, List.forall_mem_cons.mpr ⟨lw_p21, List.forall_mem_cons.mpr ⟨lw_p22, List.forall_mem_cons.mpr ⟨lw_p23, List.forall_mem_cons.mpr ⟨lw_p24, List.forall_mem_cons.mpr ⟨lw_p25, List.forall_mem_cons.mpr ⟨lw_p26, List.forall_mem_cons.mpr ⟨lw_p27, fun _ h => absurd h List.not_mem_nil⟩⟩⟩⟩⟩⟩⟩⟩⟩⟩⟩⟩
def lw_privs : List (MethodName × Nat) := lw_privs_1 ++ (lw_privs_2)
def lw_tbl : List Cond := k2_sels lw_privs ++ tables_1
theorem lw_privs_ok : ∀ q ∈ lw_privs, lw_okq q := by
  show ∀ q ∈ lw_privs_1 ++ (lw_privs_2), lw_okq q
  exact List.forall_mem_append.mpr ⟨lw_r1, lw_r2⟩
-- ===== end of PART A; then your names; then what follows =====
/-! ===== BEGIN words of one list among another's, by their places ===== -/
theorem goodIn_r {big : List Cond} (ws : List Cond) (ps : List Nat) (hp : ws = ps.filterMap (fun i => big[i]?)) (h : ws.all goodWord = true) : GoodIn big ws := by
  intro w hw
  have h1 := List.all_eq_true.mp h w hw
  rw [hp] at hw
  obtain ⟨i, -, hi⟩ := List.mem_filterMap.mp hw
  have hm : w ∈ big := by first | exact List.mem_of_getElem? hi | exact List.getElem?_mem hi
  exact ⟨hm, good_of_word h1⟩
theorem goodIn_app {big a b : List Cond} (ha : GoodIn big a) (hb : GoodIn big b) : GoodIn big (a ++ b) := fun w h => (List.mem_append.mp h).elim (ha w) (hb w)
theorem goodIn_ca {big a b : List Cond} {c : Cond} (ha : GoodIn big (c :: a)) (hb : GoodIn big b) : GoodIn big (c :: (a ++ b)) := fun w h => (List.mem_cons.mp h).elim (fun e => ha w (List.mem_cons.mpr (Or.inl e))) (fun h => (List.mem_append.mp h).elim (fun h => ha w (List.mem_cons.mpr (Or.inr h))) (hb w))
theorem goodIn_sub {big ws : List Cond} (hm : ∀ w ∈ ws, w ∈ big) (h : ws.all goodWord = true) : GoodIn big ws := fun w hw => ⟨hm w hw, good_of_word (List.all_eq_true.mp h w hw)⟩
/-! ===== END ===== -/

def va_AOA (ty : FieldType) (U : State) : Prop := (Cond.arrayOver (.array ty)).before #[] U = true
theorem va_AOA.use {ty : FieldType} {A : Array Value} {U : State} (h : va_AOA ty U) : (Cond.arrayOver (.array ty)).before A U = true := by
  first
    | exact va_tabs rfl rfl h
    | exact h
    | (have h1 := h; simp only [va_AOA, Cond.before, Cond.holds, Cond.value] at h1 ⊢; exact h1)
/-! ===== BEGIN new T[n][m]: the outer array a place, the inner ones among the pooled ===== -/
/-- f, but v at every address of l -/
def vr_up {α : Type} (f : Nat → α) (l : List Nat) (v : α) : Nat → α := fun a => if a ∈ l then v else f a
theorem vr_up_in {α : Type} {f : Nat → α} {l : List Nat} {v : α} {a : Nat} (h : a ∈ l) : vr_up f l v a = v := if_pos h
theorem vr_up_ne {α : Type} {f : Nat → α} {l : List Nat} {v : α} {a : Nat} (h : a ∉ l) : vr_up f l v a = f a := if_neg h
theorem vr_rows {L l : List Nat} {f : Nat → va_E} {e : va_E} (h : ∀ a, a ∈ l → a ∉ L) : va_pl L f ++ l.map (fun a => (a, e)) = va_pl (L ++ l) (vr_up f l e) := by
  unfold va_pl
  rw [List.map_append]
  congr 1
  · apply List.map_congr_left
    intro a ha
    rw [vr_up_ne (fun q => h a q ha)]
  · apply List.map_congr_left
    intro a ha
    rw [vr_up_in ha]
theorem vr_lay {X rows : va_W} {x : Nat × va_E} {pl : va_W} {D : va_G} {cl : List vw_C} {H : Heap} (hP : va_P D cl (((X ++ pl) ++ [x]) ++ rows) H) : va_P D cl ((X ++ [x]) ++ (pl ++ rows)) H := by
  rw [List.append_assoc (X ++ pl)] at hP
  have h := va_P.swap hP
  rw [← List.append_assoc X] at h
  have h2 := va_P.swap h
  rw [List.append_assoc (X ++ [x])] at h2
  exact h2
theorem vr_layD {X rows : va_W} {x : Nat × va_E} {pl : va_W} {A : Nat → Prop} (hD : va_D A (((X ++ pl) ++ [x]) ++ rows)) : va_D A ((X ++ [x]) ++ (pl ++ rows)) := by
  rw [List.append_assoc (X ++ pl)] at hD
  have h := va_D.swap hD
  rw [← List.append_assoc X] at h
  have h2 := va_D.swap h
  rw [List.append_assoc (X ++ [x])] at h2
  exact h2
theorem vr_outer (c : ClassId) (N h0 : Nat) : ∀ i : Nat, Jvm.Free.Multi.outerC c N h0 i = arrV c N (fun j => va_rf (if j < i then some (h0 + 1 + j) else none))
  | 0 => by
    show ({ cls := c, slots := Array.replicate N .null, vm := .none } : Cell) = _
    rw [arrV_new]
    refine congrArg (arrV c N) (funext fun j => ?_)
    simp [va_rf]
  | i + 1 => by
    show (Jvm.Free.Multi.outerC c N h0 i).setSlot i (.ref (h0 + 1 + i)) = _
    rw [vr_outer c N h0 i, arrV_store]
    refine congrArg (arrV c N) (funext fun j => ?_)
    by_cases e : j = i
    · subst e
      simp [updV, va_rf]
    · by_cases h : j < i
      · simp [updV, e, h, Nat.lt_succ_of_lt h]
      · simp [updV, e, h, show ¬ j < i + 1 by omega]
section VGM
variable {p : Program} {l : Launch} {e : Env} {R : Room} {s : State} {m : MethodId} {args : Array Value} {below : List Frame} {meth : Method} {c : Code} {H : Heap} {locs : List Loc} {cells slots : Nat} {Q : State → Prop}
variable {cc : ByteArray} {pc : Nat} {ls : Array Slot} {rest : List Value} {D : va_G} {cl : List vw_C} {A : Nat → Prop} {a : Nat} {tys : List (ClassId × FieldType)} {ws : va_W} {H0 : Heap}
theorem va_mna {X : va_W} {L : List Nat} {f : Nat → va_E} {cc : ByteArray} (hexec : p.tables.exec = Jvm.exec) (hb : c.code = cc) {own : String} {index : Nat} {ty : FieldType} {cy : ClassId} (hown : s.vm.findClass own = some m.cls) (hclink : (Cond.classLink own index ("[" ++ (FieldType.array ty).toString)).before args s = true) (hover : va_AOA ty s) (harr : (Cond.arrayClass ty).before args s = true) (hcy : s.vm.findClass (FieldType.array ty).toString = some cy)
    (hK : va_K D cl tys s) (hP : va_P D cl (X ++ va_pl L f) H) (hD : va_D A (X ++ va_pl L f)) (hS : va_S A H0 H locs) (hA : ∀ q, H0.size ≤ q → A q) {n k : Int32} {N' K' : Nat} {z : vp_A} (hn : ¬ n < 0) (hk : ¬ k < 0) (hN : n.toNatClampNeg = N') (hM : k.toNatClampNeg = K')
    (hb1 : N' * 4 ≤ 536870912) (hb2 : K' * componentBytes ty ≤ 536870912) (hb3 : K' ≤ 536870912) (hdf : fits ty (defaultValue ty) = true) (hdd : (defaultValue ty).isDefault = true) (hcells : cells + (1 + N') ≤ R.cells) (hslots : slots + (N' + N' * K') ≤ R.slots) (hz : ∀ c : ClassId, Jvm.Free.Multi.innerC c K' (defaultValue ty) = vp_cell c z) (hdg : decode cc pc = .ok (.multianewarray index 2, 4))
    (kk : ∀ (q : Nat) (r : Nat → Nat) (cA : ClassId) (H1 : Heap), (∀ i j : Nat, i < N' → j < N' → r i = r j → i = j) → (∀ i : Nat, i < N' → r i ∉ L) → va_K D cl (tys ++ [(cA, .array ty)]) s →
      va_P D cl ((X ++ [(q, .inl (cA, N', .inr (.inr (.inr (.inr (fun i => if i < N' then some (r i) else none))))))]) ++ va_pl (L ++ (List.range N').map r) (vr_up f ((List.range N').map r) (.inl (cy, z)))) H1 → va_D A ((X ++ [(q, .inl (cA, N', .inr (.inr (.inr (.inr (fun i => if i < N' then some (r i) else none))))))]) ++ va_pl (L ++ (List.range N').map r) (vr_up f ((List.range N').map r) (.inl (cy, z)))) → va_S A H0 H1 locs →
      W p l e R s m args below meth c H1 locs (cells + 1 + N') (slots + N' + N' * K') Q (F0 m (pc + 4) ls (.ref q :: rest))) : W p l e R s m args below meth c H locs cells slots Q (F0 m pc ls (.int k :: .int n :: rest)) := by
  subst hN
  subst hM
  intro T hT Xs
  obtain ⟨vm₁, cA, comp, -, fA, fC, hO, -, X', step⟩ := Xs.multianewarray2F hexec hown hclink (va_AOA.use hover) harr (g := F0 m pc ls (.int k :: .int n :: rest)) rfl (by rw [hb]; exact hdg) rfl hn hk hb1 hb2 hb3 hdf hdd hcells hslots
  have ec : some cy = some comp := hcy.symm.trans fC
  cases ec
  generalize hF : Jvm.Free.Multi.fill (T.setVm vm₁) cA cy n.toNatClampNeg k.toNatClampNeg (defaultValue ty) n.toNatClampNeg = F at X' step
  have hTh : (T.setVm vm₁).heap = H := hT
  obtain ⟨f1, f2, -, -⟩ := Jvm.Free.Multi.fill_facts (T.setVm vm₁) cA cy n.toNatClampNeg k.toNatClampNeg (defaultValue ty) n.toNatClampNeg
  rw [hF, hTh] at f1 f2
  have hold : ∀ x : Nat, x < H.size → F.heap[x]? = H[x]? := fun x hx => by
    have := Jvm.Free.Multi.fill_old (T.setVm vm₁) cA cy n.toNatClampNeg k.toNatClampNeg (defaultValue ty) (a := x) (by rw [hTh]; exact hx) n.toNatClampNeg
    rw [hF, hTh] at this
    exact this
  have hrow : ∀ j : Nat, j < n.toNatClampNeg → F.heap[H.size + 1 + j]? = some (vp_cell cy z) := fun j hj => by
    have := Jvm.Free.Multi.fill_inner (T.setVm vm₁) cA cy n.toNatClampNeg k.toNatClampNeg (defaultValue ty) n.toNatClampNeg j hj
    rw [hF, hTh, hz] at this
    exact this
  have hout : Jvm.Free.Multi.outerC cA n.toNatClampNeg H.size n.toNatClampNeg = vp_cell cA (n.toNatClampNeg, .inr (.inr (.inr (.inr (fun i => if i < n.toNatClampNeg then some (H.size + 1 + i) else none))))) := by
    rw [vp_cell_q]
    exact vr_outer cA n.toNatClampNeg H.size n.toNatClampNeg
  rw [hout] at f2
  have hlt : ∀ a, a ∈ L → a < H.size := fun a ha => by
    obtain ⟨k9, hk9⟩ := va_pl_get (X := X) (f := f) ha
    exact (hP k9 _ hk9).lt
  have hnl : ∀ i : Nat, i < n.toNatClampNeg → H.size + 1 + i ∉ L := fun i _ h => by
    have := hlt _ h
    omega
  have hnm : ∀ a, a ∈ (List.range n.toNatClampNeg).map (fun i => H.size + 1 + i) → a ∉ L := fun a ha h => by
    obtain ⟨i, -, rfl⟩ := List.mem_map.mp ha
    have := hlt _ h
    omega
  have hP0 : va_P D cl (X ++ va_pl L f) F.heap := hP.kept (fun k9 x hx => hold x.1 ((hP k9 x hx).lt))
  have hP1 : va_P D cl ((X ++ va_pl L f) ++ [(H.size, .inl (cA, n.toNatClampNeg, .inr (.inr (.inr (.inr (fun i => if i < n.toNatClampNeg then some (H.size + 1 + i) else none))))))]) F.heap := hP0.app (fun k9 x hx => by
    have h0 : k9 < 1 := (List.getElem?_eq_some_iff.mp hx).1
    rw [show k9 = 0 by omega] at hx
    cases hx
    exact f2)
  have hP2 : va_P D cl (((X ++ va_pl L f) ++ [(H.size, .inl (cA, n.toNatClampNeg, .inr (.inr (.inr (.inr (fun i => if i < n.toNatClampNeg then some (H.size + 1 + i) else none))))))]) ++ ((List.range n.toNatClampNeg).map (fun i => H.size + 1 + i)).map (fun a => (a, .inl (cy, z)))) F.heap := hP1.app (fun k9 x hx => by
    obtain ⟨a, ha, rfl⟩ := List.mem_map.mp (List.mem_of_getElem? hx)
    obtain ⟨i, hi, rfl⟩ := List.mem_map.mp ha
    exact hrow i (List.mem_range.mp hi))
  have hD2 : va_D A (((X ++ va_pl L f) ++ [(H.size, .inl (cA, n.toNatClampNeg, .inr (.inr (.inr (.inr (fun i => if i < n.toNatClampNeg then some (H.size + 1 + i) else none))))))]) ++ ((List.range n.toNatClampNeg).map (fun i => H.size + 1 + i)).map (fun a => (a, .inl (cy, z)))) := by
    have hD1 := hD.push (e := .inl (cA, n.toNatClampNeg, .inr (.inr (.inr (.inr (fun i => if i < n.toNatClampNeg then some (H.size + 1 + i) else none)))))) hP rfl (hA _ hS.1)
    generalize hW1 : (X ++ va_pl L f) ++ [(H.size, .inl (cA, n.toNatClampNeg, .inr (.inr (.inr (.inr (fun i => if i < n.toNatClampNeg then some (H.size + 1 + i) else none))))))] = W1 at hD1 hP1 ⊢
    have hle : ∀ (k9 : Nat) (x : Nat × va_E), W1[k9]? = some x → x.1 ≤ H.size := fun k9 x hx => by
      rw [← hW1] at hx
      by_cases hl : k9 < (X ++ va_pl L f).length
      · rw [List.getElem?_append_left hl] at hx
        exact Nat.le_of_lt ((hP k9 x hx).lt)
      · rw [List.getElem?_append_right (by omega)] at hx
        have h0 : k9 - (X ++ va_pl L f).length < 1 := (List.getElem?_eq_some_iff.mp hx).1
        rw [show k9 - (X ++ va_pl L f).length = 0 by omega] at hx
        cases hx
        exact Nat.le_refl _
    have hr : ∀ (k9 : Nat) (x : Nat × va_E), (((List.range n.toNatClampNeg).map (fun i => H.size + 1 + i)).map (fun a => ((a, .inl (cy, z)) : Nat × va_E)))[k9]? = some x → x.1 = H.size + 1 + k9 := fun k9 x hx => by
      rw [List.getElem?_map, List.getElem?_map] at hx
      by_cases h9 : k9 < n.toNatClampNeg
      · rw [List.getElem?_range h9] at hx
        cases hx
        rfl
      · have hn0 : (List.range n.toNatClampNeg)[k9]? = none := List.getElem?_eq_none (by rw [List.length_range]; omega)
        rw [hn0] at hx
        cases hx
    refine ⟨fun i j x y hi hj hxy => ?_, fun k9 x hx => ?_⟩
    · by_cases h1 : i < W1.length <;> by_cases h2 : j < W1.length
      · rw [List.getElem?_append_left h1] at hi
        rw [List.getElem?_append_left h2] at hj
        exact hD1.1 i j x y hi hj hxy
      · rw [List.getElem?_append_left h1] at hi
        rw [List.getElem?_append_right (by omega)] at hj
        have := hle _ _ hi
        have := hr _ _ hj
        omega
      · rw [List.getElem?_append_right (by omega)] at hi
        rw [List.getElem?_append_left h2] at hj
        have := hle _ _ hj
        have := hr _ _ hi
        omega
      · rw [List.getElem?_append_right (by omega)] at hi hj
        have := hr _ _ hi
        have := hr _ _ hj
        omega
    · by_cases h1 : k9 < W1.length
      · rw [List.getElem?_append_left h1] at hx
        exact hD1.2 k9 x hx
      · rw [List.getElem?_append_right (by omega)] at hx
        have := hr _ _ hx
        exact hA _ (by have := hS.1; omega)
  have hAr : ArrOfT s cA (.array ty) := fun N9 z9 => by
    obtain ⟨-, k9, hk9, cm9, hkk9⟩ := (hO 0 0 0).1
    exact ⟨(fun q hq => by cases hq), k9, hk9, cm9, hkk9⟩
  have hK2 : va_K D cl (tys ++ [(cA, .array ty)]) s := ⟨hK.1, fun k9 x hx => by
    by_cases hl : k9 < tys.length
    · rw [List.getElem?_append_left hl] at hx
      exact hK.2 k9 x hx
    · rw [List.getElem?_append_right (by omega)] at hx
      have h0 : k9 - tys.length < 1 := (List.getElem?_eq_some_iff.mp hx).1
      rw [show k9 - tys.length = 0 by omega] at hx
      cases hx
      exact ⟨hAr, fA⟩⟩
  obtain ⟨t, a1, b1⟩ := kk H.size (fun i => H.size + 1 + i) cA F.heap (fun i j _ _ h => by have h9 : H.size + 1 + i = H.size + 1 + j := h; omega) hnl hK2 (by rw [← vr_rows hnm]; exact vr_lay hP2) (by rw [← vr_rows hnm]; exact vr_layD hD2) ⟨by rw [f1]; have := hS.1; omega, fun x h1 h2 => (hold x (Nat.lt_of_lt_of_le h1 hS.1)).trans (hS.2.1 x h1 h2), hS.2.2⟩ F rfl X'
  refine ⟨t, step t ?_, b1⟩
  have e : T.heap.size = H.size := by rw [hT]
  rw [e]
  exact a1
end VGM
/-! ===== END ===== -/

/-! ===== BEGIN exceptions that leave a method, and their catching by the caller (launches without stack traces) ===== -/
section VXA
/-! The laws vx_back, vx_callV, vx_callS, vx_callSW, vx_throw0, vx_throwS follow proofs of the library, with one case more: JvmDerived/Free/Laws.lean (Back.of_free), Shelf42/LK1.lean (callV, callS), Shelf/KitTraced.lean (throwNew0V, throwNewS). -/
/-- where a method has thrown q: the class by its name, the cell, what was written, the world -/
def vx_T (XC : String → State → State → Prop) (st : State) (q : Addr) (t : State) (mc ms : Nat) (free : Addr → Prop) : Prop :=
  ∃ (E : String) (ce : Cell) (L : List Loc), XC E st t ∧ t.heap[q]? = some ce ∧ ce.vm = .none ∧ st.vm.findClass E = some ce.cls ∧ st.WarmedH t.vm ∧ st.sameButNew ({ t with vm := st.vm } : State) L mc ms ∧ ∀ z ∈ L, free z.base
def vx_Q (Qc : Array Value → State → Outcome → State → Prop) (XC : String → State → State → Prop) (mc ms : Nat) (free : Addr → Prop) : Array Value → State → Outcome → State → Prop := fun a st o t =>
  (Qc a st o t ∧ ∃ L, FrameEnd st o t L mc ms ∧ ∀ q ∈ L, free q.base) ∨ ∃ q, o = .threw q ∧ vx_T XC st q t mc ms free
/-- a callee that returns or throws -/
def vx_Met (l : Launch) (y : MethodName) (ws : List Cond) (rm : Room) (Pc : Array Value → State → Prop) (Qc : Array Value → State → Outcome → State → Prop) (XC : String → State → State → Prop) (mc ms : Nat) (free : Addr → Prop) : Prop :=
  MetFree l y (headSpec ws rm) Pc (fun _ _ _ _ _ => True) (vx_Q Qc XC mc ms free)
def vx_Post (XC : String → State → State → Prop) (mc ms : Nat) (free : Addr → Prop) : Pt → Array Value → Addr → Pt → Prop := fun A a q B =>
  ∃ (g : JFrame) (mk : MethodId) (t : State) (L : List Loc) (E : String) (ce : Cell), B.U.heap = t.heap ∧ B.U.vm = t.vm ∧ XC E (A.U.calling g mk a) t ∧ t.heap[q]? = some ce ∧ ce.vm = .none ∧ A.U.vm.findClass E = some ce.cls ∧ B.locs = A.locs ++ L ∧ (∀ z ∈ L, free z.base) ∧ B.cells = A.cells + mc ∧ B.slots = A.slots + ms
def vx_Back (l : Launch) (R : Room) (p : Program) (e : Env) (below : List Frame) (s : State) (sargs : Array Value) (y : MethodName) (len W9 : Nat)
    (Pre : Pt → Array Value → Prop) (Post : Pt → Array Value → Option Value → Pt → Prop) (PostX : Pt → Array Value → Addr → Pt → Prop) : Prop :=
  ∀ (m : MethodId) (meth : Method) (c : Code) (A : Pt) (g : JFrame) (ig : Instr) (mk : MethodId) (a : Array Value),
    Stand p l e R s m sargs below meth c A.U A.locs A.cells A.slots → g.method = m → g.locals.size = c.maxLocals → decode c.code g.pc = .ok (ig, len) →
    2 * g.monitorRoom + (g.stack.map fun v => v.category).sum ≤ W9 → A.U.methodNamed? y = some mk → Pre A a →
    (∃ (v : Option Value) (B : Pt), Stand p l e R s m sargs below meth c B.U B.locs B.cells B.slots ∧ Post A a v B ∧
      Steps p.tables e below (doInvoke e (A.U.setTop g) [] mk a).1 (B.U.setTop { g with pc := g.pc + len, stack := v.toList ++ g.stack })) ∨
    (∃ (q : Addr) (B : Pt), Stand p l e R s m sargs below meth c B.U B.locs B.cells B.slots ∧ PostX A a q B ∧
      Steps p.tables e below (doInvoke e (A.U.setTop g) [] mk a).1 ((B.U.setTop g).pushFrame (.throwing q)))
section Payer
variable {l : Launch} {R : Room} {p : Program} {e : Env} {below : List Frame} {s : State} {sargs : Array Value} {y : MethodName} {len W9 : Nat}
theorem vx_back {ws : List Cond} {rm : Room} {Pc : Array Value → State → Prop} {Qc : Array Value → State → Outcome → State → Prop} {XC : String → State → State → Prop} {mc ms : Nat} {free : Addr → Prop} {bytes : ByteArray} {maxL : Nat} {ret : Option FieldType}
    (hM : vx_Met l y ws rm Pc Qc XC mc ms free) (hblind : FrameBlind Pc) (hrc : rm.cells = mc) (hrs : rm.slots = ms)
    (hframes : rm.frames + 1 ≤ R.frames) (hlocals : W9 + (maxL + 11) + rm.locals ≤ R.locals)
    (hws : ∀ w ∈ ws, ∀ a' U, s.WarmedH U.vm → w.before a' U = true) (hcode : Cond.code y bytes maxL ret ∈ ws) (hinit : ∀ a' U, s.WarmedH U.vm → (Cond.initialized y.cls).before a' U = true) :
    vx_Back l R p e below s sargs y len W9 (PreOf R mc ms Pc) (PostOf Qc mc ms free) (vx_Post XC mc ms free) := by
  intro m meth c A g ig mk a X hg hsize hdg hW hn hp
  have h1 : (headSpec ws rm).pre.before a A.U = true := atoms_intro fun w hw => hws w hw _ _ X.warmed
  have h2 : (Cond.code y bytes maxL ret).before a A.U = true := hws _ hcode _ _ X.warmed
  have h3 : (Cond.initialized y.cls).before a A.U = true := hinit _ _ X.warmed
  have h4 : A.cells + (headSpec ws rm).room.cells ≤ R.cells := by rw [show (headSpec ws rm).room.cells = mc from hrc]; exact hp.1
  have h5 : A.slots + (headSpec ws rm).room.slots ≤ R.slots := by rw [show (headSpec ws rm).room.slots = ms from hrs]; exact hp.2.1
  have hPc : Pc a (A.U.calling g mk a) := hblind _ _ _ _ hp.2.2
  obtain ⟨U, Ls, c0, s0⟩ := A
  dsimp only [Pt.U, Pt.locs, Pt.cells, Pt.slots] at h1 h2 h3 h4 h5 X hn hPc ⊢
  obtain ⟨methY, cY, hmY, hcY, -, hlY, -, -, -, -⟩ := Cond.code_spec hn h2
  obtain ⟨kY, hkY, -⟩ := className_of_methodNamed hn
  have hinitY : kY.init = .initialized := Cond.initialized_spec (findClass_of_methodNamed hn) hkY h3
  have h : At U g.method c below := by rw [hg]; exact X.here
  have hlocals9 : W9 + (maxL + 11) + (headSpec ws rm).room.locals ≤ R.locals := hlocals
  have happ : (headSpec ws rm).appliesLoose y e.platform (U.calling g mk a) = true :=
    Spec.appliesLoose_calling (g := g) h hdg hn hkY hinitY
      (X.room_calling (g := g) (R' := (headSpec ws rm).room) hsize hmY hcY hframes (by rw [hlY]; omega) h4 h5) h1
  obtain ⟨mid, hmid⟩ := h.above
  have hfr : (U.setTop g).frames = (.java g :: mid) ++ below := by rw [State.frames_setTop' g h.top, hmid]; rfl
  obtain ⟨o, s₂, hsteps, -, hend, hq⟩ := Steps.callFree hM p X.admits X.cas X.clock (acts := []) hfr happ hPc trivial
  have hq' : vx_Q Qc XC mc ms free a (U.calling g mk a) o s₂ := hq
  rw [State.frames_setTop' g h.top] at hend
  obtain ⟨g₀, hg0⟩ := Option.isSome_iff_exists.mp h.top
  obtain ⟨r, hr⟩ := State.topJava?_eq_some.mp hg0
  have hr' : (({ U with heap := s₂.heap, slotsUsed := s₂.slotsUsed } : State).setVm s₂.vm).frames = .java g₀ :: r := hr
  rcases hq' with ⟨hqc, L, hfe, hL⟩ | ⟨q, rfl, E, ce, L, hx, hce, hcv, hcl, hW₂, hsm, hL⟩
  · obtain ⟨⟨v, rfl⟩, hW₂, e2, q2, q3, q4, q5, q6⟩ := id hfe
    have e3 : s₂ = ({ (U.calling g mk a).setFrames s₂.frames with heap := s₂.heap, slotsUsed := s₂.slotsUsed } : State).setVm s₂.vm := by
      have : s₂ = ({ s₂ with vm := (U.calling g mk a).vm } : State).setVm s₂.vm := rfl
      rw [e2] at this
      exact this
    obtain ⟨c₂, i₂, len₂, hc₂, hd₂, hf₂⟩ := hend
    have hW' : U.WarmedH s₂.vm := hW₂
    have hcc : c₂ = c := by
      have h1 : s₂.code? g.method = U.code? g.method := by
        rw [State.code?_eq, State.code?_eq, hW'.alike.method?]
      exact Option.some.inj (hc₂.symm.trans (h1.trans h.code))
    subst hcc
    have hlen : len₂ = len := by rw [hdg] at hd₂; cases hd₂; rfl
    subst hlen
    have hs₂ : s₂ = (({ U with heap := s₂.heap, slotsUsed := s₂.slotsUsed } : State).setVm s₂.vm).setTop { g with pc := g.pc + len₂, stack := v.toList ++ g.stack } := by
      refine e3.trans ?_
      rw [hf₂, State.calling_eq h.top, State.setFrames_setFrames, State.setTop_of_frames _ hr', hr]
      rfl
    have hsame : U.sameButNew ({ U with heap := s₂.heap, slotsUsed := s₂.slotsUsed } : State) L mc ms := by
      refine ⟨?_, q2, q3, q4, q5, q6⟩
      obtain ⟨t, ht, -⟩ := State.frames_cons hr
      show ({ U with heap := s₂.heap, slotsUsed := s₂.slotsUsed } : State) = { U.setFrames U.frames with heap := s₂.heap, slotsUsed := s₂.slotsUsed }
      rw [State.setFrames_self ht]
    subst hg
    refine Or.inl ⟨v, ⟨(({ U with heap := s₂.heap, slotsUsed := s₂.slotsUsed } : State).setVm s₂.vm), Ls ++ L, c0 + mc, s0 + ms⟩,
      ⟨X.admits, X.cas, X.clock, X.frames, X.room, X.hears, X.method, X.code, (X.here.setHeapUsed s₂.heap s₂.slotsUsed).setVm hW'.alike, X.tail, State.WarmedH.trans X.warmed hW', X.limits, X.bytes, X.same.trans (hsame.setVm s.vm)⟩,
      ⟨g, mk, s₂, L, rfl, rfl, hqc, rfl, hL, rfl, rfl⟩, ?_⟩
    show Steps p.tables e below _ ((({ U with heap := s₂.heap, slotsUsed := s₂.slotsUsed } : State).setVm s₂.vm).setTop { g with pc := g.pc + len₂, stack := v.toList ++ g.stack })
    rw [← hs₂]
    exact hsteps
  · obtain ⟨e2, q2, q3, q4, q5, q6⟩ := id hsm
    have e3 : s₂ = ({ (U.calling g mk a).setFrames s₂.frames with heap := s₂.heap, slotsUsed := s₂.slotsUsed } : State).setVm s₂.vm := by
      have : s₂ = ({ s₂ with vm := (U.calling g mk a).vm } : State).setVm s₂.vm := rfl
      rw [e2] at this
      exact this
    have hf₂ : s₂.frames = .throwing q :: .java g :: U.frames.tail := hend
    have hW' : U.WarmedH s₂.vm := hW₂
    have hs₂ : s₂ = ((({ U with heap := s₂.heap, slotsUsed := s₂.slotsUsed } : State).setVm s₂.vm).setTop g).pushFrame (.throwing q) := by
      refine e3.trans ?_
      rw [hf₂, State.calling_eq h.top, State.setFrames_setFrames, State.pushFrame, State.frames_setTop _ hr', State.setTop_of_frames _ hr', State.setFrames_setFrames, hr]
      rfl
    have hsame : U.sameButNew ({ U with heap := s₂.heap, slotsUsed := s₂.slotsUsed } : State) L mc ms := by
      refine ⟨?_, q2, q3, q4, q5, q6⟩
      obtain ⟨t, ht, -⟩ := State.frames_cons hr
      show ({ U with heap := s₂.heap, slotsUsed := s₂.slotsUsed } : State) = { U.setFrames U.frames with heap := s₂.heap, slotsUsed := s₂.slotsUsed }
      rw [State.setFrames_self ht]
    subst hg
    refine Or.inr ⟨q, ⟨(({ U with heap := s₂.heap, slotsUsed := s₂.slotsUsed } : State).setVm s₂.vm), Ls ++ L, c0 + mc, s0 + ms⟩,
      ⟨X.admits, X.cas, X.clock, X.frames, X.room, X.hears, X.method, X.code, (X.here.setHeapUsed s₂.heap s₂.slotsUsed).setVm hW'.alike, X.tail, State.WarmedH.trans X.warmed hW', X.limits, X.bytes, X.same.trans (hsame.setVm s.vm)⟩,
      ⟨g, mk, s₂, L, E, ce, rfl, rfl, hx, hce, hcv, hcl, rfl, hL, rfl, rfl⟩, ?_⟩
    show Steps p.tables e below _ (((({ U with heap := s₂.heap, slotsUsed := s₂.slotsUsed } : State).setVm s₂.vm).setTop g).pushFrame (.throwing q))
    rw [← hs₂]
    exact hsteps
end Payer
section Calls
variable {p : Program} {l : Launch} {e : Env} {R : Room} {s : State} {m : MethodId} {args : Array Value} {below : List Frame} {meth : Method} {c : Code} {T : State} {locs : List Loc} {cells slots : Nat}
theorem vx_callV (X : Stand p l e R s m args below meth c T locs cells slots) (hexec : p.tables.exec = Jvm.exec) {own C : String} {index : Nat} {y : MethodName} {bytes : ByteArray} {maxL : Nat} {ret : Option FieldType}
    (hown : s.vm.findClass own = some m.cls) (hlink : (Cond.methodLink own index y).before args s = true) (hinst : (Cond.instanceMethod y).before args s = true) (hsel : (Cond.selects C y y).before args s = true)
    (hcode : (Cond.code y bytes maxL ret).before args s = true) (hy : y.cls ≠ "java/lang/invoke/MethodHandle" ∧ y.cls ≠ "java/lang/invoke/VarHandle")
    {W9 : Nat} {Pre : Pt → Array Value → Prop} {Post : Pt → Array Value → Option Value → Pt → Prop} {PostX : Pt → Array Value → Addr → Pt → Prop} (hK : vx_Back l R p e below s args y 3 W9 Pre Post PostX)
    {b : Addr} {cellB : Cell} (hcell : T.heap[b]? = some cellB) (hobj : cellB.vm.isStatics = false) (hcls : s.vm.findClass C = some cellB.cls)
    {g : JFrame} (hg : g.method = m) (hsize : g.locals.size = c.maxLocals) {argsL rest : List Value} (hlen : ∀ sig, parseMethodDescriptor y.desc = some sig → argsL.length = sig.parameters.length)
    (hstack : g.stack = argsL.reverse ++ .ref b :: rest) (hW : 2 * g.monitorRoom + (rest.map fun v => v.category).sum ≤ W9) (hdg : decode c.code g.pc = .ok (.invokevirtual index, 3))
    (hpre : ∀ vm₁, s.WarmedH vm₁ → Pre ⟨T.setVm vm₁, locs, cells, slots⟩ (Value.ref b :: argsL).toArray) :
    (∃ (v : Option Value) (vm₁ : Vm) (B : Pt), s.WarmedH vm₁ ∧ Stand p l e R s m args below meth c B.U B.locs B.cells B.slots ∧ Post ⟨T.setVm vm₁, locs, cells, slots⟩ (Value.ref b :: argsL).toArray v B ∧
      ∀ target, Steps p.tables e below (B.U.setTop { g with pc := g.pc + 3, stack := v.toList ++ rest }) target → Steps p.tables e below (T.setTop g) target) ∨
    (∃ (q : Addr) (vm₁ : Vm) (B : Pt), s.WarmedH vm₁ ∧ Stand p l e R s m args below meth c B.U B.locs B.cells B.slots ∧ PostX ⟨T.setVm vm₁, locs, cells, slots⟩ (Value.ref b :: argsL).toArray q B ∧
      Steps p.tables e below (T.setTop g) ((B.U.setTop { g with stack := rest }).pushFrame (.throwing q))) := by
  obtain ⟨mk, methM, hnamed, hmethM, hstM, habM⟩ := Cond.instanceMethod_spec hinst
  obtain ⟨methM', cM, hmethM', -, -, -, -, -, -, hsigM⟩ := Cond.code_spec hnamed hcode
  cases hmethM.symm.trans hmethM'
  obtain ⟨c2, r2, m2, q1, q2, q3, q4, kP, hkP, hkPi⟩ := Cond.selects_spec hsel
  cases hcls.symm.trans q1
  cases (State.methodFound?_of_named hnamed hy).symm.trans q2
  cases hnamed.symm.trans q3
  have hselP : selectMethod e.platform s.vm cellB.cls mk = .method mk := by rw [Launch.admits_selectMethod X.admits]; exact q4
  obtain ⟨vm₁, X₁, hstep₁⟩ := X.invokevirtual hexec hown hlink hnamed hmethM hstM hkP hkPi hy (a := b) (cell := cellB) hcell
    (fun z h => by rw [h] at hobj; cases hobj) hselP hmethM habM hkP hkPi (g := g) hg (argsL := argsL) (rest := rest) (hlen _ hsigM) hstack hdg
  rcases hK m meth c ⟨T.setVm vm₁, locs, cells, slots⟩ { g with stack := rest } (.invokevirtual index) mk (Value.ref b :: argsL).toArray X₁ hg hsize hdg hW (X₁.named hnamed) (hpre vm₁ X₁.warmed) with ⟨v, B, X', hpost, hsteps⟩ | ⟨q, B, X', hpost, hsteps⟩
  · exact Or.inl ⟨v, vm₁, B, X₁.warmed, X', hpost, fun target h => hstep₁ _ fun acts => by rw [doInvoke_state]; exact hsteps.trans h⟩
  · exact Or.inr ⟨q, vm₁, B, X₁.warmed, X', hpost, hstep₁ _ fun acts => by rw [doInvoke_state]; exact hsteps⟩
theorem vx_callS (X : Stand p l e R s m args below meth c T locs cells slots) (hexec : p.tables.exec = Jvm.exec) {own : String} {index : Nat} {y : MethodName} {bytes : ByteArray} {maxL : Nat} {ret : Option FieldType}
    (hown : s.vm.findClass own = some m.cls) (hlink : (Cond.methodLink own index y).before args s = true) (hstat : (Cond.static y).before args s = true) (hinit : (Cond.initialized y.cls).before args s = true)
    (hcode : (Cond.code y bytes maxL ret).before args s = true) (hy : y.cls ≠ "java/lang/invoke/MethodHandle" ∧ y.cls ≠ "java/lang/invoke/VarHandle")
    {W9 : Nat} {Pre : Pt → Array Value → Prop} {Post : Pt → Array Value → Option Value → Pt → Prop} {PostX : Pt → Array Value → Addr → Pt → Prop} (hK : vx_Back l R p e below s args y 3 W9 Pre Post PostX)
    {g : JFrame} (hg : g.method = m) (hsize : g.locals.size = c.maxLocals) {argsL rest : List Value} (hlen : ∀ sig, parseMethodDescriptor y.desc = some sig → argsL.length = sig.parameters.length)
    (hstack : g.stack = argsL.reverse ++ rest) (hW : 2 * g.monitorRoom + (rest.map fun v => v.category).sum ≤ W9) (hdg : decode c.code g.pc = .ok (.invokestatic index, 3))
    (hpre : ∀ vm₁, s.WarmedH vm₁ → Pre ⟨T.setVm vm₁, locs, cells, slots⟩ argsL.toArray) :
    (∃ (v : Option Value) (vm₁ : Vm) (B : Pt), s.WarmedH vm₁ ∧ Stand p l e R s m args below meth c B.U B.locs B.cells B.slots ∧ Post ⟨T.setVm vm₁, locs, cells, slots⟩ argsL.toArray v B ∧
      ∀ target, Steps p.tables e below (B.U.setTop { g with pc := g.pc + 3, stack := v.toList ++ rest }) target → Steps p.tables e below (T.setTop g) target) ∨
    (∃ (q : Addr) (vm₁ : Vm) (B : Pt), s.WarmedH vm₁ ∧ Stand p l e R s m args below meth c B.U B.locs B.cells B.slots ∧ PostX ⟨T.setVm vm₁, locs, cells, slots⟩ argsL.toArray q B ∧
      Steps p.tables e below (T.setTop g) ((B.U.setTop { g with stack := rest }).pushFrame (.throwing q))) := by
  obtain ⟨mk, hnamed⟩ := Cond.code_named hcode
  obtain ⟨methM, cM, hmethM, -, -, -, -, -, -, hsigM⟩ := Cond.code_spec hnamed hcode
  have hstatic : methM.isStatic = true := Cond.static_spec hnamed hmethM hstat
  obtain ⟨kP, hkP, -⟩ := className_of_methodNamed hnamed
  have hinitP : kP.init = .initialized := Cond.initialized_spec (findClass_of_methodNamed hnamed) hkP hinit
  obtain ⟨vm₁, X₁, hstep₁⟩ := X.invokestatic hexec hown hlink hnamed hmethM hstatic hkP hinitP hy (g := g) hg (argsL := argsL) (rest := rest) (hlen _ hsigM) hstack hdg
  rcases hK m meth c ⟨T.setVm vm₁, locs, cells, slots⟩ { g with stack := rest } (.invokestatic index) mk argsL.toArray X₁ hg hsize hdg hW (X₁.named hnamed) (hpre vm₁ X₁.warmed) with ⟨v, B, X', hpost, hsteps⟩ | ⟨q, B, X', hpost, hsteps⟩
  · exact Or.inl ⟨v, vm₁, B, X₁.warmed, X', hpost, fun target h => hstep₁ _ fun acts => by rw [doInvoke_state]; exact hsteps.trans h⟩
  · exact Or.inr ⟨q, vm₁, B, X₁.warmed, X', hpost, hstep₁ _ fun acts => by rw [doInvoke_state]; exact hsteps⟩
end Calls
theorem vx_cls {s : State} {T : State} {vm₁ : Vm} {E : String} {k : ClassId} (hW : s.WarmedH vm₁) (h : (T.setVm vm₁).vm.findClass E = some k) : s.vm.findClass E = some k := by
  have h1 : vm₁.findClass E = some k := h
  rw [hW.alike.findClass] at h1
  exact h1
/-- the method's frame g, with q thrown over it -/
def vx_W (p : Program) (l : Launch) (e : Env) (R : Room) (s : State) (m : MethodId) (args : Array Value) (below : List Frame) (meth : Method) (c : Code) (H : Heap) (locs : List Loc) (cells slots : Nat) (Q : State → Prop) (g : JFrame) (q : Addr) : Prop :=
  ∀ T : State, T.heap = H → Stand p l e R s m args below meth c T locs cells slots → ∃ t, Steps p.tables e below ((T.setTop g).pushFrame (.throwing q)) t ∧ Q t
def vx_Run (p : Program) (l : Launch) (e : Env) (R : Room) (s : State) (m : MethodId) (args : Array Value) (below : List Frame) (meth : Method) (c : Code) (H : Heap) (locs : List Loc) (cells slots mc ms : Nat) (g : JFrame) (rest : List Value) (Qa : State → Outcome → State → Prop) (XC : String → State → State → Prop) (free : Addr → Prop) : Prop :=
  ∀ T : State, T.heap = H → Stand p l e R s m args below meth c T locs cells slots →
    (∃ (v : Option Value) (st₀ t T' : State) (L : List Loc), st₀.heap = H ∧ Stand p l e R s m args below meth c T' (locs ++ L) (cells + mc) (slots + ms) ∧ (∀ q ∈ L, free q.base) ∧ T'.heap = t.heap ∧ T'.vm = t.vm ∧ Qa st₀ (.returned v) t ∧
      Goes p e below T g T' { g with pc := g.pc + 3, stack := v.toList ++ rest }) ∨
    (∃ (q : Addr) (st₀ t T' : State) (L : List Loc) (E : String) (ce : Cell), st₀.heap = H ∧ Stand p l e R s m args below meth c T' (locs ++ L) (cells + mc) (slots + ms) ∧ (∀ z ∈ L, free z.base) ∧ T'.heap = t.heap ∧ T'.vm = t.vm ∧ XC E st₀ t ∧ t.heap[q]? = some ce ∧ ce.vm = .none ∧ s.vm.findClass E = some ce.cls ∧
      Steps p.tables e below (T.setTop g) ((T'.setTop { g with stack := rest }).pushFrame (.throwing q)))
def vx_X {S : Type} (px : S → Prop) (B : String → S → State → Prop) (A : Nat → Prop) : String → State → State → Prop := fun E st t => ∃ u : S, px u ∧ B E u t ∧ va_F A st t
section Runs
variable {p : Program} {l : Launch} {e : Env} {R : Room} {s : State} {m : MethodId} {args : Array Value} {below : List Frame} {meth : Method} {c : Code} {H : Heap} {locs : List Loc} {cells slots : Nat}
variable {y : MethodName} {bytes cc : ByteArray} {maxL nL mc ms n index : Nat} {ret : Option FieldType} {ws : List Cond} {rm : Room} {Pc : Array Value → State → Prop} {Qc : Array Value → State → Outcome → State → Prop} {XC : String → State → State → Prop} {free : Addr → Prop} {Ts : List Cond} {own C : String} {b : Addr} {As rest : List Value} {g : JFrame}
theorem vx_callBack (cb : CallB R s args own index y bytes maxL ret ws rm mc ms n) (hM : vx_Met l y ws rm Pc Qc XC mc ms free) (hbl : FrameBlind Pc) : vx_Back l R p e below s args y 3 8 (PreOf R mc ms Pc) (PostOf Qc mc ms free) (vx_Post XC mc ms free) := by
  obtain ⟨hrc, hrs, hfr, hlo, hws, hcw, -, hini, -⟩ := cb
  exact vx_back (bytes := bytes) (maxL := maxL) (ret := ret) hM hbl hrc hrs hfr hlo hws hcw (fun a' U hW => word_at hW (Or.inl (by first | rfl | simp [Cond.onTables, Cond.keeps, Cond.steady])) hini)
theorem vx_runV (S : CallFix p m c cc nL s args Ts own) (hM : vx_Met l y ws rm Pc Qc XC mc ms free) (cw : CallW R s args own C index y bytes maxL ret ws rm mc ms n) (hp : PreV s H C b Pc As)
    (hg : g.method = m) (hn : As.length = n) (hsize : g.locals.size = nL) (hstack : g.stack = As.reverse ++ .ref b :: rest) (hW : 2 * g.monitorRoom + (rest.map fun v => v.category).sum ≤ 8) (hdg : decode cc g.pc = .ok (.invokevirtual index, 3)) (hf : cells + mc ≤ R.cells ∧ slots + ms ≤ R.slots) :
    vx_Run p l e R s m args below meth c H locs cells slots mc ms g rest (Qc (Value.ref b :: As).toArray) XC free := by
  have hK : vx_Back l R p e below s args y 3 8 (PreOf R mc ms Pc) (PostOf Qc mc ms free) (vx_Post XC mc ms free) := vx_callBack cw.1 hM hp.1
  obtain ⟨⟨-, -, -, -, -, -, hcode, -, hy, hlen, hl⟩, hin, hse⟩ := cw
  obtain ⟨hx, hb, hml, ho, -⟩ := S
  obtain ⟨-, ⟨cellB, hcB, hoB, hclB⟩, hPc⟩ := hp
  intro T hT X
  rcases vx_callV X hx (C := C) (bytes := bytes) (maxL := maxL) (ret := ret) ho hl hin hse hcode hy hK (by rw [hT]; exact hcB) hoB hclB hg (hsize.trans hml.symm) (argsL := As) (rest := rest) (fun sig h => hn.trans (hlen sig h)) hstack hW (by rw [hb]; exact hdg)
    (fun vm₁ hW₁ => ⟨hf.1, hf.2, hPc (T.setVm vm₁) hT hW₁⟩) with ⟨v, vm₁, ⟨U', l2, c2, s2⟩, hW₁, X', ⟨g', mk, t, L, e1, e2, hq, h1, hL, h2, h3⟩, st⟩ | ⟨q, vm₁, ⟨U', l2, c2, s2⟩, hW₁, X', ⟨g', mk, t, L, E, ce, e1, e2, hq, hce, hcv, hcl, h1, hL, h2, h3⟩, st⟩
  · dsimp only [Pt.U, Pt.locs, Pt.cells, Pt.slots] at X' e1 e2 h1 h2 h3 st
    subst h1; subst h2; subst h3
    exact Or.inl ⟨v, (T.setVm vm₁).calling g' mk (Value.ref b :: As).toArray, t, U', L, hT, X', hL, e1, e2, hq, st⟩
  · dsimp only [Pt.U, Pt.locs, Pt.cells, Pt.slots] at X' e1 e2 h1 h2 h3 st hcl
    subst h1; subst h2; subst h3
    exact Or.inr ⟨q, (T.setVm vm₁).calling g' mk (Value.ref b :: As).toArray, t, U', L, E, ce, hT, X', hL, e1, e2, hq, hce, hcv, vx_cls hW₁ hcl, st⟩
theorem vx_runS (S : CallFix p m c cc nL s args Ts own) (hM : vx_Met l y ws rm Pc Qc XC mc ms free) (cw : CallB R s args own index y bytes maxL ret ws rm mc ms n ∧ (Cond.static y).before args s = true) (hp : PreS s H Pc As)
    (hg : g.method = m) (hn : As.length = n) (hsize : g.locals.size = nL) (hstack : g.stack = As.reverse ++ rest) (hW : 2 * g.monitorRoom + (rest.map fun v => v.category).sum ≤ 8) (hdg : decode cc g.pc = .ok (.invokestatic index, 3)) (hf : cells + mc ≤ R.cells ∧ slots + ms ≤ R.slots) :
    vx_Run p l e R s m args below meth c H locs cells slots mc ms g rest (Qc As.toArray) XC free := by
  have hK : vx_Back l R p e below s args y 3 8 (PreOf R mc ms Pc) (PostOf Qc mc ms free) (vx_Post XC mc ms free) := vx_callBack cw.1 hM hp.1
  obtain ⟨⟨-, -, -, -, -, -, hcode, hini, hy, hlen, hl⟩, hstt⟩ := cw
  obtain ⟨hx, hb, hml, ho, -⟩ := S
  intro T hT X
  rcases vx_callS X hx (bytes := bytes) (maxL := maxL) (ret := ret) ho hl hstt hini hcode hy hK hg (hsize.trans hml.symm) (argsL := As) (rest := rest) (fun sig h => hn.trans (hlen sig h)) hstack hW (by rw [hb]; exact hdg)
    (fun vm₁ hW₁ => ⟨hf.1, hf.2, hp.2 (T.setVm vm₁) hT hW₁⟩) with ⟨v, vm₁, ⟨U', l2, c2, s2⟩, hW₁, X', ⟨g', mk, t, L, e1, e2, hq, h1, hL, h2, h3⟩, st⟩ | ⟨q, vm₁, ⟨U', l2, c2, s2⟩, hW₁, X', ⟨g', mk, t, L, E, ce, e1, e2, hq, hce, hcv, hcl, h1, hL, h2, h3⟩, st⟩
  · dsimp only [Pt.U, Pt.locs, Pt.cells, Pt.slots] at X' e1 e2 h1 h2 h3 st
    subst h1; subst h2; subst h3
    exact Or.inl ⟨v, (T.setVm vm₁).calling g' mk As.toArray, t, U', L, hT, X', hL, e1, e2, hq, st⟩
  · dsimp only [Pt.U, Pt.locs, Pt.cells, Pt.slots] at X' e1 e2 h1 h2 h3 st hcl
    subst h1; subst h2; subst h3
    exact Or.inr ⟨q, (T.setVm vm₁).calling g' mk As.toArray, t, U', L, E, ce, hT, X', hL, e1, e2, hq, hce, hcv, vx_cls hW₁ hcl, st⟩
end Runs
section Rows
variable {p : Program} {l : Launch} {e : Env} {R : Room} {s : State} {m : MethodId} {args : Array Value} {below : List Frame} {meth : Method} {c : Code} {H : Heap} {locs : List Loc} {cells slots : Nat} {Q : State → Prop}
variable {mc ms : Nat} {free : Addr → Prop} {A0 A1 : Nat → Prop} {H0 : Heap} {a : Array Value} {pc : Nat} {ls : Array Slot} {st0 rest : List Value}
theorem vx_keep {st₀ t T' : State} {L : List Loc} (h0 : st₀.heap = H) (e1 : T'.heap = t.heap) (hS : va_S A0 H0 H locs) (hA : ∀ q, q < H.size → A1 q → A0 q) (hf : ∀ q, free q → A0 q) (hL : ∀ q ∈ L, free q.base) (hF : va_F A1 st₀ t) :
    H.size ≤ T'.heap.size ∧ (∀ q : Nat, q < H.size → ¬ A1 q → T'.heap[q]? = H[q]?) ∧ va_S A0 H0 T'.heap (locs ++ L) := by
  obtain ⟨hz, hk⟩ := hF
  rw [h0] at hz hk
  exact ⟨by rw [e1]; exact hz, fun q h1 h2 => by rw [e1]; exact hk q h1 h2,
    ⟨Nat.le_trans hS.1 (by rw [e1]; exact hz), fun q h1 h2 => by rw [e1, hk q (Nat.lt_of_lt_of_le h1 hS.1) (fun z => h2 (hA q (Nat.lt_of_lt_of_le h1 hS.1) z))]; exact hS.2.1 q h1 h2, fun q hq => by
      rcases List.mem_append.mp hq with h | h
      · exact hS.2.2 q h
      · exact hf _ (hL q h)⟩⟩
theorem vx_calli {S SX : Type} {post : Int32 → S → Prop} {px : SX → Prop} {B : S → State → Prop} {BX : String → SX → State → Prop} {AX : Nat → Prop} (hr : vx_Run p l e R s m args below meth c H locs cells slots mc ms (F0 m pc ls st0) rest (va_Qi post B A1 a) (vx_X px BX AX) free) (hS : va_S A0 H0 H locs) (hA : ∀ q, q < H.size → A1 q → A0 q) (hf : ∀ q, free q → A0 q) (hAX : ∀ q, q < H.size → AX q → A0 q)
    (kx : ∀ (E : String) (ce : Cell) (q9 : Addr) (u : SX) (t : State) (H1 : Heap) (locs1 : List Loc), t.heap = H1 → s.vm.Alike t.vm → px u → BX E u t → H.size ≤ H1.size → (∀ q : Nat, q < H.size → ¬ AX q → H1[q]? = H[q]?) → va_S A0 H0 H1 locs1 → H1[q9]? = some ce → ce.vm = .none → s.vm.findClass E = some ce.cls → vx_W p l e R s m args below meth c H1 locs1 (cells + mc) (slots + ms) Q (F0 m pc ls rest) q9)
    (kk : ∀ (r : Int32) (u : S) (t : State) (H1 : Heap) (locs1 : List Loc), t.heap = H1 → s.vm.Alike t.vm → post r u → B u t → H.size ≤ H1.size → (∀ q : Nat, q < H.size → ¬ A1 q → H1[q]? = H[q]?) → va_S A0 H0 H1 locs1 → W p l e R s m args below meth c H1 locs1 (cells + mc) (slots + ms) Q (F0 m (pc + 3) ls (.int r :: rest))) : W p l e R s m args below meth c H locs cells slots Q (F0 m pc ls st0) := by
  intro T hT X
  rcases hr T hT X with ⟨v, st₀, t, T', L, h0, X', hL, e1, e2, ⟨⟨r, u, hv, hp, hb⟩, hF⟩, st⟩ | ⟨q, st₀, t, T', L, E, ce, h0, X', hL, e1, e2, ⟨u, hp, hb, hF⟩, hce, hcv, hcl, st⟩
  · cases hv
    obtain ⟨k1, k2, k3⟩ := vx_keep h0 e1 hS hA hf hL hF
    obtain ⟨t2, a1, b1⟩ := kk r u t T'.heap (locs ++ L) e1.symm (by rw [← e2]; exact X'.warmed.alike) hp hb k1 k2 k3 T' rfl X'
    exact ⟨t2, st t2 a1, b1⟩
  · obtain ⟨k1, k2, k3⟩ := vx_keep h0 e1 hS hAX hf hL hF
    obtain ⟨t2, a1, b1⟩ := kx E ce q u t T'.heap (locs ++ L) e1.symm (by rw [← e2]; exact X'.warmed.alike) hp hb k1 k2 k3 (by rw [e1]; exact hce) hcv hcl T' rfl X'
    exact ⟨t2, st.trans a1, b1⟩
theorem vx_calll {S SX : Type} {post : Int64 → S → Prop} {px : SX → Prop} {B : S → State → Prop} {BX : String → SX → State → Prop} {AX : Nat → Prop} (hr : vx_Run p l e R s m args below meth c H locs cells slots mc ms (F0 m pc ls st0) rest (va_Ql post B A1 a) (vx_X px BX AX) free) (hS : va_S A0 H0 H locs) (hA : ∀ q, q < H.size → A1 q → A0 q) (hf : ∀ q, free q → A0 q) (hAX : ∀ q, q < H.size → AX q → A0 q)
    (kx : ∀ (E : String) (ce : Cell) (q9 : Addr) (u : SX) (t : State) (H1 : Heap) (locs1 : List Loc), t.heap = H1 → s.vm.Alike t.vm → px u → BX E u t → H.size ≤ H1.size → (∀ q : Nat, q < H.size → ¬ AX q → H1[q]? = H[q]?) → va_S A0 H0 H1 locs1 → H1[q9]? = some ce → ce.vm = .none → s.vm.findClass E = some ce.cls → vx_W p l e R s m args below meth c H1 locs1 (cells + mc) (slots + ms) Q (F0 m pc ls rest) q9)
    (kk : ∀ (r : Int64) (u : S) (t : State) (H1 : Heap) (locs1 : List Loc), t.heap = H1 → s.vm.Alike t.vm → post r u → B u t → H.size ≤ H1.size → (∀ q : Nat, q < H.size → ¬ A1 q → H1[q]? = H[q]?) → va_S A0 H0 H1 locs1 → W p l e R s m args below meth c H1 locs1 (cells + mc) (slots + ms) Q (F0 m (pc + 3) ls (.long r :: rest))) : W p l e R s m args below meth c H locs cells slots Q (F0 m pc ls st0) := by
  intro T hT X
  rcases hr T hT X with ⟨v, st₀, t, T', L, h0, X', hL, e1, e2, ⟨⟨r, u, hv, hp, hb⟩, hF⟩, st⟩ | ⟨q, st₀, t, T', L, E, ce, h0, X', hL, e1, e2, ⟨u, hp, hb, hF⟩, hce, hcv, hcl, st⟩
  · cases hv
    obtain ⟨k1, k2, k3⟩ := vx_keep h0 e1 hS hA hf hL hF
    obtain ⟨t2, a1, b1⟩ := kk r u t T'.heap (locs ++ L) e1.symm (by rw [← e2]; exact X'.warmed.alike) hp hb k1 k2 k3 T' rfl X'
    exact ⟨t2, st t2 a1, b1⟩
  · obtain ⟨k1, k2, k3⟩ := vx_keep h0 e1 hS hAX hf hL hF
    obtain ⟨t2, a1, b1⟩ := kx E ce q u t T'.heap (locs ++ L) e1.symm (by rw [← e2]; exact X'.warmed.alike) hp hb k1 k2 k3 (by rw [e1]; exact hce) hcv hcl T' rfl X'
    exact ⟨t2, st.trans a1, b1⟩
theorem vx_callf {S SX : Type} {post : UInt32 → S → Prop} {px : SX → Prop} {B : S → State → Prop} {BX : String → SX → State → Prop} {AX : Nat → Prop} (hr : vx_Run p l e R s m args below meth c H locs cells slots mc ms (F0 m pc ls st0) rest (va_Qf post B A1 a) (vx_X px BX AX) free) (hS : va_S A0 H0 H locs) (hA : ∀ q, q < H.size → A1 q → A0 q) (hf : ∀ q, free q → A0 q) (hAX : ∀ q, q < H.size → AX q → A0 q)
    (kx : ∀ (E : String) (ce : Cell) (q9 : Addr) (u : SX) (t : State) (H1 : Heap) (locs1 : List Loc), t.heap = H1 → s.vm.Alike t.vm → px u → BX E u t → H.size ≤ H1.size → (∀ q : Nat, q < H.size → ¬ AX q → H1[q]? = H[q]?) → va_S A0 H0 H1 locs1 → H1[q9]? = some ce → ce.vm = .none → s.vm.findClass E = some ce.cls → vx_W p l e R s m args below meth c H1 locs1 (cells + mc) (slots + ms) Q (F0 m pc ls rest) q9)
    (kk : ∀ (r : UInt32) (u : S) (t : State) (H1 : Heap) (locs1 : List Loc), t.heap = H1 → s.vm.Alike t.vm → post r u → B u t → H.size ≤ H1.size → (∀ q : Nat, q < H.size → ¬ A1 q → H1[q]? = H[q]?) → va_S A0 H0 H1 locs1 → W p l e R s m args below meth c H1 locs1 (cells + mc) (slots + ms) Q (F0 m (pc + 3) ls (.float r :: rest))) : W p l e R s m args below meth c H locs cells slots Q (F0 m pc ls st0) := by
  intro T hT X
  rcases hr T hT X with ⟨v, st₀, t, T', L, h0, X', hL, e1, e2, ⟨⟨r, u, hv, hp, hb⟩, hF⟩, st⟩ | ⟨q, st₀, t, T', L, E, ce, h0, X', hL, e1, e2, ⟨u, hp, hb, hF⟩, hce, hcv, hcl, st⟩
  · cases hv
    obtain ⟨k1, k2, k3⟩ := vx_keep h0 e1 hS hA hf hL hF
    obtain ⟨t2, a1, b1⟩ := kk r u t T'.heap (locs ++ L) e1.symm (by rw [← e2]; exact X'.warmed.alike) hp hb k1 k2 k3 T' rfl X'
    exact ⟨t2, st t2 a1, b1⟩
  · obtain ⟨k1, k2, k3⟩ := vx_keep h0 e1 hS hAX hf hL hF
    obtain ⟨t2, a1, b1⟩ := kx E ce q u t T'.heap (locs ++ L) e1.symm (by rw [← e2]; exact X'.warmed.alike) hp hb k1 k2 k3 (by rw [e1]; exact hce) hcv hcl T' rfl X'
    exact ⟨t2, st.trans a1, b1⟩
theorem vx_calld {S SX : Type} {post : UInt64 → S → Prop} {px : SX → Prop} {B : S → State → Prop} {BX : String → SX → State → Prop} {AX : Nat → Prop} (hr : vx_Run p l e R s m args below meth c H locs cells slots mc ms (F0 m pc ls st0) rest (va_Qd post B A1 a) (vx_X px BX AX) free) (hS : va_S A0 H0 H locs) (hA : ∀ q, q < H.size → A1 q → A0 q) (hf : ∀ q, free q → A0 q) (hAX : ∀ q, q < H.size → AX q → A0 q)
    (kx : ∀ (E : String) (ce : Cell) (q9 : Addr) (u : SX) (t : State) (H1 : Heap) (locs1 : List Loc), t.heap = H1 → s.vm.Alike t.vm → px u → BX E u t → H.size ≤ H1.size → (∀ q : Nat, q < H.size → ¬ AX q → H1[q]? = H[q]?) → va_S A0 H0 H1 locs1 → H1[q9]? = some ce → ce.vm = .none → s.vm.findClass E = some ce.cls → vx_W p l e R s m args below meth c H1 locs1 (cells + mc) (slots + ms) Q (F0 m pc ls rest) q9)
    (kk : ∀ (r : UInt64) (u : S) (t : State) (H1 : Heap) (locs1 : List Loc), t.heap = H1 → s.vm.Alike t.vm → post r u → B u t → H.size ≤ H1.size → (∀ q : Nat, q < H.size → ¬ A1 q → H1[q]? = H[q]?) → va_S A0 H0 H1 locs1 → W p l e R s m args below meth c H1 locs1 (cells + mc) (slots + ms) Q (F0 m (pc + 3) ls (.double r :: rest))) : W p l e R s m args below meth c H locs cells slots Q (F0 m pc ls st0) := by
  intro T hT X
  rcases hr T hT X with ⟨v, st₀, t, T', L, h0, X', hL, e1, e2, ⟨⟨r, u, hv, hp, hb⟩, hF⟩, st⟩ | ⟨q, st₀, t, T', L, E, ce, h0, X', hL, e1, e2, ⟨u, hp, hb, hF⟩, hce, hcv, hcl, st⟩
  · cases hv
    obtain ⟨k1, k2, k3⟩ := vx_keep h0 e1 hS hA hf hL hF
    obtain ⟨t2, a1, b1⟩ := kk r u t T'.heap (locs ++ L) e1.symm (by rw [← e2]; exact X'.warmed.alike) hp hb k1 k2 k3 T' rfl X'
    exact ⟨t2, st t2 a1, b1⟩
  · obtain ⟨k1, k2, k3⟩ := vx_keep h0 e1 hS hAX hf hL hF
    obtain ⟨t2, a1, b1⟩ := kx E ce q u t T'.heap (locs ++ L) e1.symm (by rw [← e2]; exact X'.warmed.alike) hp hb k1 k2 k3 (by rw [e1]; exact hce) hcv hcl T' rfl X'
    exact ⟨t2, st.trans a1, b1⟩
theorem vx_callv {S SX : Type} {post : S → Prop} {px : SX → Prop} {B : S → State → Prop} {BX : String → SX → State → Prop} {AX : Nat → Prop} (hr : vx_Run p l e R s m args below meth c H locs cells slots mc ms (F0 m pc ls st0) rest (va_Qv post B A1 a) (vx_X px BX AX) free) (hS : va_S A0 H0 H locs) (hA : ∀ q, q < H.size → A1 q → A0 q) (hf : ∀ q, free q → A0 q) (hAX : ∀ q, q < H.size → AX q → A0 q)
    (kx : ∀ (E : String) (ce : Cell) (q9 : Addr) (u : SX) (t : State) (H1 : Heap) (locs1 : List Loc), t.heap = H1 → s.vm.Alike t.vm → px u → BX E u t → H.size ≤ H1.size → (∀ q : Nat, q < H.size → ¬ AX q → H1[q]? = H[q]?) → va_S A0 H0 H1 locs1 → H1[q9]? = some ce → ce.vm = .none → s.vm.findClass E = some ce.cls → vx_W p l e R s m args below meth c H1 locs1 (cells + mc) (slots + ms) Q (F0 m pc ls rest) q9)
    (kk : ∀ (u : S) (t : State) (H1 : Heap) (locs1 : List Loc), t.heap = H1 → s.vm.Alike t.vm → post u → B u t → H.size ≤ H1.size → (∀ q : Nat, q < H.size → ¬ A1 q → H1[q]? = H[q]?) → va_S A0 H0 H1 locs1 → W p l e R s m args below meth c H1 locs1 (cells + mc) (slots + ms) Q (F0 m (pc + 3) ls (rest))) : W p l e R s m args below meth c H locs cells slots Q (F0 m pc ls st0) := by
  intro T hT X
  rcases hr T hT X with ⟨v, st₀, t, T', L, h0, X', hL, e1, e2, ⟨⟨u, hv, hp, hb⟩, hF⟩, st⟩ | ⟨q, st₀, t, T', L, E, ce, h0, X', hL, e1, e2, ⟨u, hp, hb, hF⟩, hce, hcv, hcl, st⟩
  · cases hv
    obtain ⟨k1, k2, k3⟩ := vx_keep h0 e1 hS hA hf hL hF
    obtain ⟨t2, a1, b1⟩ := kk u t T'.heap (locs ++ L) e1.symm (by rw [← e2]; exact X'.warmed.alike) hp hb k1 k2 k3 T' rfl X'
    exact ⟨t2, st t2 a1, b1⟩
  · obtain ⟨k1, k2, k3⟩ := vx_keep h0 e1 hS hAX hf hL hF
    obtain ⟨t2, a1, b1⟩ := kx E ce q u t T'.heap (locs ++ L) e1.symm (by rw [← e2]; exact X'.warmed.alike) hp hb k1 k2 k3 (by rw [e1]; exact hce) hcv hcl T' rfl X'
    exact ⟨t2, st.trans a1, b1⟩
/-- caught by the row x of this method's table; the rows ahead don't take it -/
theorem vx_catch {own name : String} {E : String} {ce : Cell} {q : Addr} (hown : s.vm.findClass own = some m.cls) (pre : List ExceptionTableEntry) (x : ExceptionTableEntry) (suf : List ExceptionTableEntry) (hsplit : c.exceptionTable.toList = pre ++ x :: suf)
    (hpass : ∀ z ∈ pre, covers z pc = false ∨ (z.catchType ≠ 0 ∧ ∃ nm : String, (Cond.classLink own z.catchType nm).before args s = true ∧ va_Nc E nm s)) (hx : covers x pc = true) (h0 : x.catchType ≠ 0)
    (hlink : (Cond.classLink own x.catchType name).before args s = true) (hcast : (Cond.castable E name).before args s = true) (hcell : H[q]? = some ce) (hv : ce.vm = .none) (hcl : s.vm.findClass E = some ce.cls)
    (kk : W p l e R s m args below meth c H locs cells slots Q (F0 m x.handlerPc ls [.ref q])) : vx_W p l e R s m args below meth c H locs cells slots Q (F0 m pc ls rest) q := by
  intro T hT X
  have hpl : e.platform.magicAccessors = ({} : Platform).magicAccessors := by rw [X.admits.platform]
  obtain ⟨c3, c4, hc3, hc4, hasg⟩ := Cond.castable_spec hcast
  cases Option.some.inj (hc3.symm.trans hcl)
  obtain ⟨c5, hc5, hcl5⟩ := Cond.classLink_spec hown hlink e.platform hpl
  cases Option.some.inj (hc4.symm.trans hc5)
  obtain ⟨vm', X', st⟩ := X.thenCaughtThrough q (g := F0 m pc ls rest) rfl (Steps.refl _) (by rw [hT]; exact hcell) (by rw [hv]; rfl) (by obtain ⟨k9, h9, -⟩ := Vm.findClass_spec hcl; exact ⟨k9, h9⟩) pre x suf hsplit
    (fun z hz => by
      rcases hpass z hz with h | ⟨hz0, nm, hl1, hn1⟩
      · exact Or.inl h
      · obtain ⟨c6, hc6, hcl6⟩ := Cond.classLink_spec hown hl1 e.platform hpl
        obtain ⟨a8, b8, h1, h2, h3⟩ := hn1
        cases Option.some.inj (h1.symm.trans hcl)
        cases Option.some.inj (h2.symm.trans hc6)
        exact Or.inr ⟨hz0, _, hcl6, h3⟩) hx (Or.inr ⟨h0, c4, hcl5, hasg⟩)
  obtain ⟨t, a1, b1⟩ := kk (T.setVm vm') hT X'
  exact ⟨t, st.trans a1, b1⟩
end Rows
section Ends
variable {p : Program} {l : Launch} {e : Env} {R : Room} {s : State} {m : MethodId} {args : Array Value} {below : List Frame} {meth : Method} {c : Code} {H : Heap} {locs : List Loc} {cells slots : Nat} {Q : State → Prop}
variable {mc ms : Nat} {free : Addr → Prop} {A0 A1 : Nat → Prop} {H0 : Heap} {a : Array Value} {ls : Array Slot} {st0 rest : List Value}
variable {Qc : Array Value → State → Outcome → State → Prop} {XC : String → State → State → Prop}
/-- what a body that may throw owes at its end -/
def vx_MQ (below : List Frame) (Qc : Array Value → State → Outcome → State → Prop) (XC : String → State → State → Prop) (a : Array Value) (s : State) (mc ms : Nat) (free : Addr → Prop) : State → Prop := fun t =>
  ∃ o, t.status = .running ∧ Ended t below o ∧ vx_Q Qc XC mc ms free a s o t
theorem vx_ret {g : JFrame} {mc ms : Nat} (k : W p l e R s m args below meth c H locs cells slots (MQ below Qc args s mc ms free) g) : W p l e R s m args below meth c H locs cells slots (vx_MQ below Qc XC args s mc ms free) g := by
  intro T hT X
  obtain ⟨t, a1, o, b1, b2, b3, b4⟩ := k T hT X
  exact ⟨t, a1, o, b1, b2, Or.inl ⟨b3, b4⟩⟩
/-- not caught here: it goes on to the caller -/
theorem vx_widen {g : JFrame} {q : Addr} {k n : Nat} (h1 : cells ≤ k) (h2 : slots ≤ n) (kk : vx_W p l e R s m args below meth c H locs k n Q g q) : vx_W p l e R s m args below meth c H locs cells slots Q g q := fun T hT X => kk T hT (stand_widen X h1 h2)
theorem vx_out {pc : Nat} {E : String} {ce : Cell} {q : Addr} {mc ms : Nat} (hout : ∀ x ∈ c.exceptionTable.toList, covers x pc = false) (hlocks : meth.locks = false) (hcell : H[q]? = some ce) (hv : ce.vm = .none) (hcl : s.vm.findClass E = some ce.cls)
    (hx : ∀ t : State, t.heap = H → s.vm.Alike t.vm → XC E s t) (hf : ∀ z ∈ locs, free z.base) (hc : cells ≤ mc) (hs : slots ≤ ms) :
    vx_W p l e R s m args below meth c H locs cells slots (vx_MQ below Qc XC args s mc ms free) (F0 m pc ls rest) q := by
  intro T hT X
  obtain ⟨st1, hrun, hend, hW, hsm⟩ := X.leaveThrown q (g := F0 m pc ls rest) rfl rfl rfl hout hlocks
  have hcell9 : (T.setFrames (.throwing q :: below)).heap[q]? = some ce := by
    show T.heap[q]? = some ce
    rw [hT]; exact hcell
  exact ⟨_, st1, .threw q, hrun, hend, Or.inr ⟨q, rfl, E, ce, locs, hx _ hT hW.alike, hcell9, hv, hcl, hW, hsm.mono hc hs, hf⟩⟩
theorem vx_frame {U : State} {k n : Nat} (h : s.sameButNew ({ U with vm := s.vm } : State) locs k n) : s.heap.size ≤ U.heap.size ∧ ∀ q : Nat, q < s.heap.size → (∀ z ∈ locs, z.base ≠ q) → U.heap[q]? = s.heap[q]? := by
  obtain ⟨-, h2, -, -, -, h6⟩ := h
  refine ⟨h2, fun q hq hz => ?_⟩
  obtain ⟨c9, e1, e2, e3, e4⟩ := h6 q _ (Array.getElem?_eq_getElem hq)
  have hs : c9.slots = (s.heap[q]).slots := Array.ext_getElem? fun i => e4 i fun hm => hz _ hm rfl
  have h9 : c9 = s.heap[q] := by
    rw [hs] at e2
    exact e2
  have e5 : U.heap[q]? = some c9 := e1
  rw [e5, h9, Array.getElem?_eq_getElem hq]
/-- the words of a throw but the four that speak of the heap -/
def vx_no (w : Cond) : Bool := decide (w ≠ .isRef (.static Bundle.tN "UNASSIGNED_STACK" Bundle.steD)) && decide (w ≠ .isRef (.static Bundle.tN "SUPPRESSED_SENTINEL" Bundle.listD)) && decide (w ≠ .laysStatic Bundle.tN "UNASSIGNED_STACK" Bundle.steD) && decide (w ≠ .laysStatic Bundle.tN "SUPPRESSED_SENTINEL" Bundle.listD)
def vx_at0 (own : String) (ic : Nat) (X : String) (names : List String) : List Cond := (Bundle.ownAtoms0 own ic X names).filter vx_no
def vx_atS (own : String) (ic : Nat) (X : String) (names : List String) : List Cond := (Bundle.ownAtoms own ic X names).filter vx_no
/-- a word that the tables alone decide, or a good one -/
def vx_ot (w : Cond) : Bool := w.onTables || goodWord w
theorem vx_ot_at {args a' : Array Value} {s U : State} {w : Cond} (hW : s.WarmedH U.vm) (hvm : s.vm = U.vm) (hg : vx_ot w = true) (h : w.before args s = true) : w.before a' U = true := by
  simp only [vx_ot, Bool.or_eq_true] at hg
  rcases hg with hg | hg
  · exact va_tabs hg hvm h
  · exact word_at hW (good_of_word hg) h
/-- a list's words: the good ones out of the method's own list, the others by premises of their own -/
theorem vx_hat {args : Array Value} {s : State} {L B : List Cond} (h1 : ∀ w ∈ L.filter goodWord, w.before args s = true) (h2 : ∀ w ∈ L.filter (fun w => !goodWord w), w ∈ B) (h3 : ∀ w ∈ B, w.before args s = true) : ∀ w ∈ L, w.before args s = true := by
  intro w hw
  by_cases g : goodWord w = true
  · exact h1 w (List.mem_filter.mpr ⟨hw, g⟩)
  · refine h3 w (h2 w (List.mem_filter.mpr ⟨hw, ?_⟩))
    show (!goodWord w) = true
    cases hgw : goodWord w
    · rfl
    · exact absurd hgw g
theorem vx_c {args : Array Value} {s : State} {w : Cond} {B : List Cond} (h : w.before args s = true) (t : ∀ w ∈ B, w.before args s = true) : ∀ w' ∈ w :: B, w'.before args s = true := fun w' h' => (List.mem_cons.mp h').elim (fun e => by rw [e]; exact h) (t w')
theorem vx_n {args : Array Value} {s : State} : ∀ w ∈ ([] : List Cond), w.before args s = true := fun _ h => nomatch h
theorem vx_own {args : Array Value} {s : State} {L : List Cond} (h1 : ∀ w ∈ L.filter vx_no, w.before args s = true)
    (hU : (Cond.isRef (.static Bundle.tN "UNASSIGNED_STACK" Bundle.steD)).before args s = true) (hN : (Cond.isRef (.static Bundle.tN "SUPPRESSED_SENTINEL" Bundle.listD)).before args s = true)
    (lU : (Cond.laysStatic Bundle.tN "UNASSIGNED_STACK" Bundle.steD).before args s = true) (lN : (Cond.laysStatic Bundle.tN "SUPPRESSED_SENTINEL" Bundle.listD).before args s = true) : ∀ w ∈ L, w.before args s = true := by
  intro w hw
  by_cases e1 : w = .isRef (.static Bundle.tN "UNASSIGNED_STACK" Bundle.steD)
  · rw [e1]; exact hU
  · by_cases e2 : w = .isRef (.static Bundle.tN "SUPPRESSED_SENTINEL" Bundle.listD)
    · rw [e2]; exact hN
    · by_cases e3 : w = .laysStatic Bundle.tN "UNASSIGNED_STACK" Bundle.steD
      · rw [e3]; exact lU
      · by_cases e4 : w = .laysStatic Bundle.tN "SUPPRESSED_SENTINEL" Bundle.listD
        · rw [e4]; exact lN
        · exact h1 w (List.mem_filter.mpr ⟨hw, by unfold vx_no; rw [decide_eq_true e1, decide_eq_true e2, decide_eq_true e3, decide_eq_true e4]; rfl⟩)
/-- where a static field lies, its class's statics cell in H -/
def vx_L (C n d : String) (A : Nat → Prop) (U : State) (H : Heap) : Prop := ∃ (c : ClassId) (k : Class) (i : Nat) (f : Field) (a : Nat) (cell : Cell), U.vm.findClass C = some c ∧ U.fieldFound? C n d = some (c, k, i, f) ∧ f.isStatic = true ∧ k.statics = some a ∧ H[a]? = some cell ∧ cell.vm.isStatics = true ∧ cell.cls = c ∧ f.slot < cell.slots.size ∧ k.staticTypes[f.slot]? = some f.type ∧ ¬ A a
theorem vx_L.moved {C n d : String} {A : Nat → Prop} {u U : State} {H : Heap} (hvm : u.vm.Alike U.vm) (h : vx_L C n d A u H) : vx_L C n d A U H := by
  obtain ⟨c, k, i, f, a, cell, h1, h2, h3, h4, h5, h6, h7, h8, h9, h10⟩ := h
  obtain ⟨k', hi', he⟩ := State.fieldFound?_setVm hvm h2
  exact ⟨c, k', i, f, a, cell, by rw [hvm.findClass]; exact h1, hi', h3, by rw [he]; exact h4, h5, h6, h7, h8, by rw [he]; exact h9, h10⟩
theorem vx_L.kept {C n d : String} {A : Nat → Prop} {U : State} {H H1 : Heap} (h : vx_L C n d A U H) (hq : ∀ a : Nat, a < H.size → ¬ A a → H1[a]? = H[a]?) : vx_L C n d A U H1 := by
  obtain ⟨c, k, i, f, a, cell, h1, h2, h3, h4, h5, h6, h7, h8, h9, h10⟩ := h
  exact ⟨c, k, i, f, a, cell, h1, h2, h3, h4, by rw [hq a (Array.getElem?_eq_some_iff.mp h5).1 h10]; exact h5, h6, h7, h8, h9, h10⟩
theorem vx_L.narrow {C n d : String} {A B : Nat → Prop} {U : State} {H : Heap} (h : vx_L C n d A U H) (hAB : ∀ q, B q → A q) : vx_L C n d B U H := by
  obtain ⟨c, k, i, f, a, cell, h1, h2, h3, h4, h5, h6, h7, h8, h9, h10⟩ := h
  exact ⟨c, k, i, f, a, cell, h1, h2, h3, h4, h5, h6, h7, h8, h9, fun z => h10 (hAB _ z)⟩
theorem vx_L.word {C n d : String} {A : Nat → Prop} {s : State} {args : Array Value} (h : vx_L C n d A s s.heap) : (Cond.laysStatic C n d).before args s = true := by
  obtain ⟨c, k, i, f, a, cell, h1, h2, h3, h4, h5, h6, h7, h8, h9, -⟩ := h
  show (Cond.laysStatic C n d).holds args s none s [] = true
  exact Cond.laysStatic_of h1 h2 h3 h4 h5 h6 h7 h8 h9
/-- .. and what it holds: null or some reference -/
def vx_Zq (C n d : String) (A : Nat → Prop) (U : State) (H : Heap) : Prop := va_Zq C n d A U H ∧ vx_L C n d A U H
theorem vx_Zq.moved {C n d : String} {A : Nat → Prop} {u U : State} {H : Heap} (hvm : u.vm.Alike U.vm) (h : vx_Zq C n d A u H) : vx_Zq C n d A U H := ⟨va_Zq.moved hvm h.1, vx_L.moved hvm h.2⟩
theorem vx_Zq.kept {C n d : String} {A : Nat → Prop} {U : State} {H H1 : Heap} (h : vx_Zq C n d A U H) (hq : ∀ a : Nat, a < H.size → ¬ A a → H1[a]? = H[a]?) : vx_Zq C n d A U H1 := ⟨va_Zq.kept h.1 hq, vx_L.kept h.2 hq⟩
theorem vx_Zq.narrow {C n d : String} {A B : Nat → Prop} {U : State} {H : Heap} (h : vx_Zq C n d A U H) (hAB : ∀ q, B q → A q) : vx_Zq C n d B U H := ⟨va_Zq.narrow h.1 hAB, vx_L.narrow h.2 hAB⟩
theorem vx_Zqof {args : Array Value} {s : State} {C n d : String} {A : Nat → Prop} (hl : (Cond.laysStatic C n d).before args s = true) (hini : (Cond.initialized C).before args s = true) (h : (Cond.isRef (.static C n d)).before args s = true) (hA : ∀ a : Nat, a < s.heap.size → ¬ A a) : vx_Zq C n d A s s.heap := by
  refine ⟨va_Zqof hl hini h hA, ?_⟩
  obtain ⟨c, k, i, f, a, cell, h1, h2, h3, h4, h5, h6, h7, h8, h9⟩ := Cond.laysStatic_spec hl
  exact ⟨c, k, i, f, a, cell, h1, h2, h3, h4, h5, h6, h7, h8, h9, hA a (Array.getElem?_eq_some_iff.mp h5).1⟩
theorem vx_isRef {C n d : String} {v : Value} {A : Nat → Prop} {s : State} {args : Array Value} (h : va_Z C n d v A s s.heap) (hv : v.isRef = true) : (Cond.isRef (.static C n d)).before args s = true := by
  obtain ⟨cf, kf, fi, f, a, cell, h1, h2, h3, h4, h5, h6, h7, -⟩ := h
  have he : (Term.static C n d).eval args s none [] s = some v := by
    simp [Term.eval, State.fieldNamed?, h1, h2, h4, h5, h6, h7]
  simp only [Cond.before, Cond.holds, Cond.value, he]
  cases v <;> simp_all [Value.isRef]
theorem vx_isRefq {C n d : String} {A : Nat → Prop} {s : State} {args : Array Value} (h : va_Zq C n d A s s.heap) : (Cond.isRef (.static C n d)).before args s = true := by
  rcases h with h | ⟨t, h⟩
  · exact vx_isRef h rfl
  · exact vx_isRef h rfl
/-- the same frame, seen from here: as if the method were called anew in this heap -/
theorem vx_rebase {T : State} (X : Stand p l e R s m args below meth c T locs cells slots) {R' : Room} (hf : R'.frames ≤ R.frames) (hl : R'.locals ≤ R.locals) (hc : cells + R'.cells ≤ R.cells) (hs : slots + R'.slots ≤ R.slots) :
    Stand p l e R' ((T.setVm s.vm).setFrames (.invoking m args :: below)) m args below meth c T [] 0 0 := by
  have htop : (T.setVm s.vm).topJava?.isSome := X.here.top
  have hF : ((T.setVm s.vm).setFrames (.invoking m args :: below)).frames = .invoking m args :: below := State.frames_setFrames _ (State.cur_lt_of_top htop)
  obtain ⟨g₀, hg0⟩ := Option.isSome_iff_exists.mp htop
  obtain ⟨r, hr⟩ := State.topJava?_eq_some.mp hg0
  have hl9 : e.platform.stackLimits (T.setVm s.vm).me = e.platform.stackLimits s.me := X.limits
  have hb9 : (T.setVm s.vm).me.stackBytes = s.me.stackBytes := X.bytes
  refine ⟨X.admits, X.cas, X.clock, hF, ?_, X.hears, X.method, X.code, X.here, X.tail, X.warmed, ?_, ?_, ?_⟩
  · have h := X.room
    have hU : ((T.setVm s.vm).setFrames (.invoking m args :: below)).localsInUse = s.localsInUse := by
      rw [State.localsInUse_invoking hF (meth := meth) (c := c) X.method X.code, State.localsInUse_invoking X.frames X.method X.code]
    simp only [State.hasRoom, Bool.and_eq_true, decide_eq_true_eq] at h ⊢
    obtain ⟨⟨⟨⟨h1, h2, h3, h4, h5, h6⟩, h7⟩, h8⟩, h9⟩ := h
    rw [X.frames, List.length_cons] at h2 h3
    have q1 := X.heapSize
    have q2 := X.used
    simp only [hF, hU, List.length_cons, State.stackLimits_setFrames, State.stackBytes_setFrames, hl9, hb9]
    refine ⟨⟨⟨⟨by omega, by omega, by omega, by omega, by omega, h6⟩, ?_⟩, ?_⟩, X.book⟩
    · show T.heap.size + R'.cells ≤ e.platform.maxCells
      omega
    · show T.slotsUsed + R'.slots ≤ e.platform.maxSlots
      omega
  · rw [State.stackLimits_setFrames]; rfl
  · rw [State.stackBytes_setFrames]; rfl
  · refine ⟨?_, Nat.le_refl _, Nat.le_refl _, ?_, ?_, fun a c9 h9 => ⟨c9, h9, rfl, rfl, fun _ _ => rfl⟩⟩
    · obtain ⟨t, ht, -⟩ := State.frames_cons hr
      show T.setVm s.vm = { ((T.setVm s.vm).setFrames (.invoking m args :: below)).setFrames (T.setVm s.vm).frames with heap := T.heap, slotsUsed := T.slotsUsed }
      rw [State.setFrames_setFrames, State.setFrames_self ht]
      rfl
    · show T.slotsUsed = T.slotsUsed + ((T.heap.toList.drop T.heap.size).map (·.slots.size)).sum
      rw [List.drop_eq_nil_of_le (Nat.le_of_eq Array.length_toList)]
      rfl
    · show ((T.heap.toList.drop T.heap.size).map (·.slots.size)).sum ≤ 0
      rw [List.drop_eq_nil_of_le (Nat.le_of_eq Array.length_toList)]
      exact Nat.le_refl _
/-- 'throw new E()': new; dup; invokespecial; athrow -/
theorem vx_throw0 {cc : ByteArray} {pc : Nat} (hexec : p.tables.exec = Jvm.exec) (hb : c.code = cc) (hl : l.stackTraces = false) {own cls : String} {names : List String} {ik ic mc ms : Nat} {A : Nat → Prop}
    (hown : s.vm.findClass own = some m.cls) (hcls : Bundle.fit cls = true) (hnames : ∀ n ∈ names, Bundle.fit n = true)
    (hk : (Cond.classLink own ik cls).before args s = true) (hini : (Cond.initialized cls).before args s = true) (hat : ∀ w ∈ vx_at0 own ic cls names, w.before args s = true)
    (hgood : ∀ w ∈ Cond.classLink own ik cls :: Cond.initialized cls :: vx_at0 own ic cls names, vx_ot w = true)
    (hU : vx_Zq Bundle.tN "UNASSIGNED_STACK" Bundle.steD A s s.heap) (hN : vx_Zq Bundle.tN "SUPPRESSED_SENTINEL" Bundle.listD A s s.heap) (hS : va_S A s.heap H locs) (hsize : ls.size = c.maxLocals)
    (d0 : decode cc pc = .ok (.new ik, 3)) (d3 : decode cc (pc + 3) = .ok (.dup, 1)) (d4 : decode cc (pc + 4) = .ok (.invokespecial ic, 3)) (d7 : decode cc (pc + 7) = .ok (.athrow, 1))
    (hout : ∀ x ∈ c.exceptionTable.toList, covers x (pc + 7) = false)
    (hRframes : names.length + 3 < R.frames) (hRlocals : (rest.map fun v => v.category).sum + (13 * (names.length + 1) + 42) ≤ R.locals) (hRcells : cells + 1 ≤ R.cells) (hRslots : slots + 6 ≤ R.slots) (hlocks : meth.locks = false)
    (hx : ∀ t : State, s.vm.Alike t.vm → H.size ≤ t.heap.size → (∀ q : Nat, q < H.size → t.heap[q]? = H[q]?) → XC cls s t)
    (hf : ∀ z ∈ locs, free z.base) (hc : cells + 1 ≤ mc) (hs : slots + 6 ≤ ms) :
    W p l e R s m args below meth c H locs cells slots (vx_MQ below Qc XC args s mc ms free) (F0 m pc ls rest) := by
  intro T hT X
  have htr : e.platform.stackTraces = false := (show e.platform.stackTraces = l.stackTraces by rw [X.admits.platform]).trans hl
  have Y := vx_rebase X (R' := { frames := R.frames, locals := R.locals, cells := 1, slots := 6 }) (Nat.le_refl _) (Nat.le_refl _) hRcells hRslots
  obtain ⟨s', hA⟩ : ∃ z, z = (T.setVm s.vm).setFrames (.invoking m args :: below) := ⟨_, rfl⟩
  rw [← hA] at Y
  have hvm : s'.vm = s.vm := by rw [hA]; rfl
  have hhp : s'.heap = H := by rw [hA]; exact hT
  have hW0 : s.WarmedH s'.vm := by rw [hvm]; exact State.WarmedH.refl s
  have hat' : ∀ w ∈ vx_at0 own ic cls names, w.before args s' = true := fun w hw => vx_ot_at hW0 hvm.symm (hgood w (List.mem_cons_of_mem _ (List.mem_cons_of_mem _ hw))) (hat w hw)
  have hk' : (Cond.classLink own ik cls).before args s' = true := vx_ot_at hW0 hvm.symm (hgood _ List.mem_cons_self) hk
  have hini' : (Cond.initialized cls).before args s' = true := vx_ot_at hW0 hvm.symm (hgood _ (List.mem_cons_of_mem _ List.mem_cons_self)) hini
  have hU' : vx_Zq Bundle.tN "UNASSIGNED_STACK" Bundle.steD A s' s'.heap := by rw [hhp]; exact vx_Zq.moved hW0.alike (hU.kept hS.2.1)
  have hN' : vx_Zq Bundle.tN "SUPPRESSED_SENTINEL" Bundle.listD A s' s'.heap := by rw [hhp]; exact vx_Zq.moved hW0.alike (hN.kept hS.2.1)
  have h : ∀ w ∈ Bundle.ownAtoms0 own ic cls names, w.before args s' = true := vx_own hat' (vx_isRefq hU'.1) (vx_isRefq hN'.1) hU'.2.word hN'.2.word
  have hown' : s'.vm.findClass own = some m.cls := by rw [hvm]; exact hown
  have hins : (Cond.instantiable cls 6).before args s' = true := h _ (by simp [Bundle.ownAtoms0])
  obtain ⟨vm₁, cX, kX, hfX, hkX, -, -, X₁, st1⟩ := Y.newCold hexec (own := own) (C := cls) (index := ik) (n := 6) hown' hk' hins hini'
    (g := F0 m pc ls rest) rfl (by rw [hb]; exact d0) (Nat.le_refl _) (Nat.le_refl _)
  generalize hT1 : (T.setVm vm₁).pushCell { cls := cX, slots := kX.instanceTypes.map defaultValue, vm := .none } = T1 at X₁ st1
  have hcat : (Value.ref T.heap.size).category = 1 := rfl
  have hcellA : T1.heap[T.heap.size]? = some (freshCell cX kX) := by rw [← hT1]; exact State.heap_pushCell_size _ _
  have d3' : decode c.code (pc + 3) = .ok (.dup, 1) := by rw [hb]; exact d3
  obtain ⟨U, hsteps, hrun, hend, hW, hsame, ce, hce, hO⟩ := X₁.ctorThrow0 hexec htr (own := own) (cls := cls) (names := names) (ic := ic) hown' hcls hnames h (fun x hx => nomatch hx) hfX hkX hcellA (by rw [hhp, hT]; exact Nat.le_refl _)
    (g := { method := m, pc := pc + 4, locals := ls, stack := .ref T.heap.size :: .ref T.heap.size :: rest, locked := none }) rfl hsize rfl rfl (rest := rest) rfl
    (by rw [hb]; exact d4) (by rw [hb]; exact d7) hout hRframes (by simp only [List.map_cons, List.sum_cons, hcat]; omega) hlocks
  obtain ⟨f1, f2⟩ := vx_frame hsame
  rw [hhp] at f1 f2
  have hWs : s.WarmedH U.vm := State.WarmedH.trans hW0 hW
  have hcl : s.vm.findClass cls = some ce.cls := by
    have h9 := hO.cls
    rw [hvm] at h9
    exact h9
  have hall : s.sameButNew ({ U with vm := s.vm } : State) locs mc ms := by
    subst hA
    obtain ⟨e1, e2⟩ := hsame
    rw [State.setFrames_setFrames] at e1
    have h2 : (T.setVm s.vm).sameButNew ({ U with vm := s.vm } : State) [] (0 + 1) (0 + 6) := ⟨e1, e2⟩
    have h3 := X.same.trans h2
    rw [List.append_nil] at h3
    exact h3.mono hc hs
  refine ⟨U, ?_, .threw T.heap.size, hrun, hend, Or.inr ⟨T.heap.size, rfl, cls, ce, locs, hx U hWs.alike f1 (fun q hq => f2 q hq (fun z hz => nomatch hz)), hce, hO.vm, hcl, hWs, hall, hf⟩⟩
  refine st1 _ ?_
  show Steps p.tables e below (T1.setTop { method := m, pc := pc + 3, locals := ls, stack := .ref T.heap.size :: rest, locked := none }) _
  jvm_step X₁.here [X₁.here.top, hexec, d3', Value.category]
  exact hsteps
/-- 'throw new E("text")': new; dup; ldc; invokespecial; athrow -/
theorem vx_throwS {cc : ByteArray} {pc : Nat} (hexec : p.tables.exec = Jvm.exec) (hb : c.code = cc) (hl : l.stackTraces = false) {own cls text : String} {names : List String} {ik is ic mc ms sa : Nat} {A : Nat → Prop}
    (hown : s.vm.findClass own = some m.cls) (hcls : Bundle.fit cls = true) (hnames : ∀ n ∈ names, Bundle.fit n = true)
    (hk : (Cond.classLink own ik cls).before args s = true) (hini : (Cond.initialized cls).before args s = true) (hstr : vk_R own is text sa s) (hat : ∀ w ∈ vx_atS own ic cls names, w.before args s = true)
    (hgood : ∀ w ∈ Cond.classLink own ik cls :: Cond.initialized cls :: vx_atS own ic cls names, vx_ot w = true)
    (hU : vx_Zq Bundle.tN "UNASSIGNED_STACK" Bundle.steD A s s.heap) (hN : vx_Zq Bundle.tN "SUPPRESSED_SENTINEL" Bundle.listD A s s.heap) (hS : va_S A s.heap H locs) (hsize : ls.size = c.maxLocals)
    (d0 : decode cc pc = .ok (.new ik, 3)) (d3 : decode cc (pc + 3) = .ok (.dup, 1)) (d4 : decode cc (pc + 4) = .ok (.ldc is, 2)) (d6 : decode cc (pc + 6) = .ok (.invokespecial ic, 3)) (d9 : decode cc (pc + 9) = .ok (.athrow, 1))
    (hout : ∀ x ∈ c.exceptionTable.toList, covers x (pc + 9) = false)
    (hRframes : names.length + 3 < R.frames) (hRlocals : (rest.map fun v => v.category).sum + (13 * (names.length + 1) + 43) ≤ R.locals) (hRcells : cells + 1 ≤ R.cells) (hRslots : slots + 6 ≤ R.slots) (hlocks : meth.locks = false)
    (hx : ∀ t : State, s.vm.Alike t.vm → H.size ≤ t.heap.size → (∀ q : Nat, q < H.size → t.heap[q]? = H[q]?) → XC cls s t)
    (hf : ∀ z ∈ locs, free z.base) (hc : cells + 1 ≤ mc) (hs : slots + 6 ≤ ms) :
    W p l e R s m args below meth c H locs cells slots (vx_MQ below Qc XC args s mc ms free) (F0 m pc ls rest) := by
  intro T hT X
  have htr : e.platform.stackTraces = false := (show e.platform.stackTraces = l.stackTraces by rw [X.admits.platform]).trans hl
  have Y := vx_rebase X (R' := { frames := R.frames, locals := R.locals, cells := 1, slots := 6 }) (Nat.le_refl _) (Nat.le_refl _) hRcells hRslots
  obtain ⟨s', hA⟩ : ∃ z, z = (T.setVm s.vm).setFrames (.invoking m args :: below) := ⟨_, rfl⟩
  rw [← hA] at Y
  have hvm : s'.vm = s.vm := by rw [hA]; rfl
  have hhp : s'.heap = H := by rw [hA]; exact hT
  have hW0 : s.WarmedH s'.vm := by rw [hvm]; exact State.WarmedH.refl s
  have hat' : ∀ w ∈ vx_atS own ic cls names, w.before args s' = true := fun w hw => vx_ot_at hW0 hvm.symm (hgood w (List.mem_cons_of_mem _ (List.mem_cons_of_mem _ hw))) (hat w hw)
  have hk' : (Cond.classLink own ik cls).before args s' = true := vx_ot_at hW0 hvm.symm (hgood _ List.mem_cons_self) hk
  have hini' : (Cond.initialized cls).before args s' = true := vx_ot_at hW0 hvm.symm (hgood _ (List.mem_cons_of_mem _ List.mem_cons_self)) hini
  have hU' : vx_Zq Bundle.tN "UNASSIGNED_STACK" Bundle.steD A s' s'.heap := by rw [hhp]; exact vx_Zq.moved hW0.alike (hU.kept hS.2.1)
  have hN' : vx_Zq Bundle.tN "SUPPRESSED_SENTINEL" Bundle.listD A s' s'.heap := by rw [hhp]; exact vx_Zq.moved hW0.alike (hN.kept hS.2.1)
  have h : ∀ w ∈ Bundle.ownAtoms own ic cls names, w.before args s' = true := vx_own hat' (vx_isRefq hU'.1) (vx_isRefq hN'.1) hU'.2.word hN'.2.word
  have hown' : s'.vm.findClass own = some m.cls := by rw [hvm]; exact hown
  have hins : (Cond.instantiable cls 6).before args s' = true := h _ (by simp [Bundle.ownAtoms])
  obtain ⟨vm₁, cX, kX, hfX, hkX, -, -, X₁, st1⟩ := Y.newCold hexec (own := own) (C := cls) (index := ik) (n := 6) hown' hk' hins hini'
    (g := F0 m pc ls rest) rfl (by rw [hb]; exact d0) (Nat.le_refl _) (Nat.le_refl _)
  generalize hT1 : (T.setVm vm₁).pushCell { cls := cX, slots := kX.instanceTypes.map defaultValue, vm := .none } = T1 at X₁ st1
  have hcat : (Value.ref T.heap.size).category = 1 := rfl
  have hcellA : T1.heap[T.heap.size]? = some (freshCell cX kX) := by rw [← hT1]; exact State.heap_pushCell_size _ _
  have d3' : decode c.code (pc + 3) = .ok (.dup, 1) := by rw [hb]; exact d3
  have d4' : decode c.code (pc + 4) = .ok (.ldc is, 2) := by rw [hb]; exact d4
  have hstr' : vk_R own is text sa s' := vk_R.warm hW0 hstr
  obtain ⟨U, hsteps, hrun, hend, hW, hsame, ce, hce, hO⟩ := X₁.ctorThrowS hexec htr (own := own) (cls := cls) (names := names) (ic := ic) hown' hcls hnames h (fun x hx => nomatch hx) hfX hkX hcellA (by rw [hhp, hT]; exact Nat.le_refl _) (msg := .ref sa) rfl
    (g := { method := m, pc := pc + 6, locals := ls, stack := .ref sa :: .ref T.heap.size :: .ref T.heap.size :: rest, locked := none }) rfl hsize rfl rfl (rest := rest) rfl
    (by rw [hb]; exact d6) (by rw [hb]; exact d9) hout hRframes (by simp only [List.map_cons, List.sum_cons, hcat]; omega) hlocks
  obtain ⟨f1, f2⟩ := vx_frame hsame
  rw [hhp] at f1 f2
  have hWs : s.WarmedH U.vm := State.WarmedH.trans hW0 hW
  have hcl : s.vm.findClass cls = some ce.cls := by
    have h9 := hO.cls
    rw [hvm] at h9
    exact h9
  have hall : s.sameButNew ({ U with vm := s.vm } : State) locs mc ms := by
    subst hA
    obtain ⟨e1, e2⟩ := hsame
    rw [State.setFrames_setFrames] at e1
    have h2 : (T.setVm s.vm).sameButNew ({ U with vm := s.vm } : State) [] (0 + 1) (0 + 6) := ⟨e1, e2⟩
    have h3 := X.same.trans h2
    rw [List.append_nil] at h3
    exact h3.mono hc hs
  refine ⟨U, ?_, .threw T.heap.size, hrun, hend, Or.inr ⟨T.heap.size, rfl, cls, ce, locs, hx U hWs.alike f1 (fun q hq => f2 q hq (fun z hz => nomatch hz)), hce, hO.vm, hcl, hWs, hall, hf⟩⟩
  refine st1 _ ?_
  show Steps p.tables e below (T1.setTop { method := m, pc := pc + 3, locals := ls, stack := .ref T.heap.size :: rest, locked := none }) _
  jvm_step X₁.here [X₁.here.top, hexec, d3', Value.category]
  exact X₁.ldcString hexec (own := own) (text := text) (index := is) (a := sa) hown' hstr'.1 hstr'.2
    (g := { method := m, pc := pc + 4, locals := ls, stack := .ref T.heap.size :: .ref T.heap.size :: rest, locked := none }) rfl d4' _ hsteps
/-- 'throw new E("text")', the text by a wide index -/
theorem vx_throwSW {cc : ByteArray} {pc : Nat} (hexec : p.tables.exec = Jvm.exec) (hb : c.code = cc) (hl : l.stackTraces = false) {own cls text : String} {names : List String} {ik is ic mc ms sa : Nat} {A : Nat → Prop}
    (hown : s.vm.findClass own = some m.cls) (hcls : Bundle.fit cls = true) (hnames : ∀ n ∈ names, Bundle.fit n = true)
    (hk : (Cond.classLink own ik cls).before args s = true) (hini : (Cond.initialized cls).before args s = true) (hstr : vk_R own is text sa s) (hat : ∀ w ∈ vx_atS own ic cls names, w.before args s = true)
    (hgood : ∀ w ∈ Cond.classLink own ik cls :: Cond.initialized cls :: vx_atS own ic cls names, vx_ot w = true)
    (hU : vx_Zq Bundle.tN "UNASSIGNED_STACK" Bundle.steD A s s.heap) (hN : vx_Zq Bundle.tN "SUPPRESSED_SENTINEL" Bundle.listD A s s.heap) (hS : va_S A s.heap H locs) (hsize : ls.size = c.maxLocals)
    (d0 : decode cc pc = .ok (.new ik, 3)) (d3 : decode cc (pc + 3) = .ok (.dup, 1)) (d4 : decode cc (pc + 4) = .ok (.ldc_w is, 3)) (d7 : decode cc (pc + 7) = .ok (.invokespecial ic, 3)) (d10 : decode cc (pc + 10) = .ok (.athrow, 1))
    (hout : ∀ x ∈ c.exceptionTable.toList, covers x (pc + 10) = false)
    (hRframes : names.length + 3 < R.frames) (hRlocals : (rest.map fun v => v.category).sum + (13 * (names.length + 1) + 43) ≤ R.locals) (hRcells : cells + 1 ≤ R.cells) (hRslots : slots + 6 ≤ R.slots) (hlocks : meth.locks = false)
    (hx : ∀ t : State, s.vm.Alike t.vm → H.size ≤ t.heap.size → (∀ q : Nat, q < H.size → t.heap[q]? = H[q]?) → XC cls s t)
    (hf : ∀ z ∈ locs, free z.base) (hc : cells + 1 ≤ mc) (hs : slots + 6 ≤ ms) :
    W p l e R s m args below meth c H locs cells slots (vx_MQ below Qc XC args s mc ms free) (F0 m pc ls rest) := by
  intro T hT X
  have htr : e.platform.stackTraces = false := (show e.platform.stackTraces = l.stackTraces by rw [X.admits.platform]).trans hl
  have Y := vx_rebase X (R' := { frames := R.frames, locals := R.locals, cells := 1, slots := 6 }) (Nat.le_refl _) (Nat.le_refl _) hRcells hRslots
  obtain ⟨s', hA⟩ : ∃ z, z = (T.setVm s.vm).setFrames (.invoking m args :: below) := ⟨_, rfl⟩
  rw [← hA] at Y
  have hvm : s'.vm = s.vm := by rw [hA]; rfl
  have hhp : s'.heap = H := by rw [hA]; exact hT
  have hW0 : s.WarmedH s'.vm := by rw [hvm]; exact State.WarmedH.refl s
  have hat' : ∀ w ∈ vx_atS own ic cls names, w.before args s' = true := fun w hw => vx_ot_at hW0 hvm.symm (hgood w (List.mem_cons_of_mem _ (List.mem_cons_of_mem _ hw))) (hat w hw)
  have hk' : (Cond.classLink own ik cls).before args s' = true := vx_ot_at hW0 hvm.symm (hgood _ List.mem_cons_self) hk
  have hini' : (Cond.initialized cls).before args s' = true := vx_ot_at hW0 hvm.symm (hgood _ (List.mem_cons_of_mem _ List.mem_cons_self)) hini
  have hU' : vx_Zq Bundle.tN "UNASSIGNED_STACK" Bundle.steD A s' s'.heap := by rw [hhp]; exact vx_Zq.moved hW0.alike (hU.kept hS.2.1)
  have hN' : vx_Zq Bundle.tN "SUPPRESSED_SENTINEL" Bundle.listD A s' s'.heap := by rw [hhp]; exact vx_Zq.moved hW0.alike (hN.kept hS.2.1)
  have h : ∀ w ∈ Bundle.ownAtoms own ic cls names, w.before args s' = true := vx_own hat' (vx_isRefq hU'.1) (vx_isRefq hN'.1) hU'.2.word hN'.2.word
  have hown' : s'.vm.findClass own = some m.cls := by rw [hvm]; exact hown
  have hins : (Cond.instantiable cls 6).before args s' = true := h _ (by simp [Bundle.ownAtoms])
  obtain ⟨vm₁, cX, kX, hfX, hkX, -, -, X₁, st1⟩ := Y.newCold hexec (own := own) (C := cls) (index := ik) (n := 6) hown' hk' hins hini'
    (g := F0 m pc ls rest) rfl (by rw [hb]; exact d0) (Nat.le_refl _) (Nat.le_refl _)
  generalize hT1 : (T.setVm vm₁).pushCell { cls := cX, slots := kX.instanceTypes.map defaultValue, vm := .none } = T1 at X₁ st1
  have hcat : (Value.ref T.heap.size).category = 1 := rfl
  have hcellA : T1.heap[T.heap.size]? = some (freshCell cX kX) := by rw [← hT1]; exact State.heap_pushCell_size _ _
  have d3' : decode c.code (pc + 3) = .ok (.dup, 1) := by rw [hb]; exact d3
  have d4' : decode c.code (pc + 4) = .ok (.ldc_w is, 3) := by rw [hb]; exact d4
  have hstr' : vk_R own is text sa s' := vk_R.warm hW0 hstr
  obtain ⟨U, hsteps, hrun, hend, hW, hsame, ce, hce, hO⟩ := X₁.ctorThrowS hexec htr (own := own) (cls := cls) (names := names) (ic := ic) hown' hcls hnames h (fun x hx => nomatch hx) hfX hkX hcellA (by rw [hhp, hT]; exact Nat.le_refl _) (msg := .ref sa) rfl
    (g := { method := m, pc := pc + 7, locals := ls, stack := .ref sa :: .ref T.heap.size :: .ref T.heap.size :: rest, locked := none }) rfl hsize rfl rfl (rest := rest) rfl
    (by rw [hb]; exact d7) (by rw [hb]; exact d10) hout hRframes (by simp only [List.map_cons, List.sum_cons, hcat]; omega) hlocks
  obtain ⟨f1, f2⟩ := vx_frame hsame
  rw [hhp] at f1 f2
  have hWs : s.WarmedH U.vm := State.WarmedH.trans hW0 hW
  have hcl : s.vm.findClass cls = some ce.cls := by
    have h9 := hO.cls
    rw [hvm] at h9
    exact h9
  have hall : s.sameButNew ({ U with vm := s.vm } : State) locs mc ms := by
    subst hA
    obtain ⟨e1, e2⟩ := hsame
    rw [State.setFrames_setFrames] at e1
    have h2 : (T.setVm s.vm).sameButNew ({ U with vm := s.vm } : State) [] (0 + 1) (0 + 6) := ⟨e1, e2⟩
    have h3 := X.same.trans h2
    rw [List.append_nil] at h3
    exact h3.mono hc hs
  refine ⟨U, ?_, .threw T.heap.size, hrun, hend, Or.inr ⟨T.heap.size, rfl, cls, ce, locs, hx U hWs.alike f1 (fun q hq => f2 q hq (fun z hz => nomatch hz)), hce, hO.vm, hcl, hWs, hall, hf⟩⟩
  refine st1 _ ?_
  show Steps p.tables e below (T1.setTop { method := m, pc := pc + 3, locals := ls, stack := .ref T.heap.size :: rest, locked := none }) _
  jvm_step X₁.here [X₁.here.top, hexec, d3', Value.category]
  exact X₁.ldcStringW hexec (own := own) (text := text) (index := is) (a := sa) hown' hstr'.1 hstr'.2
    (g := { method := m, pc := pc + 4, locals := ls, stack := .ref T.heap.size :: .ref T.heap.size :: rest, locked := none }) rfl d4' _ hsteps
end Ends
section Bodies
variable {l : Launch}
theorem vx_ofW {y : MethodName} {ws ws' : List Cond} {rm : Room} {Pc : Array Value → State → Prop} {Qc : Array Value → State → Outcome → State → Prop} {XC : String → State → State → Prop} {mc ms : Nat} {free : Addr → Prop} {cc : ByteArray} {maxL : Nat} {ret : Option FieldType}
    (hy : plainName y.cls = true) (hw : ws = Cond.code y cc maxL ret :: ws')
    (body : ∀ p e s m args below meth c s₁, BodyLoose p l y (headSpec ws rm) cc maxL ret e s m args below meth c s₁ → c.maxLocals = maxL → (∀ x ∈ c.exceptionTable.toList, False) → Pc args s →
      W p l e (headSpec ws rm).room s m args below meth c s.heap [] 0 0 (vx_MQ below Qc XC args s mc ms free) (entryFrame m args maxL)) : vx_Met l y ws rm Pc Qc XC mc ms free := by
  refine MetFree.of_bodyS (code := cc) (maxLocals := maxL) (ret := ret) hy ?_ ?_
  · intro args s m h hn
    obtain ⟨meth, c, h1, h2, h3, h4, h5, h6, -, -⟩ := Cond.code_spec hn (atoms_spec (ws := ws) h _ (by rw [hw]; exact List.mem_cons_self))
    exact ⟨meth, c, h1, h2, h3, h4, h5, h6⟩
  · intro p e s m args below meth c s₁ B hml hP _
    have hh0 : s₁.heap = s.heap := by rw [B.state]; rfl
    have ht : ∀ x ∈ c.exceptionTable.toList, False := by
      obtain ⟨meth9, c9, h1, h2, -, -, -, -, h7, -⟩ := Cond.code_spec B.named (atoms_spec (ws := ws) B.pre _ (by rw [hw]; exact List.mem_cons_self))
      cases Option.some.inj (h1.symm.trans B.method)
      cases Option.some.inj (h2.symm.trans (Stand.of_body B).code)
      intro x hx
      rw [Array.isEmpty_iff.mp h7] at hx
      cases hx
    obtain ⟨t, a1, o, b1, b2, b3⟩ := body p e s m args below meth c s₁ B hml ht hP s₁ hh0 (Stand.of_body B)
    exact ⟨t, o, a1, b1, b2, b3⟩
/-- the table of a body with handlers -/
theorem vx_table {p : Program} {x y : MethodName} {S : Spec} {cc bytes : ByteArray} {maxL maxL' : Nat} {ret ret' : Option FieldType} {e : Env} {s s₁ : State} {m : MethodId} {args : Array Value} {below : List Frame} {meth : Method} {c : Code} {hh : List (Nat × Nat × Nat × Nat)}
    (B : BodyLoose p l y S cc maxL ret e s m args below meth c s₁) (h : (Cond.codeWith y bytes maxL' ret' hh).before args s = true) : c.exceptionTable.toList = tableOf hh := by
  obtain ⟨m9, meth9, c9, hn9, h1, h2, -, -, h6, -⟩ := Cond.codeWith_spec h
  cases Option.some.inj (hn9.symm.trans B.named)
  cases Option.some.inj (h1.symm.trans B.method)
  cases Option.some.inj (h2.symm.trans (Stand.of_body B).code)
  rw [← h6, table_eq]
end Bodies
end VXA
/-! ===== END ===== -/
/-! ===== BEGIN a static call of a method with an exception table ===== -/
section VXS
variable {p : Program} {l : Launch} {e : Env} {R : Room} {s : State} {m : MethodId} {args : Array Value} {below : List Frame} {meth : Method} {c : Code} {T : State} {H : Heap} {locs : List Loc} {cells slots : Nat}
abbrev vx_CSW (R : Room) (s : State) (args : Array Value) (own : String) (index : Nat) (y : MethodName) (bytes : ByteArray) (maxL : Nat) (ret : Option FieldType) (hh : List (Nat × Nat × Nat × Nat)) (ws : List Cond) (rm : Room) (mc ms n : Nat) : Prop :=
  (rm.cells = mc ∧ rm.slots = ms ∧ rm.frames + 1 ≤ R.frames ∧ 8 + (maxL + 11) + rm.locals ≤ R.locals ∧ (∀ w ∈ ws, ∀ (a' : Array Value) (U : State), s.WarmedH U.vm → w.before a' U = true) ∧ Cond.codeWith y bytes maxL ret hh ∈ ws) ∧
  (Cond.codeWith y bytes maxL ret hh).before args s = true ∧ (Cond.initialized y.cls).before args s = true ∧ (y.cls ≠ "java/lang/invoke/MethodHandle" ∧ y.cls ≠ "java/lang/invoke/VarHandle") ∧
  (∀ sig, parseMethodDescriptor y.desc = some sig → n = sig.parameters.length) ∧ (Cond.methodLink own index y).before args s = true ∧ (Cond.static y).before args s = true
theorem vx_cwSW {own : String} {index maxL mc ms : Nat} {y : MethodName} {bytes : ByteArray} {ret : Option FieldType} {hh : List (Nat × Nat × Nat × Nat)} {Ts ws ws' : List Cond} {rm : Room} (n : Nat) (ht : ∀ w ∈ Ts, w.before args s = true) (hT : GoodIn Ts (va_wsS own index y ws)) (hw : ws = Cond.codeWith y bytes maxL ret hh :: ws') (hrc : rm.cells = mc) (hrs : rm.slots = ms)
    (hd : y.cls ≠ "java/lang/invoke/MethodHandle" ∧ y.cls ≠ "java/lang/invoke/VarHandle" ∧ (parseMethodDescriptor y.desc).map (fun d => d.parameters.length) = some n) (hR : rm.frames + 1 ≤ R.frames ∧ 8 + (maxL + 11) + rm.locals ≤ R.locals) :
    vx_CSW R s args own index y bytes maxL ret hh ws rm mc ms n := by
  have ok : ∀ w ∈ va_wsS own index y ws, w.before args s = true := fun w h => ht w (hT w h).1
  have hG : GoodIn Ts ws := fun w h => hT w (by unfold va_wsS; exact List.mem_append_right _ h)
  have hc : Cond.codeWith y bytes maxL ret hh ∈ ws := by rw [hw]; exact List.mem_cons_self
  refine ⟨⟨hrc, hrs, hR.1, hR.2, pay_in ht hG, hc⟩, ht _ (hG _ hc).1, ok _ (by simp [va_wsS]), ⟨hd.1, hd.2.1⟩, fun sig h => ?_, ok _ (by simp [va_wsS]), ok _ (by simp [va_wsS])⟩
  have h2 := hd.2.2
  rw [h] at h2
  exact (Option.some.inj h2).symm
theorem vx_callSW (X : Stand p l e R s m args below meth c T locs cells slots) (hexec : p.tables.exec = Jvm.exec) {own : String} {index : Nat} {y : MethodName} {bytes : ByteArray} {maxL : Nat} {ret : Option FieldType} {hh : List (Nat × Nat × Nat × Nat)}
    (hown : s.vm.findClass own = some m.cls) (hlink : (Cond.methodLink own index y).before args s = true) (hstat : (Cond.static y).before args s = true) (hinit : (Cond.initialized y.cls).before args s = true)
    (hcode : (Cond.codeWith y bytes maxL ret hh).before args s = true) (hy : y.cls ≠ "java/lang/invoke/MethodHandle" ∧ y.cls ≠ "java/lang/invoke/VarHandle")
    {W9 : Nat} {Pre : Pt → Array Value → Prop} {Post : Pt → Array Value → Option Value → Pt → Prop} (hK : Back l R p e below s args y 3 W9 Pre Post)
    {g : JFrame} (hg : g.method = m) (hsize : g.locals.size = c.maxLocals) {argsL rest : List Value} (hlen : ∀ sig, parseMethodDescriptor y.desc = some sig → argsL.length = sig.parameters.length)
    (hstack : g.stack = argsL.reverse ++ rest) (hW : 2 * g.monitorRoom + (rest.map fun v => v.category).sum ≤ W9) (hdg : decode c.code g.pc = .ok (.invokestatic index, 3))
    (hpre : ∀ vm₁, s.WarmedH vm₁ → Pre ⟨T.setVm vm₁, locs, cells, slots⟩ argsL.toArray) :
    ∃ (v : Option Value) (vm₁ : Vm) (B : Pt), s.WarmedH vm₁ ∧ Stand p l e R s m args below meth c B.U B.locs B.cells B.slots ∧ Post ⟨T.setVm vm₁, locs, cells, slots⟩ argsL.toArray v B ∧
      ∀ target, Steps p.tables e below (B.U.setTop { g with pc := g.pc + 3, stack := v.toList ++ rest }) target → Steps p.tables e below (T.setTop g) target := by
  obtain ⟨mk, methM, cM, hnamed, hmethM, -, -, -, -, -, -, hsigM⟩ := Cond.codeWith_spec hcode
  have hstatic : methM.isStatic = true := Cond.static_spec hnamed hmethM hstat
  obtain ⟨kP, hkP, -⟩ := className_of_methodNamed hnamed
  have hinitP : kP.init = .initialized := Cond.initialized_spec (findClass_of_methodNamed hnamed) hkP hinit
  obtain ⟨vm₁, X₁, hstep₁⟩ := X.invokestatic hexec hown hlink hnamed hmethM hstatic hkP hinitP hy (g := g) hg (argsL := argsL) (rest := rest) (hlen _ hsigM) hstack hdg
  obtain ⟨v, B, X', hpost, hsteps⟩ := hK m meth c ⟨T.setVm vm₁, locs, cells, slots⟩ { g with stack := rest } (.invokestatic index) mk argsL.toArray X₁ hg hsize hdg hW (X₁.named hnamed) (hpre vm₁ X₁.warmed)
  exact ⟨v, vm₁, B, X₁.warmed, X', hpost, fun target h => hstep₁ _ fun acts => by rw [doInvoke_state]; exact hsteps.trans h⟩
theorem vx_runSW {y : MethodName} {bytes cc : ByteArray} {maxL nL mc ms n index : Nat} {ret : Option FieldType} {hh : List (Nat × Nat × Nat × Nat)} {ws : List Cond} {rm : Room} {Pc : Array Value → State → Prop} {Qc : Array Value → State → Outcome → State → Prop} {free : Addr → Prop} {Ts : List Cond} {own : String} {As rest : List Value} {g : JFrame}
    (S : CallFix p m c cc nL s args Ts own) (hM : Met l y ws rm Pc Qc mc ms free) (cw : vx_CSW R s args own index y bytes maxL ret hh ws rm mc ms n) (hp : PreS s H Pc As)
    (hg : g.method = m) (hn : As.length = n) (hsize : g.locals.size = nL) (hstack : g.stack = As.reverse ++ rest) (hW : 2 * g.monitorRoom + (rest.map fun v => v.category).sum ≤ 8) (hdg : decode cc g.pc = .ok (.invokestatic index, 3)) (hf : cells + mc ≤ R.cells ∧ slots + ms ≤ R.slots) :
    va_Run p l e R s m args below meth c H locs cells slots mc ms g rest (Qc As.toArray) (free) := by
  obtain ⟨⟨hrc, hrs, hfr, hlo, hws, hcw⟩, hcode, hini, hy, hlen, hl, hstt⟩ := cw
  have hK : Back l R p e below s args y 3 8 (PreOf R mc ms Pc) (PostOf Qc mc ms free) := va_backW (hh := hh) (bytes := bytes) (maxL := maxL) (ret := ret) hM hp.1 hrc hrs hfr hlo hws hcw (fun a' U hW => word_at hW (Or.inl (by first | rfl | simp [Cond.onTables, Cond.keeps, Cond.steady])) hini)
  obtain ⟨hx, hb, hml, ho, -⟩ := S
  intro T hT X
  obtain ⟨v, vm₁, ⟨U', l2, c2, s2⟩, hW₁, X', ⟨g', mk, t, L, e1, e2, hq, h1, hL, h2, h3⟩, st⟩ := vx_callSW X hx (hh := hh) (bytes := bytes) (maxL := maxL) (ret := ret) ho hl hstt hini hcode hy hK hg (hsize.trans hml.symm) (argsL := As) (rest := rest) (fun sig h => hn.trans (hlen sig h)) hstack hW (by rw [hb]; exact hdg)
    (fun vm₁ hW₁ => ⟨hf.1, hf.2, hp.2 (T.setVm vm₁) hT hW₁⟩)
  dsimp only [Pt.U, Pt.locs, Pt.cells, Pt.slots] at X' e1 e2 h1 h2 h3 st
  subst h1; subst h2; subst h3
  exact ⟨v, (T.setVm vm₁).calling g' mk As.toArray, t, U', L, hT, X', hL, e1, e2, hq, st⟩
/-- not caught here, past rows that name other classes: it goes on to the caller -/
theorem vx_outP {p : Program} {l : Launch} {e : Env} {R : Room} {s : State} {m : MethodId} {args : Array Value} {below : List Frame} {meth : Method} {c : Code} {H : Heap} {locs : List Loc} {cells slots : Nat} {free : Addr → Prop} {ls : Array Slot} {rest : List Value} {Qc : Array Value → State → Outcome → State → Prop} {XC : String → State → State → Prop}
    {pc : Nat} {own E : String} {ce : Cell} {q : Addr} {mc ms : Nat} (hown : s.vm.findClass own = some m.cls) (hlocks : meth.locks = false)
    (hpass : ∀ z ∈ c.exceptionTable.toList, covers z pc = false ∨ (z.catchType ≠ 0 ∧ ∃ nm : String, (Cond.classLink own z.catchType nm).before args s = true ∧ va_Nc E nm s)) (hcell : H[q]? = some ce) (hv : ce.vm = .none) (hcl : s.vm.findClass E = some ce.cls)
    (hx : ∀ t : State, t.heap = H → s.vm.Alike t.vm → XC E s t) (hf : ∀ z ∈ locs, free z.base) (hc : cells ≤ mc) (hs : slots ≤ ms) :
    vx_W p l e R s m args below meth c H locs cells slots (vx_MQ below Qc XC args s mc ms free) (F0 m pc ls rest) q := by
  intro T hT X
  have hpl : e.platform.magicAccessors = ({} : Platform).magicAccessors := by rw [X.admits.platform]
  obtain ⟨vm', hW', X', st⟩ := X.outThrough hlocks q (g := F0 m pc ls rest) rfl rfl rfl (cell := ce) (by rw [hT]; exact hcell) (by rw [hv]; rfl)
    (by obtain ⟨k9, h9, -⟩ := Vm.findClass_spec hcl; exact ⟨k9, h9⟩) (fun z hz => by
      rcases hpass z hz with h | ⟨hz0, nm, hl1, hn1⟩
      · exact Or.inl h
      · obtain ⟨c6, hc6, hcl6⟩ := Cond.classLink_spec hown hl1 e.platform hpl
        obtain ⟨a8, b8, h1, h2, h3⟩ := hn1
        cases Option.some.inj (h1.symm.trans hcl)
        cases Option.some.inj (h2.symm.trans hc6)
        exact Or.inr ⟨hz0, _, hcl6, h3⟩)
  obtain ⟨g₀, hfr⟩ := X'.frames_eq
  have hcell9 : ((T.setVm vm').setFrames (.throwing q :: below)).heap[q]? = some ce := by
    show T.heap[q]? = some ce
    rw [hT]; exact hcell
  have hend : Ended ((T.setVm vm').setFrames (.throwing q :: below)) below (.threw q) := State.frames_setFrames _ (State.cur_lt_of_frames hfr)
  refine ⟨(T.setVm vm').setFrames (.throwing q :: below), ?_, .threw q, X'.here.running, hend, Or.inr ⟨q, rfl, E, ce, locs, hx _ hT (X'.ends _).1.alike, hcell9, hv, hcl, (X'.ends _).1, (X'.ends _).2.mono hc hs, hf⟩⟩
  rw [X.pushThrowing_eq]
  exact st
/-- a thing of a world lies in the heap -/
theorem vx_lt {D : va_G} {cl : List vw_C} {ws : va_W} {H1 : Heap} (h : va_P D cl ws H1) {k : Nat} {q : Nat × va_E} (hk : ws[k]? = some q) : q.1 < H1.size := (h k q hk).lt
end VXS
/-! ===== END ===== -/
/-! ===== BEGIN methods with a table of their own: called by a name, returning or throwing ===== -/
section VXH
/-! vx_backW, vx_callVX, vx_callSX, vx_callVW, vx_runVW, vx_runVX, vx_runSX, vx_ofWH follow the same proofs as their sisters above (Free/Laws.lean, Shelf42/LK1.lean); vx_outP calls Shelf42/NT130.lean (outThrough). -/
section
variable {l : Launch} {R : Room} {p : Program} {e : Env} {below : List Frame} {s : State} {sargs : Array Value} {y : MethodName} {len W9 : Nat}
theorem vx_backW {ws : List Cond} {rm : Room} {Pc : Array Value → State → Prop} {Qc : Array Value → State → Outcome → State → Prop} {XC : String → State → State → Prop} {mc ms : Nat} {free : Addr → Prop} {bytes : ByteArray} {maxL : Nat} {ret : Option FieldType} {hh : List (Nat × Nat × Nat × Nat)}
    (hM : vx_Met l y ws rm Pc Qc XC mc ms free) (hblind : FrameBlind Pc) (hrc : rm.cells = mc) (hrs : rm.slots = ms)
    (hframes : rm.frames + 1 ≤ R.frames) (hlocals : W9 + (maxL + 11) + rm.locals ≤ R.locals)
    (hws : ∀ w ∈ ws, ∀ a' U, s.WarmedH U.vm → w.before a' U = true) (hcode : Cond.codeWith y bytes maxL ret hh ∈ ws) (hinit : ∀ a' U, s.WarmedH U.vm → (Cond.initialized y.cls).before a' U = true) :
    vx_Back l R p e below s sargs y len W9 (PreOf R mc ms Pc) (PostOf Qc mc ms free) (vx_Post XC mc ms free) := by
  intro m meth c A g ig mk a X hg hsize hdg hW hn hp
  have h1 : (headSpec ws rm).pre.before a A.U = true := atoms_intro fun w hw => hws w hw _ _ X.warmed
  have h2 : (Cond.codeWith y bytes maxL ret hh).before a A.U = true := hws _ hcode _ _ X.warmed
  have h3 : (Cond.initialized y.cls).before a A.U = true := hinit _ _ X.warmed
  have h4 : A.cells + (headSpec ws rm).room.cells ≤ R.cells := by rw [show (headSpec ws rm).room.cells = mc from hrc]; exact hp.1
  have h5 : A.slots + (headSpec ws rm).room.slots ≤ R.slots := by rw [show (headSpec ws rm).room.slots = ms from hrs]; exact hp.2.1
  have hPc : Pc a (A.U.calling g mk a) := hblind _ _ _ _ hp.2.2
  obtain ⟨U, Ls, c0, s0⟩ := A
  dsimp only [Pt.U, Pt.locs, Pt.cells, Pt.slots] at h1 h2 h3 h4 h5 X hn hPc ⊢
  obtain ⟨m9, methY, cY, hn9, hmY, hcY, -, hlY, -⟩ := Cond.codeWith_spec h2
  cases Option.some.inj (hn9.symm.trans hn)
  obtain ⟨kY, hkY, -⟩ := className_of_methodNamed hn
  have hinitY : kY.init = .initialized := Cond.initialized_spec (findClass_of_methodNamed hn) hkY h3
  have h : At U g.method c below := by rw [hg]; exact X.here
  have hlocals9 : W9 + (maxL + 11) + (headSpec ws rm).room.locals ≤ R.locals := hlocals
  have happ : (headSpec ws rm).appliesLoose y e.platform (U.calling g mk a) = true :=
    Spec.appliesLoose_calling (g := g) h hdg hn hkY hinitY
      (X.room_calling (g := g) (R' := (headSpec ws rm).room) hsize hmY hcY hframes (by rw [hlY]; omega) h4 h5) h1
  obtain ⟨mid, hmid⟩ := h.above
  have hfr : (U.setTop g).frames = (.java g :: mid) ++ below := by rw [State.frames_setTop' g h.top, hmid]; rfl
  obtain ⟨o, s₂, hsteps, -, hend, hq⟩ := Steps.callFree hM p X.admits X.cas X.clock (acts := []) hfr happ hPc trivial
  have hq' : vx_Q Qc XC mc ms free a (U.calling g mk a) o s₂ := hq
  rw [State.frames_setTop' g h.top] at hend
  obtain ⟨g₀, hg0⟩ := Option.isSome_iff_exists.mp h.top
  obtain ⟨r, hr⟩ := State.topJava?_eq_some.mp hg0
  have hr' : (({ U with heap := s₂.heap, slotsUsed := s₂.slotsUsed } : State).setVm s₂.vm).frames = .java g₀ :: r := hr
  rcases hq' with ⟨hqc, L, hfe, hL⟩ | ⟨q, rfl, E, ce, L, hx, hce, hcv, hcl, hW₂, hsm, hL⟩
  · obtain ⟨⟨v, rfl⟩, hW₂, e2, q2, q3, q4, q5, q6⟩ := id hfe
    have e3 : s₂ = ({ (U.calling g mk a).setFrames s₂.frames with heap := s₂.heap, slotsUsed := s₂.slotsUsed } : State).setVm s₂.vm := by
      have : s₂ = ({ s₂ with vm := (U.calling g mk a).vm } : State).setVm s₂.vm := rfl
      rw [e2] at this
      exact this
    obtain ⟨c₂, i₂, len₂, hc₂, hd₂, hf₂⟩ := hend
    have hW' : U.WarmedH s₂.vm := hW₂
    have hcc : c₂ = c := by
      have h1 : s₂.code? g.method = U.code? g.method := by
        rw [State.code?_eq, State.code?_eq, hW'.alike.method?]
      exact Option.some.inj (hc₂.symm.trans (h1.trans h.code))
    subst hcc
    have hlen : len₂ = len := by rw [hdg] at hd₂; cases hd₂; rfl
    subst hlen
    have hs₂ : s₂ = (({ U with heap := s₂.heap, slotsUsed := s₂.slotsUsed } : State).setVm s₂.vm).setTop { g with pc := g.pc + len₂, stack := v.toList ++ g.stack } := by
      refine e3.trans ?_
      rw [hf₂, State.calling_eq h.top, State.setFrames_setFrames, State.setTop_of_frames _ hr', hr]
      rfl
    have hsame : U.sameButNew ({ U with heap := s₂.heap, slotsUsed := s₂.slotsUsed } : State) L mc ms := by
      refine ⟨?_, q2, q3, q4, q5, q6⟩
      obtain ⟨t, ht, -⟩ := State.frames_cons hr
      show ({ U with heap := s₂.heap, slotsUsed := s₂.slotsUsed } : State) = { U.setFrames U.frames with heap := s₂.heap, slotsUsed := s₂.slotsUsed }
      rw [State.setFrames_self ht]
    subst hg
    refine Or.inl ⟨v, ⟨(({ U with heap := s₂.heap, slotsUsed := s₂.slotsUsed } : State).setVm s₂.vm), Ls ++ L, c0 + mc, s0 + ms⟩,
      ⟨X.admits, X.cas, X.clock, X.frames, X.room, X.hears, X.method, X.code, (X.here.setHeapUsed s₂.heap s₂.slotsUsed).setVm hW'.alike, X.tail, State.WarmedH.trans X.warmed hW', X.limits, X.bytes, X.same.trans (hsame.setVm s.vm)⟩,
      ⟨g, mk, s₂, L, rfl, rfl, hqc, rfl, hL, rfl, rfl⟩, ?_⟩
    show Steps p.tables e below _ ((({ U with heap := s₂.heap, slotsUsed := s₂.slotsUsed } : State).setVm s₂.vm).setTop { g with pc := g.pc + len₂, stack := v.toList ++ g.stack })
    rw [← hs₂]
    exact hsteps
  · obtain ⟨e2, q2, q3, q4, q5, q6⟩ := id hsm
    have e3 : s₂ = ({ (U.calling g mk a).setFrames s₂.frames with heap := s₂.heap, slotsUsed := s₂.slotsUsed } : State).setVm s₂.vm := by
      have : s₂ = ({ s₂ with vm := (U.calling g mk a).vm } : State).setVm s₂.vm := rfl
      rw [e2] at this
      exact this
    have hf₂ : s₂.frames = .throwing q :: .java g :: U.frames.tail := hend
    have hW' : U.WarmedH s₂.vm := hW₂
    have hs₂ : s₂ = ((({ U with heap := s₂.heap, slotsUsed := s₂.slotsUsed } : State).setVm s₂.vm).setTop g).pushFrame (.throwing q) := by
      refine e3.trans ?_
      rw [hf₂, State.calling_eq h.top, State.setFrames_setFrames, State.pushFrame, State.frames_setTop _ hr', State.setTop_of_frames _ hr', State.setFrames_setFrames, hr]
      rfl
    have hsame : U.sameButNew ({ U with heap := s₂.heap, slotsUsed := s₂.slotsUsed } : State) L mc ms := by
      refine ⟨?_, q2, q3, q4, q5, q6⟩
      obtain ⟨t, ht, -⟩ := State.frames_cons hr
      show ({ U with heap := s₂.heap, slotsUsed := s₂.slotsUsed } : State) = { U.setFrames U.frames with heap := s₂.heap, slotsUsed := s₂.slotsUsed }
      rw [State.setFrames_self ht]
    subst hg
    refine Or.inr ⟨q, ⟨(({ U with heap := s₂.heap, slotsUsed := s₂.slotsUsed } : State).setVm s₂.vm), Ls ++ L, c0 + mc, s0 + ms⟩,
      ⟨X.admits, X.cas, X.clock, X.frames, X.room, X.hears, X.method, X.code, (X.here.setHeapUsed s₂.heap s₂.slotsUsed).setVm hW'.alike, X.tail, State.WarmedH.trans X.warmed hW', X.limits, X.bytes, X.same.trans (hsame.setVm s.vm)⟩,
      ⟨g, mk, s₂, L, E, ce, rfl, rfl, hx, hce, hcv, hcl, rfl, hL, rfl, rfl⟩, ?_⟩
    show Steps p.tables e below _ (((({ U with heap := s₂.heap, slotsUsed := s₂.slotsUsed } : State).setVm s₂.vm).setTop g).pushFrame (.throwing q))
    rw [← hs₂]
    exact hsteps
end
variable {p : Program} {l : Launch} {e : Env} {R : Room} {s : State} {m : MethodId} {args : Array Value} {below : List Frame} {meth : Method} {c : Code} {T : State} {H : Heap} {locs : List Loc} {cells slots : Nat}
theorem vx_callVX (X : Stand p l e R s m args below meth c T locs cells slots) (hexec : p.tables.exec = Jvm.exec) {own C : String} {index : Nat} {y : MethodName} {bytes : ByteArray} {maxL : Nat} {ret : Option FieldType} {hh : List (Nat × Nat × Nat × Nat)}
    (hown : s.vm.findClass own = some m.cls) (hlink : (Cond.methodLink own index y).before args s = true) (hinst : (Cond.instanceMethod y).before args s = true) (hsel : (Cond.selects C y y).before args s = true)
    (hcode : (Cond.codeWith y bytes maxL ret hh).before args s = true) (hy : y.cls ≠ "java/lang/invoke/MethodHandle" ∧ y.cls ≠ "java/lang/invoke/VarHandle")
    {W9 : Nat} {Pre : Pt → Array Value → Prop} {Post : Pt → Array Value → Option Value → Pt → Prop} {PostX : Pt → Array Value → Addr → Pt → Prop} (hK : vx_Back l R p e below s args y 3 W9 Pre Post PostX)
    {b : Addr} {cellB : Cell} (hcell : T.heap[b]? = some cellB) (hobj : cellB.vm.isStatics = false) (hcls : s.vm.findClass C = some cellB.cls)
    {g : JFrame} (hg : g.method = m) (hsize : g.locals.size = c.maxLocals) {argsL rest : List Value} (hlen : ∀ sig, parseMethodDescriptor y.desc = some sig → argsL.length = sig.parameters.length)
    (hstack : g.stack = argsL.reverse ++ .ref b :: rest) (hW : 2 * g.monitorRoom + (rest.map fun v => v.category).sum ≤ W9) (hdg : decode c.code g.pc = .ok (.invokevirtual index, 3))
    (hpre : ∀ vm₁, s.WarmedH vm₁ → Pre ⟨T.setVm vm₁, locs, cells, slots⟩ (Value.ref b :: argsL).toArray) :
    (∃ (v : Option Value) (vm₁ : Vm) (B : Pt), s.WarmedH vm₁ ∧ Stand p l e R s m args below meth c B.U B.locs B.cells B.slots ∧ Post ⟨T.setVm vm₁, locs, cells, slots⟩ (Value.ref b :: argsL).toArray v B ∧
      ∀ target, Steps p.tables e below (B.U.setTop { g with pc := g.pc + 3, stack := v.toList ++ rest }) target → Steps p.tables e below (T.setTop g) target) ∨
    (∃ (q : Addr) (vm₁ : Vm) (B : Pt), s.WarmedH vm₁ ∧ Stand p l e R s m args below meth c B.U B.locs B.cells B.slots ∧ PostX ⟨T.setVm vm₁, locs, cells, slots⟩ (Value.ref b :: argsL).toArray q B ∧
      Steps p.tables e below (T.setTop g) ((B.U.setTop { g with stack := rest }).pushFrame (.throwing q))) := by
  obtain ⟨mk, methM, hnamed, hmethM, hstM, habM⟩ := Cond.instanceMethod_spec hinst
  obtain ⟨m8, methM', cM, hn8, hmethM', -, -, -, -, -, -, hsigM⟩ := Cond.codeWith_spec hcode
  cases Option.some.inj (hn8.symm.trans hnamed)
  cases hmethM.symm.trans hmethM'
  obtain ⟨c2, r2, m2, q1, q2, q3, q4, kP, hkP, hkPi⟩ := Cond.selects_spec hsel
  cases hcls.symm.trans q1
  cases (State.methodFound?_of_named hnamed hy).symm.trans q2
  cases hnamed.symm.trans q3
  have hselP : selectMethod e.platform s.vm cellB.cls mk = .method mk := by rw [Launch.admits_selectMethod X.admits]; exact q4
  obtain ⟨vm₁, X₁, hstep₁⟩ := X.invokevirtual hexec hown hlink hnamed hmethM hstM hkP hkPi hy (a := b) (cell := cellB) hcell
    (fun z h => by rw [h] at hobj; cases hobj) hselP hmethM habM hkP hkPi (g := g) hg (argsL := argsL) (rest := rest) (hlen _ hsigM) hstack hdg
  rcases hK m meth c ⟨T.setVm vm₁, locs, cells, slots⟩ { g with stack := rest } (.invokevirtual index) mk (Value.ref b :: argsL).toArray X₁ hg hsize hdg hW (X₁.named hnamed) (hpre vm₁ X₁.warmed) with ⟨v, B, X', hpost, hsteps⟩ | ⟨q, B, X', hpost, hsteps⟩
  · exact Or.inl ⟨v, vm₁, B, X₁.warmed, X', hpost, fun target h => hstep₁ _ fun acts => by rw [doInvoke_state]; exact hsteps.trans h⟩
  · exact Or.inr ⟨q, vm₁, B, X₁.warmed, X', hpost, hstep₁ _ fun acts => by rw [doInvoke_state]; exact hsteps⟩
theorem vx_callSX (X : Stand p l e R s m args below meth c T locs cells slots) (hexec : p.tables.exec = Jvm.exec) {own : String} {index : Nat} {y : MethodName} {bytes : ByteArray} {maxL : Nat} {ret : Option FieldType} {hh : List (Nat × Nat × Nat × Nat)}
    (hown : s.vm.findClass own = some m.cls) (hlink : (Cond.methodLink own index y).before args s = true) (hstat : (Cond.static y).before args s = true) (hinit : (Cond.initialized y.cls).before args s = true)
    (hcode : (Cond.codeWith y bytes maxL ret hh).before args s = true) (hy : y.cls ≠ "java/lang/invoke/MethodHandle" ∧ y.cls ≠ "java/lang/invoke/VarHandle")
    {W9 : Nat} {Pre : Pt → Array Value → Prop} {Post : Pt → Array Value → Option Value → Pt → Prop} {PostX : Pt → Array Value → Addr → Pt → Prop} (hK : vx_Back l R p e below s args y 3 W9 Pre Post PostX)
    {g : JFrame} (hg : g.method = m) (hsize : g.locals.size = c.maxLocals) {argsL rest : List Value} (hlen : ∀ sig, parseMethodDescriptor y.desc = some sig → argsL.length = sig.parameters.length)
    (hstack : g.stack = argsL.reverse ++ rest) (hW : 2 * g.monitorRoom + (rest.map fun v => v.category).sum ≤ W9) (hdg : decode c.code g.pc = .ok (.invokestatic index, 3))
    (hpre : ∀ vm₁, s.WarmedH vm₁ → Pre ⟨T.setVm vm₁, locs, cells, slots⟩ argsL.toArray) :
    (∃ (v : Option Value) (vm₁ : Vm) (B : Pt), s.WarmedH vm₁ ∧ Stand p l e R s m args below meth c B.U B.locs B.cells B.slots ∧ Post ⟨T.setVm vm₁, locs, cells, slots⟩ argsL.toArray v B ∧
      ∀ target, Steps p.tables e below (B.U.setTop { g with pc := g.pc + 3, stack := v.toList ++ rest }) target → Steps p.tables e below (T.setTop g) target) ∨
    (∃ (q : Addr) (vm₁ : Vm) (B : Pt), s.WarmedH vm₁ ∧ Stand p l e R s m args below meth c B.U B.locs B.cells B.slots ∧ PostX ⟨T.setVm vm₁, locs, cells, slots⟩ argsL.toArray q B ∧
      Steps p.tables e below (T.setTop g) ((B.U.setTop { g with stack := rest }).pushFrame (.throwing q))) := by
  obtain ⟨mk, methM, cM, hnamed, hmethM, -, -, -, -, -, -, hsigM⟩ := Cond.codeWith_spec hcode
  have hstatic : methM.isStatic = true := Cond.static_spec hnamed hmethM hstat
  obtain ⟨kP, hkP, -⟩ := className_of_methodNamed hnamed
  have hinitP : kP.init = .initialized := Cond.initialized_spec (findClass_of_methodNamed hnamed) hkP hinit
  obtain ⟨vm₁, X₁, hstep₁⟩ := X.invokestatic hexec hown hlink hnamed hmethM hstatic hkP hinitP hy (g := g) hg (argsL := argsL) (rest := rest) (hlen _ hsigM) hstack hdg
  rcases hK m meth c ⟨T.setVm vm₁, locs, cells, slots⟩ { g with stack := rest } (.invokestatic index) mk argsL.toArray X₁ hg hsize hdg hW (X₁.named hnamed) (hpre vm₁ X₁.warmed) with ⟨v, B, X', hpost, hsteps⟩ | ⟨q, B, X', hpost, hsteps⟩
  · exact Or.inl ⟨v, vm₁, B, X₁.warmed, X', hpost, fun target h => hstep₁ _ fun acts => by rw [doInvoke_state]; exact hsteps.trans h⟩
  · exact Or.inr ⟨q, vm₁, B, X₁.warmed, X', hpost, hstep₁ _ fun acts => by rw [doInvoke_state]; exact hsteps⟩
theorem vx_callVW (X : Stand p l e R s m args below meth c T locs cells slots) (hexec : p.tables.exec = Jvm.exec) {own C : String} {index : Nat} {y : MethodName} {bytes : ByteArray} {maxL : Nat} {ret : Option FieldType} {hh : List (Nat × Nat × Nat × Nat)}
    (hown : s.vm.findClass own = some m.cls) (hlink : (Cond.methodLink own index y).before args s = true) (hinst : (Cond.instanceMethod y).before args s = true) (hsel : (Cond.selects C y y).before args s = true)
    (hcode : (Cond.codeWith y bytes maxL ret hh).before args s = true) (hy : y.cls ≠ "java/lang/invoke/MethodHandle" ∧ y.cls ≠ "java/lang/invoke/VarHandle")
    {W9 : Nat} {Pre : Pt → Array Value → Prop} {Post : Pt → Array Value → Option Value → Pt → Prop} (hK : Back l R p e below s args y 3 W9 Pre Post)
    {b : Addr} {cellB : Cell} (hcell : T.heap[b]? = some cellB) (hobj : cellB.vm.isStatics = false) (hcls : s.vm.findClass C = some cellB.cls)
    {g : JFrame} (hg : g.method = m) (hsize : g.locals.size = c.maxLocals) {argsL rest : List Value} (hlen : ∀ sig, parseMethodDescriptor y.desc = some sig → argsL.length = sig.parameters.length)
    (hstack : g.stack = argsL.reverse ++ .ref b :: rest) (hW : 2 * g.monitorRoom + (rest.map fun v => v.category).sum ≤ W9) (hdg : decode c.code g.pc = .ok (.invokevirtual index, 3))
    (hpre : ∀ vm₁, s.WarmedH vm₁ → Pre ⟨T.setVm vm₁, locs, cells, slots⟩ (Value.ref b :: argsL).toArray) :
    ∃ (v : Option Value) (vm₁ : Vm) (B : Pt), s.WarmedH vm₁ ∧ Stand p l e R s m args below meth c B.U B.locs B.cells B.slots ∧ Post ⟨T.setVm vm₁, locs, cells, slots⟩ (Value.ref b :: argsL).toArray v B ∧
      ∀ target, Steps p.tables e below (B.U.setTop { g with pc := g.pc + 3, stack := v.toList ++ rest }) target → Steps p.tables e below (T.setTop g) target := by
  obtain ⟨mk, methM, hnamed, hmethM, hstM, habM⟩ := Cond.instanceMethod_spec hinst
  obtain ⟨m8, methM', cM, hn8, hmethM', -, -, -, -, -, -, hsigM⟩ := Cond.codeWith_spec hcode
  cases Option.some.inj (hn8.symm.trans hnamed)
  cases hmethM.symm.trans hmethM'
  obtain ⟨c2, r2, m2, q1, q2, q3, q4, kP, hkP, hkPi⟩ := Cond.selects_spec hsel
  cases hcls.symm.trans q1
  cases (State.methodFound?_of_named hnamed hy).symm.trans q2
  cases hnamed.symm.trans q3
  have hselP : selectMethod e.platform s.vm cellB.cls mk = .method mk := by rw [Launch.admits_selectMethod X.admits]; exact q4
  obtain ⟨vm₁, X₁, hstep₁⟩ := X.invokevirtual hexec hown hlink hnamed hmethM hstM hkP hkPi hy (a := b) (cell := cellB) hcell
    (fun z h => by rw [h] at hobj; cases hobj) hselP hmethM habM hkP hkPi (g := g) hg (argsL := argsL) (rest := rest) (hlen _ hsigM) hstack hdg
  obtain ⟨v, B, X', hpost, hsteps⟩ := hK m meth c ⟨T.setVm vm₁, locs, cells, slots⟩ { g with stack := rest } (.invokevirtual index) mk (Value.ref b :: argsL).toArray X₁ hg hsize hdg hW (X₁.named hnamed) (hpre vm₁ X₁.warmed)
  exact ⟨v, vm₁, B, X₁.warmed, X', hpost, fun target h => hstep₁ _ fun acts => by rw [doInvoke_state]; exact hsteps.trans h⟩
abbrev vx_CVW (R : Room) (s : State) (args : Array Value) (own C : String) (index : Nat) (y : MethodName) (bytes : ByteArray) (maxL : Nat) (ret : Option FieldType) (hh : List (Nat × Nat × Nat × Nat)) (ws : List Cond) (rm : Room) (mc ms n : Nat) : Prop :=
  (rm.cells = mc ∧ rm.slots = ms ∧ rm.frames + 1 ≤ R.frames ∧ 8 + (maxL + 11) + rm.locals ≤ R.locals ∧ (∀ w ∈ ws, ∀ (a' : Array Value) (U : State), s.WarmedH U.vm → w.before a' U = true) ∧ Cond.codeWith y bytes maxL ret hh ∈ ws) ∧
  (Cond.codeWith y bytes maxL ret hh).before args s = true ∧ (Cond.initialized y.cls).before args s = true ∧ (y.cls ≠ "java/lang/invoke/MethodHandle" ∧ y.cls ≠ "java/lang/invoke/VarHandle") ∧
  (∀ sig, parseMethodDescriptor y.desc = some sig → n = sig.parameters.length) ∧ (Cond.methodLink own index y).before args s = true ∧ (Cond.instanceMethod y).before args s = true ∧ (Cond.selects C y y).before args s = true
theorem vx_cwVW {own C : String} {index maxL mc ms : Nat} {y : MethodName} {bytes : ByteArray} {ret : Option FieldType} {hh : List (Nat × Nat × Nat × Nat)} {Ts ws ws' : List Cond} {rm : Room} (n : Nat) (ht : ∀ w ∈ Ts, w.before args s = true) (hT : GoodIn Ts (wsV own index C y ws)) (hw : ws = Cond.codeWith y bytes maxL ret hh :: ws') (hrc : rm.cells = mc) (hrs : rm.slots = ms)
    (hd : y.cls = C ∧ y.cls ≠ "java/lang/invoke/MethodHandle" ∧ y.cls ≠ "java/lang/invoke/VarHandle" ∧ (parseMethodDescriptor y.desc).map (fun d => d.parameters.length) = some n) (hR : rm.frames + 1 ≤ R.frames ∧ 8 + (maxL + 11) + rm.locals ≤ R.locals) :
    vx_CVW R s args own C index y bytes maxL ret hh ws rm mc ms n := by
  obtain ⟨hC, hd⟩ := hd
  subst hC
  have ok : ∀ w ∈ wsV own index y.cls y ws, w.before args s = true := fun w h => ht w (hT w h).1
  have hG : GoodIn Ts ws := fun w h => hT w (by unfold wsV; exact List.mem_append_right _ h)
  have hc : Cond.codeWith y bytes maxL ret hh ∈ ws := by rw [hw]; exact List.mem_cons_self
  refine ⟨⟨hrc, hrs, hR.1, hR.2, pay_in ht hG, hc⟩, ht _ (hG _ hc).1, ok _ (by simp [wsV]), ⟨hd.1, hd.2.1⟩, fun sig h => ?_, ok _ (by simp [wsV]), ok _ (by simp [wsV]), ok _ (by simp [wsV])⟩
  have h2 := hd.2.2
  rw [h] at h2
  exact (Option.some.inj h2).symm
theorem vx_runVW {y : MethodName} {bytes cc : ByteArray} {maxL nL mc ms n index : Nat} {ret : Option FieldType} {hh : List (Nat × Nat × Nat × Nat)} {ws : List Cond} {rm : Room} {Pc : Array Value → State → Prop} {Qc : Array Value → State → Outcome → State → Prop} {free : Addr → Prop} {Ts : List Cond} {own C : String} {b : Addr} {As rest : List Value} {g : JFrame}
    (S : CallFix p m c cc nL s args Ts own) (hM : Met l y ws rm Pc Qc mc ms free) (cw : vx_CVW R s args own C index y bytes maxL ret hh ws rm mc ms n) (hp : PreV s H C b Pc As)
    (hg : g.method = m) (hn : As.length = n) (hsize : g.locals.size = nL) (hstack : g.stack = As.reverse ++ .ref b :: rest) (hW : 2 * g.monitorRoom + (rest.map fun v => v.category).sum ≤ 8) (hdg : decode cc g.pc = .ok (.invokevirtual index, 3)) (hf : cells + mc ≤ R.cells ∧ slots + ms ≤ R.slots) :
    va_Run p l e R s m args below meth c H locs cells slots mc ms g rest (Qc (Value.ref b :: As).toArray) free := by
  obtain ⟨⟨hrc, hrs, hfr, hlo, hws, hcw⟩, hcode, hini, hy, hlen, hl, hin, hse⟩ := cw
  have hK : Back l R p e below s args y 3 8 (PreOf R mc ms Pc) (PostOf Qc mc ms free) := va_backW (hh := hh) (bytes := bytes) (maxL := maxL) (ret := ret) hM hp.1 hrc hrs hfr hlo hws hcw (fun a' U hW => word_at hW (Or.inl (by first | rfl | simp [Cond.onTables, Cond.keeps, Cond.steady])) hini)
  obtain ⟨hx, hb, hml, ho, -⟩ := S
  obtain ⟨-, ⟨cellB, hcB, hoB, hclB⟩, hPc⟩ := hp
  intro T hT X
  obtain ⟨v, vm₁, ⟨U', l2, c2, s2⟩, hW₁, X', ⟨g', mk, t, L, e1, e2, hq, h1, hL, h2, h3⟩, st⟩ := vx_callVW X hx (C := C) (hh := hh) (bytes := bytes) (maxL := maxL) (ret := ret) ho hl hin hse hcode hy hK (by rw [hT]; exact hcB) hoB hclB hg (hsize.trans hml.symm) (argsL := As) (rest := rest) (fun sig h => hn.trans (hlen sig h)) hstack hW (by rw [hb]; exact hdg)
    (fun vm₁ hW₁ => ⟨hf.1, hf.2, hPc (T.setVm vm₁) hT hW₁⟩)
  dsimp only [Pt.U, Pt.locs, Pt.cells, Pt.slots] at X' e1 e2 h1 h2 h3 st
  subst h1; subst h2; subst h3
  exact ⟨v, (T.setVm vm₁).calling g' mk (Value.ref b :: As).toArray, t, U', L, hT, X', hL, e1, e2, hq, st⟩
section
variable {y : MethodName} {bytes cc : ByteArray} {maxL nL mc ms n index : Nat} {ret : Option FieldType} {ws : List Cond} {rm : Room} {Pc : Array Value → State → Prop} {Qc : Array Value → State → Outcome → State → Prop} {XC : String → State → State → Prop} {free : Addr → Prop} {Ts : List Cond} {own C : String} {b : Addr} {As rest : List Value} {g : JFrame}
theorem vx_runVX {hh : List (Nat × Nat × Nat × Nat)} (S : CallFix p m c cc nL s args Ts own) (hM : vx_Met l y ws rm Pc Qc XC mc ms free) (cw : vx_CVW R s args own C index y bytes maxL ret hh ws rm mc ms n) (hp : PreV s H C b Pc As)
    (hg : g.method = m) (hn : As.length = n) (hsize : g.locals.size = nL) (hstack : g.stack = As.reverse ++ .ref b :: rest) (hW : 2 * g.monitorRoom + (rest.map fun v => v.category).sum ≤ 8) (hdg : decode cc g.pc = .ok (.invokevirtual index, 3)) (hf : cells + mc ≤ R.cells ∧ slots + ms ≤ R.slots) :
    vx_Run p l e R s m args below meth c H locs cells slots mc ms g rest (Qc (Value.ref b :: As).toArray) XC free := by
  obtain ⟨⟨hrc, hrs, hfr, hlo, hws, hcw⟩, hcode, hini, hy, hlen, hl, hin, hse⟩ := cw
  have hK : vx_Back l R p e below s args y 3 8 (PreOf R mc ms Pc) (PostOf Qc mc ms free) (vx_Post XC mc ms free) := vx_backW (hh := hh) (bytes := bytes) (maxL := maxL) (ret := ret) hM hp.1 hrc hrs hfr hlo hws hcw (fun a' U hW => word_at hW (Or.inl (by first | rfl | simp [Cond.onTables, Cond.keeps, Cond.steady])) hini)
  obtain ⟨hx, hb, hml, ho, -⟩ := S
  obtain ⟨-, ⟨cellB, hcB, hoB, hclB⟩, hPc⟩ := hp
  intro T hT X
  rcases vx_callVX X hx (C := C) (hh := hh) (bytes := bytes) (maxL := maxL) (ret := ret) ho hl hin hse hcode hy hK (by rw [hT]; exact hcB) hoB hclB hg (hsize.trans hml.symm) (argsL := As) (rest := rest) (fun sig h => hn.trans (hlen sig h)) hstack hW (by rw [hb]; exact hdg)
    (fun vm₁ hW₁ => ⟨hf.1, hf.2, hPc (T.setVm vm₁) hT hW₁⟩) with ⟨v, vm₁, ⟨U', l2, c2, s2⟩, hW₁, X', ⟨g', mk, t, L, e1, e2, hq, h1, hL, h2, h3⟩, st⟩ | ⟨q, vm₁, ⟨U', l2, c2, s2⟩, hW₁, X', ⟨g', mk, t, L, E, ce, e1, e2, hq, hce, hcv, hcl, h1, hL, h2, h3⟩, st⟩
  · dsimp only [Pt.U, Pt.locs, Pt.cells, Pt.slots] at X' e1 e2 h1 h2 h3 st
    subst h1; subst h2; subst h3
    exact Or.inl ⟨v, (T.setVm vm₁).calling g' mk (Value.ref b :: As).toArray, t, U', L, hT, X', hL, e1, e2, hq, st⟩
  · dsimp only [Pt.U, Pt.locs, Pt.cells, Pt.slots] at X' e1 e2 h1 h2 h3 st hcl
    subst h1; subst h2; subst h3
    exact Or.inr ⟨q, (T.setVm vm₁).calling g' mk (Value.ref b :: As).toArray, t, U', L, E, ce, hT, X', hL, e1, e2, hq, hce, hcv, vx_cls hW₁ hcl, st⟩
theorem vx_runSX {hh : List (Nat × Nat × Nat × Nat)} (S : CallFix p m c cc nL s args Ts own) (hM : vx_Met l y ws rm Pc Qc XC mc ms free) (cw : vx_CSW R s args own index y bytes maxL ret hh ws rm mc ms n) (hp : PreS s H Pc As)
    (hg : g.method = m) (hn : As.length = n) (hsize : g.locals.size = nL) (hstack : g.stack = As.reverse ++ rest) (hW : 2 * g.monitorRoom + (rest.map fun v => v.category).sum ≤ 8) (hdg : decode cc g.pc = .ok (.invokestatic index, 3)) (hf : cells + mc ≤ R.cells ∧ slots + ms ≤ R.slots) :
    vx_Run p l e R s m args below meth c H locs cells slots mc ms g rest (Qc As.toArray) XC free := by
  obtain ⟨⟨hrc, hrs, hfr, hlo, hws, hcw⟩, hcode, hini, hy, hlen, hl, hstt⟩ := cw
  have hK : vx_Back l R p e below s args y 3 8 (PreOf R mc ms Pc) (PostOf Qc mc ms free) (vx_Post XC mc ms free) := vx_backW (hh := hh) (bytes := bytes) (maxL := maxL) (ret := ret) hM hp.1 hrc hrs hfr hlo hws hcw (fun a' U hW => word_at hW (Or.inl (by first | rfl | simp [Cond.onTables, Cond.keeps, Cond.steady])) hini)
  obtain ⟨hx, hb, hml, ho, -⟩ := S
  intro T hT X
  rcases vx_callSX X hx (hh := hh) (bytes := bytes) (maxL := maxL) (ret := ret) ho hl hstt hini hcode hy hK hg (hsize.trans hml.symm) (argsL := As) (rest := rest) (fun sig h => hn.trans (hlen sig h)) hstack hW (by rw [hb]; exact hdg)
    (fun vm₁ hW₁ => ⟨hf.1, hf.2, hp.2 (T.setVm vm₁) hT hW₁⟩) with ⟨v, vm₁, ⟨U', l2, c2, s2⟩, hW₁, X', ⟨g', mk, t, L, e1, e2, hq, h1, hL, h2, h3⟩, st⟩ | ⟨q, vm₁, ⟨U', l2, c2, s2⟩, hW₁, X', ⟨g', mk, t, L, E, ce, e1, e2, hq, hce, hcv, hcl, h1, hL, h2, h3⟩, st⟩
  · dsimp only [Pt.U, Pt.locs, Pt.cells, Pt.slots] at X' e1 e2 h1 h2 h3 st
    subst h1; subst h2; subst h3
    exact Or.inl ⟨v, (T.setVm vm₁).calling g' mk As.toArray, t, U', L, hT, X', hL, e1, e2, hq, st⟩
  · dsimp only [Pt.U, Pt.locs, Pt.cells, Pt.slots] at X' e1 e2 h1 h2 h3 st hcl
    subst h1; subst h2; subst h3
    exact Or.inr ⟨q, (T.setVm vm₁).calling g' mk As.toArray, t, U', L, E, ce, hT, X', hL, e1, e2, hq, hce, hcv, vx_cls hW₁ hcl, st⟩
end
end VXH
theorem vx_ofWH {l : Launch} {y : MethodName} {ws ws' : List Cond} {rm : Room} {Pc : Array Value → State → Prop} {Qc : Array Value → State → Outcome → State → Prop} {XC : String → State → State → Prop} {mc ms : Nat} {free : Addr → Prop} {cc : ByteArray} {maxL : Nat} {ret : Option FieldType} {hh : List (Nat × Nat × Nat × Nat)}
    (hy : plainName y.cls = true) (hw : ws = Cond.codeWith y cc maxL ret hh :: ws')
    (body : ∀ p e s m args below meth c s₁, BodyLoose p l y (headSpec ws rm) cc maxL ret e s m args below meth c s₁ → c.maxLocals = maxL → Pc args s →
      W p l e (headSpec ws rm).room s m args below meth c s.heap [] 0 0 (vx_MQ below Qc XC args s mc ms free) (entryFrame m args maxL)) : vx_Met l y ws rm Pc Qc XC mc ms free := by
  refine MetFree.of_bodyS (code := cc) (maxLocals := maxL) (ret := ret) hy ?_ ?_
  · intro args s m h hn
    obtain ⟨m9, meth, c, hn9, h1, h2, h3, h4, -, h5, h6, -⟩ := Cond.codeWith_spec (atoms_spec (ws := ws) h _ (by rw [hw]; exact List.mem_cons_self))
    cases hn.symm.trans hn9
    exact ⟨meth, c, h1, h2, h3, h4, h5, h6⟩
  · intro p e s m args below meth c s₁ B hml hP _
    have hh0 : s₁.heap = s.heap := by rw [B.state]; rfl
    obtain ⟨t, a1, o, b1, b2, b3⟩ := body p e s m args below meth c s₁ B hml hP s₁ hh0 (Stand.of_body B)
    exact ⟨t, o, a1, b1, b2, b3⟩
/-! ===== END ===== -/
/-! ===== BEGIN a constructor that throws (launches without stack traces) ===== -/
section VXIA
variable {p : Program} {l : Launch} {e : Env} {R : Room} {s : State} {m : MethodId} {args : Array Value} {below : List Frame} {meth : Method} {c : Code} {T : State} {locs : List Loc} {cells slots : Nat}
theorem vx_callI (X : Stand p l e R s m args below meth c T locs cells slots) (hexec : p.tables.exec = Jvm.exec) {own : String} {index : Nat} {y : MethodName} {bytes : ByteArray} {maxL : Nat}
    (hown : s.vm.findClass own = some m.cls) (hy1 : y.name = "<init>") (hlink : (Cond.methodLink own index y).before args s = true) (hinst : (Cond.instanceMethod y).before args s = true)
    (hcode : (Cond.code y bytes maxL none).before args s = true) (hy : y.cls ≠ "java/lang/invoke/MethodHandle" ∧ y.cls ≠ "java/lang/invoke/VarHandle")
    {W9 : Nat} {Pre : Pt → Array Value → Prop} {Post : Pt → Array Value → Option Value → Pt → Prop} {PostX : Pt → Array Value → Addr → Pt → Prop} (hK : vx_Back l R p e below s args y 3 W9 Pre Post PostX)
    {g : JFrame} (hg : g.method = m) (hsize : g.locals.size = c.maxLocals) {a : Addr} {argsL rest : List Value} (hlen : ∀ sig, parseMethodDescriptor y.desc = some sig → argsL.length = sig.parameters.length)
    (hstack : g.stack = argsL.reverse ++ .ref a :: rest) (hW : 2 * g.monitorRoom + (rest.map fun v => v.category).sum ≤ W9) (hdg : decode c.code g.pc = .ok (.invokespecial index, 3))
    (hpre : ∀ vm₁, s.WarmedH vm₁ → Pre ⟨T.setVm vm₁, locs, cells, slots⟩ (Value.ref a :: argsL).toArray) :
    (∃ (v : Option Value) (vm₁ : Vm) (B : Pt), s.WarmedH vm₁ ∧ Stand p l e R s m args below meth c B.U B.locs B.cells B.slots ∧ Post ⟨T.setVm vm₁, locs, cells, slots⟩ (Value.ref a :: argsL).toArray v B ∧
      ∀ target, Steps p.tables e below (B.U.setTop { g with pc := g.pc + 3, stack := v.toList ++ rest }) target → Steps p.tables e below (T.setTop g) target) ∨
    (∃ (q : Addr) (vm₁ : Vm) (B : Pt), s.WarmedH vm₁ ∧ Stand p l e R s m args below meth c B.U B.locs B.cells B.slots ∧ PostX ⟨T.setVm vm₁, locs, cells, slots⟩ (Value.ref a :: argsL).toArray q B ∧
      Steps p.tables e below (T.setTop g) ((B.U.setTop { g with stack := rest }).pushFrame (.throwing q))) := by
  subst hg
  have hpl : e.platform.magicAccessors = ({} : Platform).magicAccessors := by rw [X.admits.platform]
  obtain ⟨mk, methM, cM, kP, vm₁, hnamed, hmethM, hcodeM, -, hlocalsM, -, hkP, -, hW₁, hstep₁⟩ := Steps.initColdArgs (e := e) X.here hexec X.warmed hpl hown hy1 hy hlink hinst hcode (f := g) rfl hlen hstack hdg
  have X₁ := X.noted hW₁
  rcases hK g.method meth c ⟨T.setVm vm₁, locs, cells, slots⟩ { g with stack := rest } (.invokespecial index) mk (Value.ref a :: argsL).toArray X₁ rfl hsize hdg hW (X₁.named hnamed) (hpre vm₁ X₁.warmed) with ⟨v, B, X', hpost, hsteps⟩ | ⟨q, B, X', hpost, hsteps⟩
  · exact Or.inl ⟨v, vm₁, B, X₁.warmed, X', hpost, fun target h => hstep₁ _ fun acts => by rw [doInvoke_state]; exact hsteps.trans h⟩
  · exact Or.inr ⟨q, vm₁, B, X₁.warmed, X', hpost, hstep₁ _ fun acts => by rw [doInvoke_state]; exact hsteps⟩
end VXIA
section VXIB
variable {p : Program} {l : Launch} {e : Env} {R : Room} {s : State} {m : MethodId} {args : Array Value} {below : List Frame} {meth : Method} {c : Code} {H : Heap} {locs : List Loc} {cells slots : Nat}
variable {y : MethodName} {bytes cc : ByteArray} {maxL nL mc ms n index : Nat} {ret : Option FieldType} {ws : List Cond} {rm : Room} {Pc : Array Value → State → Prop} {Qc : Array Value → State → Outcome → State → Prop} {XC : String → State → State → Prop} {free : Addr → Prop} {Ts : List Cond} {own C : String} {b : Addr} {As rest : List Value} {g : JFrame}
theorem vx_runI (S : CallFix p m c cc nL s args Ts own) (hM : vx_Met l y ws rm Pc Qc XC mc ms free) (cw : CallB R s args own index y bytes maxL none ws rm mc ms n ∧ y.name = "<init>" ∧ (Cond.instanceMethod y).before args s = true) (hp : PreS s H Pc (.ref b :: As))
    (hg : g.method = m) (hn : As.length = n) (hsize : g.locals.size = nL) (hstack : g.stack = As.reverse ++ .ref b :: rest) (hW : 2 * g.monitorRoom + (rest.map fun v => v.category).sum ≤ 8) (hdg : decode cc g.pc = .ok (.invokespecial index, 3)) (hf : cells + mc ≤ R.cells ∧ slots + ms ≤ R.slots) :
    vx_Run p l e R s m args below meth c H locs cells slots mc ms g rest (Qc (Value.ref b :: As).toArray) XC free := by
  have hK : vx_Back l R p e below s args y 3 8 (PreOf R mc ms Pc) (PostOf Qc mc ms free) (vx_Post XC mc ms free) := vx_callBack cw.1 hM hp.1
  obtain ⟨⟨-, -, -, -, -, -, hcode, -, hy, hlen, hl⟩, hy1, hin⟩ := cw
  obtain ⟨hx, hb, hml, ho, -⟩ := S
  have hPc := hp.2
  intro T hT X
  rcases vx_callI X hx (bytes := bytes) (maxL := maxL) ho hy1 hl hin hcode hy hK hg (hsize.trans hml.symm) (a := b) (argsL := As) (rest := rest) (fun sig h => hn.trans (hlen sig h)) hstack hW (by rw [hb]; exact hdg)
    (fun vm₁ hW₁ => ⟨hf.1, hf.2, hPc (T.setVm vm₁) hT hW₁⟩) with ⟨v, vm₁, ⟨U', l2, c2, s2⟩, hW₁, X', ⟨g', mk, t, L, e1, e2, hq, h1, hL, h2, h3⟩, st⟩ | ⟨q, vm₁, ⟨U', l2, c2, s2⟩, hW₁, X', ⟨g', mk, t, L, E, ce, e1, e2, hq, hce, hcv, hcl, h1, hL, h2, h3⟩, st⟩
  · dsimp only [Pt.U, Pt.locs, Pt.cells, Pt.slots] at X' e1 e2 h1 h2 h3 st
    subst h1; subst h2; subst h3
    exact Or.inl ⟨v, (T.setVm vm₁).calling g' mk (Value.ref b :: As).toArray, t, U', L, hT, X', hL, e1, e2, hq, st⟩
  · dsimp only [Pt.U, Pt.locs, Pt.cells, Pt.slots] at X' e1 e2 h1 h2 h3 st hcl
    subst h1; subst h2; subst h3
    exact Or.inr ⟨q, (T.setVm vm₁).calling g' mk (Value.ref b :: As).toArray, t, U', L, E, ce, hT, X', hL, e1, e2, hq, hce, hcv, vx_cls hW₁ hcl, st⟩
end VXIB
/-! ===== END ===== -/
/-! ===== BEGIN a private constructor of a nest mate that throws ===== -/
section VXIC
variable {p : Program} {l : Launch} {e : Env} {R : Room} {s : State} {m : MethodId} {args : Array Value} {below : List Frame} {meth : Method} {c : Code} {T : State} {locs : List Loc} {cells slots : Nat}
theorem vx_callIN (X : Stand p l e R s m args below meth c T locs cells slots) (hexec : p.tables.exec = Jvm.exec) {own : String} {index : Nat} {host : String} {y : MethodName} {bytes : ByteArray} {maxL : Nat}
    (hown : s.vm.findClass own = some m.cls) (hy1 : y.name = "<init>") (hlink : (Cond.methodLinkNest own index y host).before args s = true) (hinst : (Cond.instanceMethod y).before args s = true)
    (hcode : (Cond.code y bytes maxL none).before args s = true) (hy : y.cls ≠ "java/lang/invoke/MethodHandle" ∧ y.cls ≠ "java/lang/invoke/VarHandle")
    {W9 : Nat} {Pre : Pt → Array Value → Prop} {Post : Pt → Array Value → Option Value → Pt → Prop} {PostX : Pt → Array Value → Addr → Pt → Prop} (hK : vx_Back l R p e below s args y 3 W9 Pre Post PostX)
    {g : JFrame} (hg : g.method = m) (hsize : g.locals.size = c.maxLocals) {a : Addr} {argsL rest : List Value} (hlen : ∀ sig, parseMethodDescriptor y.desc = some sig → argsL.length = sig.parameters.length)
    (hstack : g.stack = argsL.reverse ++ .ref a :: rest) (hW : 2 * g.monitorRoom + (rest.map fun v => v.category).sum ≤ W9) (hdg : decode c.code g.pc = .ok (.invokespecial index, 3))
    (hpre : ∀ vm₁, s.WarmedH vm₁ → Pre ⟨T.setVm vm₁, locs, cells, slots⟩ (Value.ref a :: argsL).toArray) :
    (∃ (v : Option Value) (vm₁ : Vm) (B : Pt), s.WarmedH vm₁ ∧ Stand p l e R s m args below meth c B.U B.locs B.cells B.slots ∧ Post ⟨T.setVm vm₁, locs, cells, slots⟩ (Value.ref a :: argsL).toArray v B ∧
      ∀ target, Steps p.tables e below (B.U.setTop { g with pc := g.pc + 3, stack := v.toList ++ rest }) target → Steps p.tables e below (T.setTop g) target) ∨
    (∃ (q : Addr) (vm₁ : Vm) (B : Pt), s.WarmedH vm₁ ∧ Stand p l e R s m args below meth c B.U B.locs B.cells B.slots ∧ PostX ⟨T.setVm vm₁, locs, cells, slots⟩ (Value.ref a :: argsL).toArray q B ∧
      Steps p.tables e below (T.setTop g) ((B.U.setTop { g with stack := rest }).pushFrame (.throwing q))) := by
  subst hg
  have hpl : e.platform.magicAccessors = ({} : Platform).magicAccessors := by rw [X.admits.platform]
  obtain ⟨mk, methM, cM, kP, vm₁, hnamed, hmethM, hcodeM, -, hlocalsM, -, hkP, -, hW₁, hstep₁⟩ := Steps.initColdArgsNest (e := e) X.here hexec X.warmed hpl hown hy1 hy hlink hinst hcode (f := g) rfl hlen hstack hdg
  have X₁ := X.noted hW₁
  rcases hK g.method meth c ⟨T.setVm vm₁, locs, cells, slots⟩ { g with stack := rest } (.invokespecial index) mk (Value.ref a :: argsL).toArray X₁ rfl hsize hdg hW (X₁.named hnamed) (hpre vm₁ X₁.warmed) with ⟨v, B, X', hpost, hsteps⟩ | ⟨q, B, X', hpost, hsteps⟩
  · exact Or.inl ⟨v, vm₁, B, X₁.warmed, X', hpost, fun target h => hstep₁ _ fun acts => by rw [doInvoke_state]; exact hsteps.trans h⟩
  · exact Or.inr ⟨q, vm₁, B, X₁.warmed, X', hpost, hstep₁ _ fun acts => by rw [doInvoke_state]; exact hsteps⟩
end VXIC
section VXID
variable {p : Program} {l : Launch} {e : Env} {R : Room} {s : State} {m : MethodId} {args : Array Value} {below : List Frame} {meth : Method} {c : Code} {H : Heap} {locs : List Loc} {cells slots : Nat}
theorem vx_runIN {y : MethodName} {bytes cc : ByteArray} {maxL nL mc ms n index : Nat} {ws : List Cond} {rm : Room} {Pc : Array Value → State → Prop} {Qc : Array Value → State → Outcome → State → Prop} {XC : String → State → State → Prop} {free : Addr → Prop} {Ts : List Cond} {own host : String} {b : Addr} {As rest : List Value} {g : JFrame}
    (S : CallFix p m c cc nL s args Ts own) (hM : vx_Met l y ws rm Pc Qc XC mc ms free) (cw : va_CN R s args own index y host bytes maxL none ws rm mc ms n ∧ y.name = "<init>" ∧ (Cond.instanceMethod y).before args s = true) (hp : PreS s H Pc (.ref b :: As))
    (hg : g.method = m) (hn : As.length = n) (hsize : g.locals.size = nL) (hstack : g.stack = As.reverse ++ .ref b :: rest) (hW : 2 * g.monitorRoom + (rest.map fun v => v.category).sum ≤ 8) (hdg : decode cc g.pc = .ok (.invokespecial index, 3)) (hf : cells + mc ≤ R.cells ∧ slots + ms ≤ R.slots) :
    vx_Run p l e R s m args below meth c H locs cells slots mc ms g rest (Qc (Value.ref b :: As).toArray) XC free := by
  obtain ⟨⟨⟨hrc, hrs, hfr, hlo, hws, hcw⟩, hcode, hini, hy, hlen, hl⟩, hx1, hx2⟩ := cw
  have hK : vx_Back l R p e below s args y 3 8 (PreOf R mc ms Pc) (PostOf Qc mc ms free) (vx_Post XC mc ms free) := vx_back (bytes := bytes) (maxL := maxL) (ret := none) hM hp.1 hrc hrs hfr hlo hws hcw (fun a' U hW => word_at hW (Or.inl (by first | rfl | simp [Cond.onTables, Cond.keeps, Cond.steady])) hini)
  obtain ⟨hx, hb, hml, ho, -⟩ := S
  have hPc := hp.2
  intro T hT X
  rcases vx_callIN X hx (bytes := bytes) (maxL := maxL) ho hx1 hl hx2 hcode hy hK hg (hsize.trans hml.symm) (a := b) (argsL := As) (rest := rest) (fun sig h => hn.trans (hlen sig h)) hstack hW (by rw [hb]; exact hdg)
    (fun vm₁ hW₁ => ⟨hf.1, hf.2, hPc (T.setVm vm₁) hT hW₁⟩) with ⟨v, vm₁, ⟨U', l2, c2, s2⟩, hW₁, X', ⟨g', mk, t, L, e1, e2, hq, h1, hL, h2, h3⟩, st⟩ | ⟨q, vm₁, ⟨U', l2, c2, s2⟩, hW₁, X', ⟨g', mk, t, L, E, ce, e1, e2, hq, hce, hcv, hcl, h1, hL, h2, h3⟩, st⟩
  · dsimp only [Pt.U, Pt.locs, Pt.cells, Pt.slots] at X' e1 e2 h1 h2 h3 st
    subst h1; subst h2; subst h3
    exact Or.inl ⟨v, (T.setVm vm₁).calling g' mk (Value.ref b :: As).toArray, t, U', L, hT, X', hL, e1, e2, hq, st⟩
  · dsimp only [Pt.U, Pt.locs, Pt.cells, Pt.slots] at X' e1 e2 h1 h2 h3 st hcl
    subst h1; subst h2; subst h3
    exact Or.inr ⟨q, (T.setVm vm₁).calling g' mk (Value.ref b :: As).toArray, t, U', L, E, ce, hT, X', hL, e1, e2, hq, hce, hcv, vx_cls hW₁ hcl, st⟩
end VXID
/-! ===== END ===== -/
/-! ===== BEGIN a private method of a nest mate that may throw (follows va_callVN, va_callSN, va_runVN, va_runSN) ===== -/
section
variable {p : Program} {l : Launch} {e : Env} {R : Room} {s : State} {m : MethodId} {args : Array Value} {below : List Frame} {meth : Method} {c : Code} {H : Heap} {locs : List Loc} {cells slots : Nat}
variable {T : State}
theorem vx_callVN (X : Stand p l e R s m args below meth c T locs cells slots) (hexec : p.tables.exec = Jvm.exec) {own C : String} {index : Nat} {host : String} {y : MethodName} {bytes : ByteArray} {maxL : Nat} {ret : Option FieldType}
    (hown : s.vm.findClass own = some m.cls) (hlink : (Cond.methodLinkNest own index y host).before args s = true) (hinst : (Cond.instanceMethod y).before args s = true) (hsel : (Cond.selects C y y).before args s = true)
    (hcode : (Cond.code y bytes maxL ret).before args s = true) (hy : y.cls ≠ "java/lang/invoke/MethodHandle" ∧ y.cls ≠ "java/lang/invoke/VarHandle")
    {W : Nat} {Pre : Pt → Array Value → Prop} {Post : Pt → Array Value → Option Value → Pt → Prop} {PostX : Pt → Array Value → Addr → Pt → Prop} (hK : vx_Back l R p e below s args y 3 W Pre Post PostX)
    {b : Addr} {cellB : Cell} (hcell : T.heap[b]? = some cellB) (hobj : cellB.vm.isStatics = false) (hcls : s.vm.findClass C = some cellB.cls)
    {g : JFrame} (hg : g.method = m) (hsize : g.locals.size = c.maxLocals) {argsL rest : List Value} (hlen : ∀ sig, parseMethodDescriptor y.desc = some sig → argsL.length = sig.parameters.length)
    (hstack : g.stack = argsL.reverse ++ .ref b :: rest) (hW : 2 * g.monitorRoom + (rest.map fun v => v.category).sum ≤ W) (hdg : decode c.code g.pc = .ok (.invokevirtual index, 3))
    (hpre : ∀ vm₁, s.WarmedH vm₁ → Pre ⟨T.setVm vm₁, locs, cells, slots⟩ (Value.ref b :: argsL).toArray) :
    (∃ (v : Option Value) (vm₁ : Vm) (B : Pt), s.WarmedH vm₁ ∧ Stand p l e R s m args below meth c B.U B.locs B.cells B.slots ∧ Post ⟨T.setVm vm₁, locs, cells, slots⟩ (Value.ref b :: argsL).toArray v B ∧
      ∀ target, Steps p.tables e below (B.U.setTop { g with pc := g.pc + 3, stack := v.toList ++ rest }) target → Steps p.tables e below (T.setTop g) target) ∨
    (∃ (q : Addr) (vm₁ : Vm) (B : Pt), s.WarmedH vm₁ ∧ Stand p l e R s m args below meth c B.U B.locs B.cells B.slots ∧ PostX ⟨T.setVm vm₁, locs, cells, slots⟩ (Value.ref b :: argsL).toArray q B ∧
      Steps p.tables e below (T.setTop g) ((B.U.setTop { g with stack := rest }).pushFrame (.throwing q))) := by
  obtain ⟨mk, methM, hnamed, hmethM, hstM, habM⟩ := Cond.instanceMethod_spec hinst
  obtain ⟨methM', cM, hmethM', -, -, -, -, -, -, hsigM⟩ := Cond.code_spec hnamed hcode
  cases hmethM.symm.trans hmethM'
  obtain ⟨c2, r2, m2, q1, q2, q3, q4, kP, hkP, hkPi⟩ := Cond.selects_spec hsel
  cases hcls.symm.trans q1
  cases (State.methodFound?_of_named hnamed hy).symm.trans q2
  cases hnamed.symm.trans q3
  have hselP : selectMethod e.platform s.vm cellB.cls mk = .method mk := by rw [Launch.admits_selectMethod X.admits]; exact q4
  obtain ⟨vm₁, X₁, hstep₁⟩ := X.invokevirtualNest hexec hown hlink hnamed hmethM hstM hkP hkPi hy (a := b) (cell := cellB) hcell
    (fun z h => by rw [h] at hobj; cases hobj) hselP hmethM habM hkP hkPi (g := g) hg (argsL := argsL) (rest := rest) (hlen _ hsigM) hstack hdg
  rcases hK m meth c ⟨T.setVm vm₁, locs, cells, slots⟩ { g with stack := rest } (.invokevirtual index) mk (Value.ref b :: argsL).toArray X₁ hg hsize hdg hW (X₁.named hnamed) (hpre vm₁ X₁.warmed) with ⟨v, B, X', hpost, hsteps⟩ | ⟨q, B, X', hpost, hsteps⟩
  · exact Or.inl ⟨v, vm₁, B, X₁.warmed, X', hpost, fun target h => hstep₁ _ fun acts => by rw [doInvoke_state]; exact hsteps.trans h⟩
  · exact Or.inr ⟨q, vm₁, B, X₁.warmed, X', hpost, hstep₁ _ fun acts => by rw [doInvoke_state]; exact hsteps⟩
theorem vx_callSN (X : Stand p l e R s m args below meth c T locs cells slots) (hexec : p.tables.exec = Jvm.exec) {own : String} {index : Nat} {host : String} {y : MethodName} {bytes : ByteArray} {maxL : Nat} {ret : Option FieldType}
    (hown : s.vm.findClass own = some m.cls) (hlink : (Cond.methodLinkNest own index y host).before args s = true) (hstat : (Cond.static y).before args s = true) (hinit : (Cond.initialized y.cls).before args s = true)
    (hcode : (Cond.code y bytes maxL ret).before args s = true) (hy : y.cls ≠ "java/lang/invoke/MethodHandle" ∧ y.cls ≠ "java/lang/invoke/VarHandle")
    {W : Nat} {Pre : Pt → Array Value → Prop} {Post : Pt → Array Value → Option Value → Pt → Prop} {PostX : Pt → Array Value → Addr → Pt → Prop} (hK : vx_Back l R p e below s args y 3 W Pre Post PostX)
    {g : JFrame} (hg : g.method = m) (hsize : g.locals.size = c.maxLocals) {argsL rest : List Value} (hlen : ∀ sig, parseMethodDescriptor y.desc = some sig → argsL.length = sig.parameters.length)
    (hstack : g.stack = argsL.reverse ++ rest) (hW : 2 * g.monitorRoom + (rest.map fun v => v.category).sum ≤ W) (hdg : decode c.code g.pc = .ok (.invokestatic index, 3))
    (hpre : ∀ vm₁, s.WarmedH vm₁ → Pre ⟨T.setVm vm₁, locs, cells, slots⟩ argsL.toArray) :
    (∃ (v : Option Value) (vm₁ : Vm) (B : Pt), s.WarmedH vm₁ ∧ Stand p l e R s m args below meth c B.U B.locs B.cells B.slots ∧ Post ⟨T.setVm vm₁, locs, cells, slots⟩ argsL.toArray v B ∧
      ∀ target, Steps p.tables e below (B.U.setTop { g with pc := g.pc + 3, stack := v.toList ++ rest }) target → Steps p.tables e below (T.setTop g) target) ∨
    (∃ (q : Addr) (vm₁ : Vm) (B : Pt), s.WarmedH vm₁ ∧ Stand p l e R s m args below meth c B.U B.locs B.cells B.slots ∧ PostX ⟨T.setVm vm₁, locs, cells, slots⟩ argsL.toArray q B ∧
      Steps p.tables e below (T.setTop g) ((B.U.setTop { g with stack := rest }).pushFrame (.throwing q))) := by
  obtain ⟨mk, hnamed⟩ := Cond.code_named hcode
  obtain ⟨methM, cM, hmethM, -, -, -, -, -, -, hsigM⟩ := Cond.code_spec hnamed hcode
  have hstatic : methM.isStatic = true := Cond.static_spec hnamed hmethM hstat
  obtain ⟨kP, hkP, -⟩ := className_of_methodNamed hnamed
  have hinitP : kP.init = .initialized := Cond.initialized_spec (findClass_of_methodNamed hnamed) hkP hinit
  obtain ⟨vm₁, X₁, hstep₁⟩ := X.invokestaticNest hexec hown hlink hnamed hmethM hstatic hkP hinitP hy (g := g) hg (argsL := argsL) (rest := rest) (hlen _ hsigM) hstack hdg
  rcases hK m meth c ⟨T.setVm vm₁, locs, cells, slots⟩ { g with stack := rest } (.invokestatic index) mk argsL.toArray X₁ hg hsize hdg hW (X₁.named hnamed) (hpre vm₁ X₁.warmed) with ⟨v, B, X', hpost, hsteps⟩ | ⟨q, B, X', hpost, hsteps⟩
  · exact Or.inl ⟨v, vm₁, B, X₁.warmed, X', hpost, fun target h => hstep₁ _ fun acts => by rw [doInvoke_state]; exact hsteps.trans h⟩
  · exact Or.inr ⟨q, vm₁, B, X₁.warmed, X', hpost, hstep₁ _ fun acts => by rw [doInvoke_state]; exact hsteps⟩
theorem vx_runVN {y : MethodName} {bytes cc : ByteArray} {maxL nL mc ms n index : Nat} {ret : Option FieldType} {ws : List Cond} {rm : Room} {Pc : Array Value → State → Prop} {Qc : Array Value → State → Outcome → State → Prop} {XC : String → State → State → Prop} {free : Addr → Prop} {Ts : List Cond} {own C host : String} {b : Addr} {As rest : List Value} {g : JFrame}
    (S : CallFix p m c cc nL s args Ts own) (hM : vx_Met l y ws rm Pc Qc XC mc ms free) (cw : va_CN R s args own index y host bytes maxL ret ws rm mc ms n ∧ (Cond.instanceMethod y).before args s = true ∧ (Cond.selects C y y).before args s = true) (hp : PreV s H C b Pc As)
    (hg : g.method = m) (hn : As.length = n) (hsize : g.locals.size = nL) (hstack : g.stack = As.reverse ++ .ref b :: rest) (hW : 2 * g.monitorRoom + (rest.map fun v => v.category).sum ≤ 8) (hdg : decode cc g.pc = .ok (.invokevirtual index, 3)) (hf : cells + mc ≤ R.cells ∧ slots + ms ≤ R.slots) :
    vx_Run p l e R s m args below meth c H locs cells slots mc ms g rest (Qc (Value.ref b :: As).toArray) XC free := by
  obtain ⟨⟨⟨hrc, hrs, hfr, hlo, hws, hcw⟩, hcode, hini, hy, hlen, hl⟩, hx1, hx2⟩ := cw
  have hK : vx_Back l R p e below s args y 3 8 (PreOf R mc ms Pc) (PostOf Qc mc ms free) (vx_Post XC mc ms free) := vx_back (bytes := bytes) (maxL := maxL) (ret := ret) hM hp.1 hrc hrs hfr hlo hws hcw (fun a' U hW => word_at hW (Or.inl (by first | rfl | simp [Cond.onTables, Cond.keeps, Cond.steady])) hini)
  obtain ⟨hx, hb, hml, ho, -⟩ := S
  obtain ⟨-, ⟨cellB, hcB, hoB, hclB⟩, hPc⟩ := hp
  intro T hT X
  rcases vx_callVN X hx (C := C) (bytes := bytes) (maxL := maxL) (ret := ret) ho hl hx1 hx2 hcode hy hK (by rw [hT]; exact hcB) hoB hclB hg (hsize.trans hml.symm) (argsL := As) (rest := rest) (fun sig h => hn.trans (hlen sig h)) hstack hW (by rw [hb]; exact hdg)
    (fun vm₁ hW₁ => ⟨hf.1, hf.2, hPc (T.setVm vm₁) hT hW₁⟩) with ⟨v, vm₁, ⟨U', l2, c2, s2⟩, hW₁, X', ⟨g', mk, t, L, e1, e2, hq, h1, hL, h2, h3⟩, st⟩ | ⟨q, vm₁, ⟨U', l2, c2, s2⟩, hW₁, X', ⟨g', mk, t, L, E, ce, e1, e2, hq, hce, hcv, hcl, h1, hL, h2, h3⟩, st⟩
  · dsimp only [Pt.U, Pt.locs, Pt.cells, Pt.slots] at X' e1 e2 h1 h2 h3 st
    subst h1; subst h2; subst h3
    exact Or.inl ⟨v, (T.setVm vm₁).calling g' mk (Value.ref b :: As).toArray, t, U', L, hT, X', hL, e1, e2, hq, st⟩
  · dsimp only [Pt.U, Pt.locs, Pt.cells, Pt.slots] at X' e1 e2 h1 h2 h3 st hcl
    subst h1; subst h2; subst h3
    exact Or.inr ⟨q, (T.setVm vm₁).calling g' mk (Value.ref b :: As).toArray, t, U', L, E, ce, hT, X', hL, e1, e2, hq, hce, hcv, vx_cls hW₁ hcl, st⟩
theorem vx_runSN {y : MethodName} {bytes cc : ByteArray} {maxL nL mc ms n index : Nat} {ret : Option FieldType} {ws : List Cond} {rm : Room} {Pc : Array Value → State → Prop} {Qc : Array Value → State → Outcome → State → Prop} {XC : String → State → State → Prop} {free : Addr → Prop} {Ts : List Cond} {own host : String} {As rest : List Value} {g : JFrame}
    (S : CallFix p m c cc nL s args Ts own) (hM : vx_Met l y ws rm Pc Qc XC mc ms free) (cw : va_CN R s args own index y host bytes maxL ret ws rm mc ms n ∧ (Cond.static y).before args s = true ∧ True) (hp : PreS s H Pc As)
    (hg : g.method = m) (hn : As.length = n) (hsize : g.locals.size = nL) (hstack : g.stack = As.reverse ++ rest) (hW : 2 * g.monitorRoom + (rest.map fun v => v.category).sum ≤ 8) (hdg : decode cc g.pc = .ok (.invokestatic index, 3)) (hf : cells + mc ≤ R.cells ∧ slots + ms ≤ R.slots) :
    vx_Run p l e R s m args below meth c H locs cells slots mc ms g rest (Qc As.toArray) XC free := by
  obtain ⟨⟨⟨hrc, hrs, hfr, hlo, hws, hcw⟩, hcode, hini, hy, hlen, hl⟩, hx1, hx2⟩ := cw
  have hK : vx_Back l R p e below s args y 3 8 (PreOf R mc ms Pc) (PostOf Qc mc ms free) (vx_Post XC mc ms free) := vx_back (bytes := bytes) (maxL := maxL) (ret := ret) hM hp.1 hrc hrs hfr hlo hws hcw (fun a' U hW => word_at hW (Or.inl (by first | rfl | simp [Cond.onTables, Cond.keeps, Cond.steady])) hini)
  obtain ⟨hx, hb, hml, ho, -⟩ := S
  have hPc := hp.2
  intro T hT X
  rcases vx_callSN X hx (bytes := bytes) (maxL := maxL) (ret := ret) ho hl hx1 hini hcode hy hK hg (hsize.trans hml.symm) (argsL := As) (rest := rest) (fun sig h => hn.trans (hlen sig h)) hstack hW (by rw [hb]; exact hdg)
    (fun vm₁ hW₁ => ⟨hf.1, hf.2, hPc (T.setVm vm₁) hT hW₁⟩) with ⟨v, vm₁, ⟨U', l2, c2, s2⟩, hW₁, X', ⟨g', mk, t, L, e1, e2, hq, h1, hL, h2, h3⟩, st⟩ | ⟨q, vm₁, ⟨U', l2, c2, s2⟩, hW₁, X', ⟨g', mk, t, L, E, ce, e1, e2, hq, hce, hcv, hcl, h1, hL, h2, h3⟩, st⟩
  · dsimp only [Pt.U, Pt.locs, Pt.cells, Pt.slots] at X' e1 e2 h1 h2 h3 st
    subst h1; subst h2; subst h3
    exact Or.inl ⟨v, (T.setVm vm₁).calling g' mk As.toArray, t, U', L, hT, X', hL, e1, e2, hq, st⟩
  · dsimp only [Pt.U, Pt.locs, Pt.cells, Pt.slots] at X' e1 e2 h1 h2 h3 st hcl
    subst h1; subst h2; subst h3
    exact Or.inr ⟨q, (T.setVm vm₁).calling g' mk As.toArray, t, U', L, E, ce, hT, X', hL, e1, e2, hq, hce, hcv, vx_cls hW₁ hcl, st⟩
end
/-! ===== END ===== -/
end
section
def RX0 : String := "GlitchCourt$Bench"
def TX0 : u_T := fun k => match k with
  | 0 => ("GlitchCourt$Bench", "circuit", "LGlitchCourt$Circuit;", true)
  | 1 => ("GlitchCourt$Bench", "state", "LGlitchCourt$State;", true)
  | 2 => ("GlitchCourt$Bench", "shown", "[J", true)
  | 3 => ("GlitchCourt$Bench", "cheap", "[J", true)
  | 4 => ("GlitchCourt$Bench", "dear", "[J", true)
  | 5 => ("GlitchCourt$Bench", "trial", "[J", true)
  | _ => ("GlitchCourt$Bench", "paths", "[I", true)
def tyX0 : Nat → FieldType := fun k => match k with
  | 0 => .object "GlitchCourt$Circuit"
  | 1 => .object "GlitchCourt$State"
  | 2 => .array .long
  | 3 => .array .long
  | 4 => .array .long
  | 5 => .array .long
  | _ => .array .int
theorem nmX0 : ∀ a, a < 7 → ∀ b, b < 7 → a ≠ b → (TX0 a).2.1 ≠ (TX0 b).2.1 := by decide +kernel
theorem tyX0_ok : ∀ k, k < 7 → parseFieldDescriptor (TX0 k).2.2.1 = some (tyX0 k) := by decide +kernel
def RX1 : String := "GlitchCourt$BenchText"
def TX1 : u_T := fun k => match k with
  | _ => ("", "", "", false)
def tyX1 : Nat → FieldType := fun k => match k with
  | _ => .int
theorem nmX1 : ∀ a, a < 0 → ∀ b, b < 0 → a ≠ b → (TX1 a).2.1 ≠ (TX1 b).2.1 := by decide +kernel
theorem tyX1_ok : ∀ k, k < 0 → parseFieldDescriptor (TX1 k).2.2.1 = some (tyX1 k) := by decide +kernel
def RX2 : String := "GlitchCourt$Circuit"
def TX2 : u_T := fun k => match k with
  | 0 => ("GlitchCourt$Circuit", "kinds", "[I", true)
  | 1 => ("GlitchCourt$Circuit", "firstNets", "[I", true)
  | 2 => ("GlitchCourt$Circuit", "secondNets", "[I", true)
  | 3 => ("GlitchCourt$Circuit", "cones", "[I", true)
  | 4 => ("GlitchCourt$Circuit", "inputs", "I", false)
  | 5 => ("GlitchCourt$Circuit", "gates", "I", false)
  | 6 => ("GlitchCourt$Circuit", "horizon", "I", false)
  | 7 => ("GlitchCourt$Circuit", "rate", "I", false)
  | _ => ("GlitchCourt$Circuit", "fee", "I", false)
def tyX2 : Nat → FieldType := fun k => match k with
  | 0 => .array .int
  | 1 => .array .int
  | 2 => .array .int
  | 3 => .array .int
  | 4 => .int
  | 5 => .int
  | 6 => .int
  | 7 => .int
  | _ => .int
theorem nmX2 : ∀ a, a < 9 → ∀ b, b < 9 → a ≠ b → (TX2 a).2.1 ≠ (TX2 b).2.1 := by decide +kernel
theorem tyX2_ok : ∀ k, k < 9 → parseFieldDescriptor (TX2 k).2.2.1 = some (tyX2 k) := by decide +kernel
def RX3 : String := "GlitchCourt$Dispute"
def TX3 : u_T := fun k => match k with
  | 0 => ("GlitchCourt$Dispute", "net", "I", false)
  | 1 => ("GlitchCourt$Dispute", "first", "I", false)
  | 2 => ("GlitchCourt$Dispute", "last", "I", false)
  | 3 => ("GlitchCourt$Dispute", "level", "I", false)
  | 4 => ("GlitchCourt$Dispute", "party", "I", false)
  | 5 => ("GlitchCourt$Dispute", "claimsReal", "Z", false)
  | 6 => ("GlitchCourt$Dispute", "stage", "I", false)
  | _ => ("GlitchCourt$Dispute", "verdict", "I", false)
def tyX3 : Nat → FieldType := fun k => match k with
  | 0 => .int
  | 1 => .int
  | 2 => .int
  | 3 => .int
  | 4 => .int
  | 5 => .boolean
  | 6 => .int
  | _ => .int
theorem nmX3 : ∀ a, a < 8 → ∀ b, b < 8 → a ≠ b → (TX3 a).2.1 ≠ (TX3 b).2.1 := by decide +kernel
theorem tyX3_ok : ∀ k, k < 8 → parseFieldDescriptor (TX3 k).2.2.1 = some (tyX3 k) := by decide +kernel
def RX4 : String := "GlitchCourt$History"
def TX4 : u_T := fun k => match k with
  | 0 => ("GlitchCourt$History", "rows", "[LGlitchCourt$State;", true)
  | 1 => ("GlitchCourt$History", "snapshot", "LGlitchCourt$State;", true)
  | 2 => ("GlitchCourt$History", "kept", "Z", false)
  | 3 => ("GlitchCourt$History", "count", "I", false)
  | _ => ("GlitchCourt$History", "next", "I", false)
def tyX4 : Nat → FieldType := fun k => match k with
  | 0 => .array (.object "GlitchCourt$State")
  | 1 => .object "GlitchCourt$State"
  | 2 => .boolean
  | 3 => .int
  | _ => .int
theorem nmX4 : ∀ a, a < 5 → ∀ b, b < 5 → a ≠ b → (TX4 a).2.1 ≠ (TX4 b).2.1 := by decide +kernel
theorem tyX4_ok : ∀ k, k < 5 → parseFieldDescriptor (TX4 k).2.2.1 = some (tyX4 k) := by decide +kernel
def RX5 : String := "GlitchCourt$QueryText"
def TX5 : u_T := fun k => match k with
  | 0 => ("GlitchCourt$QueryText", "negates", "[Z", true)
  | 1 => ("GlitchCourt$QueryText", "keptEarlier", "[I", true)
  | 2 => ("GlitchCourt$QueryText", "keptFactors", "[I", true)
  | 3 => ("GlitchCourt$QueryText", "opened", "I", false)
  | 4 => ("GlitchCourt$QueryText", "everyNet", "I", false)
  | 5 => ("GlitchCourt$QueryText", "earlier", "I", false)
  | _ => ("GlitchCourt$QueryText", "factors", "I", false)
def tyX5 : Nat → FieldType := fun k => match k with
  | 0 => .array .boolean
  | 1 => .array .int
  | 2 => .array .int
  | 3 => .int
  | 4 => .int
  | 5 => .int
  | _ => .int
theorem nmX5 : ∀ a, a < 7 → ∀ b, b < 7 → a ≠ b → (TX5 a).2.1 ≠ (TX5 b).2.1 := by decide +kernel
theorem tyX5_ok : ∀ k, k < 7 → parseFieldDescriptor (TX5 k).2.2.1 = some (tyX5 k) := by decide +kernel
def RX6 : String := "GlitchCourt$State"
def TX6 : u_T := fun k => match k with
  | 0 => ("GlitchCourt$State", "delays", "[[I", true)
  | 1 => ("GlitchCourt$State", "inputWaves", "[J", true)
  | 2 => ("GlitchCourt$State", "settled", "[J", true)
  | 3 => ("GlitchCourt$State", "ruled", "[J", true)
  | 4 => ("GlitchCourt$State", "ruledHigh", "[J", true)
  | 5 => ("GlitchCourt$State", "purses", "[I", true)
  | 6 => ("GlitchCourt$State", "disputes", "[LGlitchCourt$Dispute;", true)
  | 7 => ("GlitchCourt$State", "disputeCount", "I", false)
  | _ => ("GlitchCourt$State", "limit", "I", false)
def tyX6 : Nat → FieldType := fun k => match k with
  | 0 => .array (.array .int)
  | 1 => .array .long
  | 2 => .array .long
  | 3 => .array .long
  | 4 => .array .long
  | 5 => .array .int
  | 6 => .array (.object "GlitchCourt$Dispute")
  | 7 => .int
  | _ => .int
theorem nmX6 : ∀ a, a < 9 → ∀ b, b < 9 → a ≠ b → (TX6 a).2.1 ≠ (TX6 b).2.1 := by decide +kernel
theorem tyX6_ok : ∀ k, k < 9 → parseFieldDescriptor (TX6 k).2.2.1 = some (tyX6 k) := by decide +kernel
def RX7 : String := "GlitchCourt$Tokens"
def TX7 : u_T := fun k => match k with
  | 0 => ("GlitchCourt$Tokens", "text", "[B", false)
  | 1 => ("GlitchCourt$Tokens", "length", "I", false)
  | 2 => ("GlitchCourt$Tokens", "start", "I", false)
  | 3 => ("GlitchCourt$Tokens", "end", "I", false)
  | 4 => ("GlitchCourt$Tokens", "type", "I", false)
  | 5 => ("GlitchCourt$Tokens", "number", "I", false)
  | 6 => ("GlitchCourt$Tokens", "errorCode", "I", false)
  | _ => ("GlitchCourt$Tokens", "errorAt", "I", false)
def tyX7 : Nat → FieldType := fun k => match k with
  | 0 => .array .byte
  | 1 => .int
  | 2 => .int
  | 3 => .int
  | 4 => .int
  | 5 => .int
  | 6 => .int
  | _ => .int
theorem nmX7 : ∀ a, a < 8 → ∀ b, b < 8 → a ≠ b → (TX7 a).2.1 ≠ (TX7 b).2.1 := by decide +kernel
theorem tyX7_ok : ∀ k, k < 8 → parseFieldDescriptor (TX7 k).2.2.1 = some (tyX7 k) := by decide +kernel
def RX8 : String := "GlitchCourt"
def TX8 : u_T := fun k => match k with
  | 0 => ("GlitchCourt", "history", "LGlitchCourt$History;", true)
  | 1 => ("GlitchCourt", "tokens", "LGlitchCourt$Tokens;", true)
  | 2 => ("GlitchCourt", "queryText", "LGlitchCourt$QueryText;", true)
  | 3 => ("GlitchCourt", "buffer", "[B", true)
  | 4 => ("GlitchCourt", "formatted", "[B", true)
  | 5 => ("GlitchCourt", "bench", "LGlitchCourt$Bench;", false)
  | 6 => ("GlitchCourt", "draft", "LGlitchCourt$Bench;", false)
  | 7 => ("GlitchCourt", "buffered", "I", false)
  | 8 => ("GlitchCourt", "formattedLength", "I", false)
  | _ => ("GlitchCourt", "errorAt", "I", false)
def tyX8 : Nat → FieldType := fun k => match k with
  | 0 => .object "GlitchCourt$History"
  | 1 => .object "GlitchCourt$Tokens"
  | 2 => .object "GlitchCourt$QueryText"
  | 3 => .array .byte
  | 4 => .array .byte
  | 5 => .object "GlitchCourt$Bench"
  | 6 => .object "GlitchCourt$Bench"
  | 7 => .int
  | 8 => .int
  | _ => .int
theorem nmX8 : ∀ a, a < 10 → ∀ b, b < 10 → a ≠ b → (TX8 a).2.1 ≠ (TX8 b).2.1 := by decide +kernel
theorem tyX8_ok : ∀ k, k < 10 → parseFieldDescriptor (TX8 k).2.2.1 = some (tyX8 k) := by decide +kernel
def RJ6 : String := "java/lang/Integer"
def RJ13 : String := "java/lang/Long"
def RJ9 : String := "java/lang/Math"
def RJ0 : String := "java/lang/String"
def RJ1 : String := "java/lang/StringLatin1"
def RJ7 : String := "java/util/Arrays"
def RJ3 : String := "jdk/internal/util/Preconditions"
def RXL : String := "GlitchCourtLaw"
def TXL : u_T := fun k => match k with
  | 0 => ("GlitchCourtLaw", "text", "[I", true)
  | 1 => ("GlitchCourtLaw", "size", "I", false)
  | 2 => ("GlitchCourtLaw", "horizon", "I", false)
  | 3 => ("GlitchCourtLaw", "inputs", "I", false)
  | 4 => ("GlitchCourtLaw", "gates", "I", false)
  | 5 => ("GlitchCourtLaw", "rate", "I", false)
  | _ => ("GlitchCourtLaw", "fee", "I", false)
def tyXL : Nat → FieldType := fun k => match k with
  | 0 => .array .int
  | 1 => .int
  | 2 => .int
  | 3 => .int
  | 4 => .int
  | 5 => .int
  | _ => .int
theorem nmXL : ∀ a, a < 7 → ∀ b, b < 7 → a ≠ b → (TXL a).2.1 ≠ (TXL b).2.1 := by decide +kernel
theorem tyXL_ok : ∀ k, k < 7 → parseFieldDescriptor (TXL k).2.2.1 = some (tyXL k) := by decide +kernel
def RL : String := "GlitchCourtLaw"
end
section
/-! THE REGION WORLD: ids 0 .. NC-1 are the cells that the law makes, in the order in which they are made; a world is what they hold -/
def NC : Nat := 457
def clz : List vw_C := [(RX0, TX0, 7), (RX2, TX2, 9), (RX3, TX3, 8), (RX4, TX4, 5), (RX5, TX5, 7), (RX6, TX6, 9), (RX7, TX7, 8), (RX8, TX8, 10), (RXL, TXL, 7)]
/-- the fields' kinds: 0 int, 1 long, 2 boolean, 3 a reference -/
def ftab : List (List Nat) := [[3, 3, 3, 3, 3, 3, 3], [3, 3, 3, 3, 0, 0, 0, 0, 0], [0, 0, 0, 0, 0, 2, 0, 0], [3, 3, 2, 0, 0], [3, 3, 3, 0, 0, 0, 0], [3, 3, 3, 3, 3, 3, 3, 0, 0], [3, 0, 0, 0, 0, 0, 0, 0], [3, 3, 3, 3, 3, 3, 3, 0, 0, 0], [3, 0, 0, 0, 0, 0, 0]]
def FTY (c j : Nat) : Nat := (ftab.getD c []).getD j 0
def NF (c : Nat) : Nat := (ftab.getD c []).length
/-- the cells' kinds: below 20 a class of clz; 20 int[], 21 long[], 22 byte[], 23 boolean[], 24 State[], 25 Dispute[], 26 int[][]; with the length -/
def stLay : List (Nat × Nat) := [(5, 9), (26, 3), (20, 16), (20, 16), (20, 16), (21, 4), (21, 16), (21, 16), (21, 16), (20, 3), (25, 20)] ++ List.replicate 20 (2, 8)
def bnLay : List (Nat × Nat) := [(0, 7), (1, 9), (20, 16), (20, 16), (20, 16), (20, 16)] ++ stLay ++ [(21, 16), (21, 16), (21, 16), (21, 16), (20, 16)]
def lay : List (Nat × Nat) := [(7, 10), (3, 5), (24, 10)] ++ stLay ++ (List.replicate 10 stLay).flatten ++ [(6, 8), (22, 0), (4, 7), (23, 6), (20, 6), (20, 6), (22, 600), (22, 61)] ++ bnLay ++ bnLay ++
  [(8, 7), (20, 600)] ++ List.replicate 19 (27, 5)
theorem lay_len : lay.length = 457 := by decide +kernel
def LAY (k : Nat) : Nat := (lay.getD k (99, 0)).1
def LEN (k : Nat) : Nat := (lay.getD k (99, 0)).2
/-- launch, class numbers, slots, array classes, first address, outer addresses, script: address, length, ints -/
abbrev GT : Type := Launch × (Nat → ClassId) × (Nat → Nat → Nat) × (Nat → ClassId) × Nat × (Nat → Nat) × Nat × Nat × (Nat → Int32)
def gl (G : GT) : Launch := G.1
def gC (G : GT) : Nat → ClassId := G.2.1
def gI (G : GT) : Nat → Nat → Nat := G.2.2.1
def gA (G : GT) : Nat → ClassId := G.2.2.2.1
def g0 (G : GT) : Nat := G.2.2.2.2.1
def gs (G : GT) : Nat → Nat := G.2.2.2.2.2.1
def gb (G : GT) : Nat := G.2.2.2.2.2.2.1
def gL (G : GT) : Nat := G.2.2.2.2.2.2.2.1
def gx (G : GT) : Nat → Int32 := G.2.2.2.2.2.2.2.2
/-- the law's two cells (436 itself, 437 its text) stand ahead of the class's 436; 438 .. 456 are the rows that it makes to feed them; place of an id, id of a place -/
def PO (k : Nat) : Nat := if k < 436 then k + 2 else if k < 438 then k - 436 else k
def ID (i : Nat) : Nat := if i < 2 then i + 436 else if i < 438 then i - 2 else i
theorem po_id (i : Nat) : PO (ID i) = i := by unfold PO ID; split <;> (try split) <;> (try split) <;> (try split) <;> omega
theorem id_po (k : Nat) : ID (PO k) = k := by unfold PO ID; split <;> (try split) <;> (try split) <;> (try split) <;> omega
/-- how many cells stand: nx + 2 as long as none is unknown; 457: the law's and the class's, and what else there may be isn't known -/
def sc (n : Nat) : Nat := if n < 457 then n + 2 else 438
def ST (k n : Nat) : Prop := PO k < sc n
def NK (n : Nat) : Prop := n ≤ 455 ∨ n = 457
theorem st_r {k n : Nat} (h : ST k n) (hn : NK n) : k < 457 := by
  unfold NK at hn
  unfold ST PO sc at h
  split at h <;> split at h <;> (try split at h) <;> omega
theorem st_c {k n : Nat} (h : k < n) (hn : n ≤ 436) : ST k n := by
  unfold ST PO sc
  rw [if_pos (by omega), if_pos (by omega)]
  omega
theorem st_a {k : Nat} (h : k < 438) : ST k 457 := by
  unfold ST PO sc
  split <;> (try split) <;> (try split) <;> omega
/-- the address of an id: of the region; 457 the script; 458 + i, 558 + i text i and its bytes -/
def AD (G : GT) (k : Nat) : Nat := if k < 457 then g0 G + PO k else if k = 457 then gb G else gs G (k - 458)
def cv (G : GT) : Value → Value
  | .ref k => .ref (AD G k)
  | v => v
def AA (G : GT) : Nat → Prop := fun q => g0 G ≤ q
/-- what the region holds: ints, longs, references; how many cells stand -/
abbrev MU : Type := (Nat → Nat → Int32) × (Nat → Nat → Int64) × (Nat → Nat → Option Nat) × Nat
def fvl (G : GT) (u : MU) (k j : Nat) (t : Nat) : Value := match t with
  | 0 => .int (u.1 k j)
  | 1 => .long (u.2.1 k j)
  | 2 => .int (u.1 k j)
  | _ => va_rf ((u.2.2.1 k j).map (AD G))
def dta (G : GT) (u : MU) (k : Nat) (t : Nat) : (Nat → Int32) ⊕ (Nat → Int64) ⊕ (Nat → UInt32) ⊕ (Nat → UInt64) ⊕ (Nat → Option Nat) := match t with
  | 0 => .inl (u.1 k)
  | 1 => .inr (.inl (u.2.1 k))
  | 2 => .inl (u.1 k)
  | 3 => .inl (u.1 k)
  | 7 => .inl (u.1 k)
  | _ => .inr (.inr (.inr (.inr (fun j => (u.2.2.1 k j).map (AD G)))))
def fsl (G : GT) (u : MU) (k c : Nat) : List Value := (List.range (NF c)).map (fun j => fvl G u k j (FTY c j))
def cel (G : GT) (u : MU) (k : Nat) : va_E := if LAY k < 20 then .inr (LAY k, fsl G u k (LAY k)) else .inl (gA G (LAY k - 20), LEN k, dta G u k (LAY k - 20))
def wl (G : GT) (u : MU) : va_W := (List.range (sc u.2.2.2)).map (fun i => (g0 G + i, cel G u (ID i)))
def aty : Nat → FieldType
  | 0 => .int
  | 1 => .long
  | 2 => .byte
  | 3 => .boolean
  | 4 => .object "GlitchCourt$State"
  | 5 => .object "GlitchCourt$Dispute"
  | 7 => .int
  | _ => .array .int
def tysG (G : GT) : List (ClassId × FieldType) := (List.range 8).map (fun t => (gA G t, aty t))
theorem AD_in (G : GT) {k : Nat} (h : k < 457) : AD G k = g0 G + PO k := by simp [AD, h]
theorem wl_len (G : GT) (u : MU) : (wl G u).length = sc u.2.2.2 := by simp [wl]
theorem wl_at (G : GT) (u : MU) {i : Nat} (h : i < sc u.2.2.2) : (wl G u)[i]? = some (g0 G + i, cel G u (ID i)) := by
  simp [wl, List.getElem?_map, List.getElem?_range h]
theorem wl_get (G : GT) (u : MU) {k : Nat} (h : ST k u.2.2.2) : (wl G u)[PO k]? = some (g0 G + PO k, cel G u k) := by
  rw [wl_at G u h, id_po]
theorem wl_getI {G : GT} {u : MU} {k : Nat} {q : Nat × va_E} (h : (wl G u)[k]? = some q) : k < sc u.2.2.2 ∧ q = (g0 G + k, cel G u (ID k)) := by
  have hk : k < (wl G u).length := (List.getElem?_eq_some_iff.mp h).1
  rw [wl_len] at hk
  rw [wl_at G u hk] at h
  exact ⟨hk, (Option.some.inj h).symm⟩
theorem wl_D (G : GT) (u : MU) : va_D (AA G) (wl G u) := by
  refine ⟨fun i j p q hi hj e => ?_, fun k q hk => ?_⟩
  · obtain ⟨-, rfl⟩ := wl_getI hi
    obtain ⟨-, rfl⟩ := wl_getI hj
    exact Nat.add_left_cancel e
  · obtain ⟨-, rfl⟩ := wl_getI hk
    exact Nat.le_add_right _ _
theorem wl_set (G : GT) {u u' : MU} {k : Nat} (hn : u'.2.2.2 = u.2.2.2) (ho : ∀ j, j ≠ k → cel G u' j = cel G u j) : (wl G u).set (PO k) (g0 G + PO k, cel G u' k) = wl G u' := by
  apply List.ext_getElem?
  intro i
  by_cases hi : i < sc u.2.2.2
  · rw [wl_at G u' (by rw [hn]; exact hi)]
    by_cases e : i = PO k
    · subst e
      rw [List.getElem?_set_self (by rw [wl_len]; exact hi), id_po]
    · rw [List.getElem?_set_ne (fun h => e h.symm), wl_at G u hi, ho (ID i) (fun z => e (by rw [← z, po_id]))]
  · rw [List.getElem?_eq_none (by rw [List.length_set, wl_len]; omega), List.getElem?_eq_none (by rw [wl_len, hn]; omega)]
theorem cel_obj {G : GT} {u : MU} {k c : Nat} (h : LAY k = c) (hc : c < 20) : cel G u k = .inr (c, fsl G u k c) := by
  subst h; simp [cel, hc]
theorem cel_arr {G : GT} {u : MU} {k t : Nat} (h : LAY k = 20 + t) : cel G u k = .inl (gA G t, LEN k, dta G u k t) := by
  have h1 : ¬ LAY k < 20 := by omega
  simp [cel, h1, h]
theorem fsl_get {G : GT} {u : MU} {k c j : Nat} (hj : j < NF c) : (fsl G u k c)[j]? = some (fvl G u k j (FTY c j)) := by
  simp [fsl, List.getElem?_map, List.getElem?_range hj]
theorem fsl_len {G : GT} {u : MU} {k c : Nat} : (fsl G u k c).length = NF c := by simp [fsl]
/-- one place changed -/
def up2 {α : Type} (f : Nat → Nat → α) (k j : Nat) (x : α) : Nat → Nat → α := fun a i => if a = k ∧ i = j then x else f a i
theorem up2_s {α : Type} {f : Nat → Nat → α} {k j : Nat} {x : α} : up2 f k j x k j = x := by simp [up2]
theorem up2_n {α : Type} {f : Nat → Nat → α} {k j a i : Nat} {x : α} (h : a ≠ k ∨ i ≠ j) : up2 f k j x a i = f a i := by
  unfold up2
  rw [if_neg]
  rintro ⟨h1, h2⟩
  rcases h with h | h
  · exact h h1
  · exact h h2
theorem fsl_set {G : GT} {u u' : MU} {k c j : Nat} {v : Value} (hv : fvl G u' k j (FTY c j) = v) (ho : ∀ i, i ≠ j → fvl G u' k i (FTY c i) = fvl G u k i (FTY c i)) : (fsl G u k c).set j v = fsl G u' k c := by
  apply List.ext_getElem?
  intro i
  by_cases hi : i < NF c
  · rw [fsl_get hi]
    by_cases e : i = j
    · subst e
      rw [List.getElem?_set_self (by rw [fsl_len]; exact hi), hv]
    · rw [List.getElem?_set_ne (fun h => e h.symm), fsl_get hi, ho i e]
  · rw [List.getElem?_eq_none (by rw [List.length_set, fsl_len]; omega), List.getElem?_eq_none (by rw [fsl_len]; omega)]
theorem cel_same {G : GT} {u u' : MU} {k : Nat} (h1 : u'.1 k = u.1 k) (h2 : u'.2.1 k = u.2.1 k) (h3 : u'.2.2.1 k = u.2.2.1 k) : cel G u' k = cel G u k := by
  have e : ∀ j t, fvl G u' k j t = fvl G u k j t := by
    intro j t
    unfold fvl
    rw [h1, h2, h3]
  have e2 : ∀ t, dta G u' k t = dta G u k t := by
    intro t
    unfold dta
    rw [h1, h2, h3]
  unfold cel fsl
  simp only [e, e2]
/-! words -/
def GW : List Cond := lw_tbl.filter goodWord
theorem gw_in {w : Cond} (k : Nat) (h : lw_tbl[k]? = some w) (hg : goodWord w = true) : w ∈ GW := List.mem_filter.mpr ⟨List.mem_of_getElem? h, hg⟩
theorem gw_good {w : Cond} (h : w ∈ GW) : goodWord w = true := (List.mem_filter.mp h).2
theorem gw_goodIn {ws : List Cond} (h : ∀ w ∈ ws, w ∈ GW) : GoodIn GW ws := fun w hw => ⟨h w hw, good_of_word (gw_good (h w hw))⟩
end
section
def okty (t : Nat) (ty : FieldType) : Bool := match t with
  | 0 => decide (ty = .int)
  | 1 => decide (ty = .long)
  | 2 => decide (ty = .boolean)
  | _ => match ty with
    | .object _ => true
    | .array _ => true
    | _ => false
theorem okty0 {ty : FieldType} (h : okty 0 ty = true) : ty = .int := of_decide_eq_true h
theorem okty1 {ty : FieldType} (h : okty 1 ty = true) : ty = .long := of_decide_eq_true h
theorem okty2 {ty : FieldType} (h : okty 2 ty = true) : ty = .boolean := of_decide_eq_true h
theorem okty3 {ty : FieldType} (h : okty 3 ty = true) : defaultValue ty = .null ∧ ∀ v : Option Nat, narrow ty (va_rf v) = va_rf v ∧ fits ty (va_rf v) = true := by
  cases ty with
  | object C => exact ⟨rfl, fun v => by cases v <;> exact ⟨rfl, rfl⟩⟩
  | array C => exact ⟨rfl, fun v => by cases v <;> exact ⟨rfl, rfl⟩⟩
  | _ => cases h
/-- what the tables say of a class of clz -/
def clOK (ci : Nat) (C : String) (T : u_T) (N : Nat) (ty0 : Nat → FieldType) : Prop := (∀ w ∈ u_ws C T N, w ∈ lw_tbl ∧ goodWord w = true) ∧ NF ci = N ∧ (∀ k, k < N → parseFieldDescriptor (T k).2.2.1 = some (ty0 k)) ∧ (∀ a, a < N → ∀ b, b < N → a ≠ b → (T a).2.1 ≠ (T b).2.1) ∧ (∀ k, k < N → okty (FTY ci k) (ty0 k) = true) ∧ ci < 20
theorem cl_ok0 : clOK 0 RX0 TX0 7 tyX0 := ⟨by decide +kernel, by decide +kernel, tyX0_ok, nmX0, by decide +kernel, by decide +kernel⟩
theorem cl_ok1 : clOK 1 RX2 TX2 9 tyX2 := ⟨by decide +kernel, by decide +kernel, tyX2_ok, nmX2, by decide +kernel, by decide +kernel⟩
theorem cl_ok2 : clOK 2 RX3 TX3 8 tyX3 := ⟨by decide +kernel, by decide +kernel, tyX3_ok, nmX3, by decide +kernel, by decide +kernel⟩
theorem cl_ok3 : clOK 3 RX4 TX4 5 tyX4 := ⟨by decide +kernel, by decide +kernel, tyX4_ok, nmX4, by decide +kernel, by decide +kernel⟩
theorem cl_ok4 : clOK 4 RX5 TX5 7 tyX5 := ⟨by decide +kernel, by decide +kernel, tyX5_ok, nmX5, by decide +kernel, by decide +kernel⟩
theorem cl_ok5 : clOK 5 RX6 TX6 9 tyX6 := ⟨by decide +kernel, by decide +kernel, tyX6_ok, nmX6, by decide +kernel, by decide +kernel⟩
theorem cl_ok6 : clOK 6 RX7 TX7 8 tyX7 := ⟨by decide +kernel, by decide +kernel, tyX7_ok, nmX7, by decide +kernel, by decide +kernel⟩
theorem cl_ok7 : clOK 7 RX8 TX8 10 tyX8 := ⟨by decide +kernel, by decide +kernel, tyX8_ok, nmX8, by decide +kernel, by decide +kernel⟩
theorem cl_ok8 : clOK 8 RXL TXL 7 tyXL := ⟨by decide +kernel, by decide +kernel, tyXL_ok, nmXL, by decide +kernel, by decide +kernel⟩
theorem cl_ok : ∀ ci C T N, clz[ci]? = some (C, T, N) → ∃ ty0, clOK ci C T N ty0 := by
  intro ci C T N h
  match ci, h with
  | 0, h => cases h; exact ⟨_, cl_ok0⟩
  | 1, h => cases h; exact ⟨_, cl_ok1⟩
  | 2, h => cases h; exact ⟨_, cl_ok2⟩
  | 3, h => cases h; exact ⟨_, cl_ok3⟩
  | 4, h => cases h; exact ⟨_, cl_ok4⟩
  | 5, h => cases h; exact ⟨_, cl_ok5⟩
  | 6, h => cases h; exact ⟨_, cl_ok6⟩
  | 7, h => cases h; exact ⟨_, cl_ok7⟩
  | 8, h => cases h; exact ⟨_, cl_ok8⟩
  | n + 9, h => simp [clz] at h
theorem cl_in {ci : Nat} {C : String} {T : u_T} {N : Nat} (h : clz[ci]? = some (C, T, N)) : ∀ w ∈ u_ws C T N, w ∈ GW := fun w hw => List.mem_filter.mpr ((cl_ok ci C T N h).choose_spec.1 w hw)
end
section
def nsts : List (String × Nat × MethodName × String) := [("GlitchCourt$State", 46, ⟨"GlitchCourt$Dispute", "<init>", "()V"⟩, "GlitchCourt"), ("GlitchCourt", 18, ⟨"GlitchCourt$Tokens", "<init>", "()V"⟩, "GlitchCourt"), ("GlitchCourt", 25, ⟨"GlitchCourt$QueryText", "<init>", "()V"⟩, "GlitchCourt"), ("GlitchCourt", 39, ⟨"GlitchCourt$Bench", "<init>", "()V"⟩, "GlitchCourt"), ("GlitchCourt$Bench", 11, ⟨"GlitchCourt$Circuit", "<init>", "()V"⟩, "GlitchCourt"), ("GlitchCourt$BenchText", 95, ⟨"GlitchCourt", "window", "(II)J"⟩, "GlitchCourt"), ("GlitchCourt$BenchText", 129, ⟨"GlitchCourt", "kindWord", "(I)Ljava/lang/String;"⟩, "GlitchCourt"), ("GlitchCourt$Circuit", 63, ⟨"GlitchCourt", "window", "(II)J"⟩, "GlitchCourt"), ("GlitchCourt$Bench", 80, ⟨"GlitchCourt", "bitOf", "(JI)I"⟩, "GlitchCourt"), ("GlitchCourt$Bench", 84, ⟨"GlitchCourt", "window", "(II)J"⟩, "GlitchCourt"), ("GlitchCourt$State", 75, ⟨"GlitchCourt", "bitOf", "(JI)I"⟩, "GlitchCourt")]
def csts : List (String × String) := [("java/lang/IllegalArgumentException", "java/lang/IllegalArgumentException"), ("java/util/NoSuchElementException", "java/util/NoSuchElementException"), ("GlitchCourtLaw", "java/lang/Object"), ("GlitchCourt", "java/lang/Object"), ("GlitchCourt$History", "java/lang/Object"), ("GlitchCourt$State", "java/lang/Object"), ("GlitchCourt$Dispute", "java/lang/Object"), ("GlitchCourt$Tokens", "java/lang/Object"), ("GlitchCourt$QueryText", "java/lang/Object"), ("GlitchCourt$Bench", "java/lang/Object"), ("GlitchCourt$Circuit", "java/lang/Object"), ("java/lang/IllegalArgumentException", "java/lang/Object"), ("java/util/NoSuchElementException", "java/lang/Object"), ("java/lang/Throwable", "java/lang/Object"), ("java/lang/String", "java/lang/Object")]
def dcls : List MethodName := [⟨"java/lang/RuntimeException", "<init>", "()V"⟩, ⟨"java/lang/RuntimeException", "<init>", "(Ljava/lang/String;)V"⟩, ⟨"java/lang/Exception", "<init>", "()V"⟩, ⟨"java/lang/Exception", "<init>", "(Ljava/lang/String;)V"⟩, ⟨"java/lang/Throwable", "<init>", "()V"⟩, ⟨"java/lang/Throwable", "<init>", "(Ljava/lang/String;)V"⟩]
def strs : List (String × Nat × String × Nat) := [("GlitchCourtLaw", 83, "bench", 1), ("GlitchCourtLaw", 27, " ", 12), ("GlitchCourtLaw", 68, ";", 13), ("GlitchCourtLaw", 85, "input", 2), ("GlitchCourtLaw", 46, "gate and", 14), ("GlitchCourtLaw", 48, "gate or", 15), ("GlitchCourtLaw", 50, "gate xor", 16), ("GlitchCourtLaw", 52, "gate nand", 17), ("GlitchCourtLaw", 54, "gate nor", 18), ("GlitchCourtLaw", 56, "gate not", 19), ("GlitchCourtLaw", 58, "gate same", 20), ("GlitchCourtLaw", 91, "purses", 11), ("GlitchCourt", 63, "length", 0), ("GlitchCourt$BenchText", 34, "bench", 1), ("GlitchCourt$BenchText", 75, "input", 2), ("GlitchCourt$BenchText", 105, "gate", 3), ("GlitchCourt", 408, "and", 4), ("GlitchCourt", 410, "or", 5), ("GlitchCourt", 412, "xor", 6), ("GlitchCourt", 414, "nand", 7), ("GlitchCourt", 416, "nor", 8), ("GlitchCourt", 418, "not", 9), ("GlitchCourt", 420, "same", 10), ("GlitchCourt$BenchText", 133, "purses", 11), ("GlitchCourt", 138, "what", 21), ("GlitchCourt", 174, "gate", 3), ("GlitchCourt", 184, "times", 22), ("GlitchCourt", 359, "deposit", 23), ("GlitchCourt", 345, "delay", 24), ("GlitchCourt", 350, "input", 2), ("GlitchCourt", 205, "time", 25), ("GlitchCourt", 247, "pulse", 26), ("GlitchCourt", 316, "party", 27), ("GlitchCourt", 249, "dispute", 28), ("GlitchCourt", 179, "net", 29), ("GlitchCourt", 199, "kind", 30)]
def nJS : Nat := 31
def lenJS : List Nat := [6, 5, 5, 4, 3, 2, 3, 4, 3, 3, 4, 6, 1, 1, 8, 7, 8, 9, 8, 8, 9, 4, 5, 7, 5, 4, 5, 5, 7, 3, 4]
def bytJS : List (List Int32) := [[108, 101, 110, 103, 116, 104], [98, 101, 110, 99, 104], [105, 110, 112, 117, 116], [103, 97, 116, 101], [97, 110, 100], [111, 114], [120, 111, 114], [110, 97, 110, 100], [110, 111, 114], [110, 111, 116], [115, 97, 109, 101], [112, 117, 114, 115, 101, 115], [32], [59], [103, 97, 116, 101, 32, 97, 110, 100], [103, 97, 116, 101, 32, 111, 114], [103, 97, 116, 101, 32, 120, 111, 114], [103, 97, 116, 101, 32, 110, 97, 110, 100], [103, 97, 116, 101, 32, 110, 111, 114], [103, 97, 116, 101, 32, 110, 111, 116], [103, 97, 116, 101, 32, 115, 97, 109, 101], [119, 104, 97, 116], [116, 105, 109, 101, 115], [100, 101, 112, 111, 115, 105, 116], [100, 101, 108, 97, 121], [116, 105, 109, 101], [112, 117, 108, 115, 101], [112, 97, 114, 116, 121], [100, 105, 115, 112, 117, 116, 101], [110, 101, 116], [107, 105, 110, 100]]
def KS (G : GT) (s : State) : Prop := va_K (gC G, gI G) clz (tysG G) s ∧ (∀ q ∈ nsts, va_Nw (.methodLinkNest q.1 q.2.1 q.2.2.1 q.2.2.2) s) ∧ (∀ q ∈ csts, va_Nw (.castable q.1 q.2) s) ∧ (∀ q ∈ dcls, va_Nw (.declares q) s) ∧ va_AO "GlitchCourt$State" s ∧ va_AO "GlitchCourt$Dispute" s ∧ va_AOA .int s ∧ (∀ q ∈ strs, vk_R q.1 q.2.1 q.2.2.1 (gs G q.2.2.2) s) ∧ va_Nc "java/lang/IllegalArgumentException" "java/util/NoSuchElementException" s ∧ (gl G).stackTraces = false
theorem va_AOA.moved {ty : FieldType} {u U : State} (hvm : u.vm.Alike U.vm) (h : va_AOA ty u) : va_AOA ty U := by
  have h1 : (Cond.arrayOver (.array ty)).before #[] (u.setVm U.vm) = true := by rw [Cond.arrayOver_setVmC hvm]; exact h
  exact h1
theorem KS.warm {G : GT} {s U : State} (hW : s.WarmedH U.vm) (h : KS G s) : KS G U := by
  obtain ⟨h1, h2, h3, h4, h5, h6, h7, h8, h9, h10⟩ := h
  exact ⟨va_K.moved hW.alike h1, fun q hq => va_Nw.warmM hW (h2 q hq), fun q hq => va_Nw.warmC hW (h3 q hq), fun q hq => va_Nw.warmD hW (h4 q hq), h5.moved hW.alike, h6.moved hW.alike, h7.moved hW.alike, fun q hq => vk_R.warm hW (h8 q hq), h9.moved hW.alike, h10⟩
def SX (G : GT) (s : State) (H : Heap) : Prop := va_X (gb G) (gL G) (gx G) s H ∧ gb G < g0 G ∧ vx_Zq Bundle.tN "UNASSIGNED_STACK" Bundle.steD (AA G) s H ∧ vx_Zq Bundle.tN "SUPPRESSED_SENTINEL" Bundle.listD (AA G) s H ∧ vk_S nJS lenJS bytJS (gs G) (fun i => gs G (100 + i)) (AA G) s H ∧ va_Z "java/lang/String" "COMPACT_STRINGS" "Z" (.int 1) (AA G) s H ∧ (va_Z "jdk/internal/util/Preconditions" "SIOOBE_FORMATTER" "Ljava/util/function/BiFunction;" .null (AA G) s H ∨ va_Z "jdk/internal/util/Preconditions" "SIOOBE_FORMATTER" "Ljava/util/function/BiFunction;" (.ref (gs G 200)) (AA G) s H)
theorem SX.moved {G : GT} {u U : State} {H : Heap} (hvm : u.vm.Alike U.vm) (h : SX G u H) : SX G U H := by
  obtain ⟨h1, h2, h3, h4, h5, h6, h7⟩ := h
  exact ⟨h1.moved hvm, h2, h3.moved hvm, h4.moved hvm, h5.moved hvm, h6.moved hvm, h7.imp (fun q => va_Z.moved hvm q) (fun q => va_Z.moved hvm q)⟩
theorem SX.kept {G : GT} {U : State} {H H1 : Heap} (h : SX G U H) (hn : g0 G ≤ H.size) (hq : ∀ a : Nat, a < H.size → ¬ AA G a → H1[a]? = H[a]?) : SX G U H1 := by
  obtain ⟨h1, h2, h3, h4, h5, h6, h7⟩ := h
  exact ⟨h1.kept (hq _ (Nat.lt_of_lt_of_le h2 hn) (Nat.not_le.mpr h2)), h2, h3.kept hq, h4.kept hq, h5.kept hq, h6.kept hq, h7.imp (fun q => va_Z.kept q hq) (fun q => va_Z.kept q hq)⟩
def HS (G : GT) (u : MU) (H : Heap) : Prop := va_P (gC G, gI G) clz (wl G u) H ∧ NK u.2.2.2
/-- a method: its name, bytes, locals, answer, room, instructions, table -/
abbrev MT : Type := MethodName × ByteArray × Nat × Option FieldType × Room × List (Nat × Instr × Nat) × List (Nat × Nat × Nat × Nat)
def yN (Y : MT) : MethodName := Y.1
def yB (Y : MT) : ByteArray := Y.2.1
def yM (Y : MT) : Nat := Y.2.2.1
def yT (Y : MT) : Option FieldType := Y.2.2.2.1
def yR (Y : MT) : Room := Y.2.2.2.2.1
def yP (Y : MT) : List (Nat × Instr × Nat) := Y.2.2.2.2.2.1
def yH (Y : MT) : List (Nat × Nat × Nat × Nat) := Y.2.2.2.2.2.2
def yC (Y : MT) : Cond := match yH Y with
  | [] => .code (yN Y) (yB Y) (yM Y) (yT Y)
  | q :: r => .codeWith (yN Y) (yB Y) (yM Y) (yT Y) (q :: r)
def yW (Y : MT) : List Cond := yC Y :: GW
def okI (b : ByteArray) (q : Nat × Instr × Nat) : Bool := match decode b q.1 with
  | .ok (i, n) => decide (i = q.2.1 ∧ n = q.2.2)
  | _ => false
theorem okI_s {b : ByteArray} {q : Nat × Instr × Nat} (h : okI b q = true) : decode b q.1 = .ok q.2 := by
  unfold okI at h
  split at h
  · rename_i i n e
    obtain ⟨h1, h2⟩ := of_decide_eq_true h
    rw [e, h1, h2]
  · cases h
def CX (G : GT) (Y : MT) (p : Program) (s : State) (m : MethodId) (args : Array Value) (meth : Method) (c : Code) : Prop :=
  p.tables.exec = Jvm.exec ∧ c.code = yB Y ∧ c.maxLocals = yM Y ∧ s.vm.findClass (yN Y).cls = some m.cls ∧ (∀ w ∈ GW, w.before args s = true) ∧ meth.locks = false ∧ meth.sig.returnType = yT Y ∧ (∀ q ∈ yP Y, okI (yB Y) q = true) ∧ KS G s ∧ SX G s s.heap ∧ g0 G ≤ s.heap.size ∧ meth.name = (yN Y).name ∧ c.exceptionTable.toList = tableOf (yH Y)
def QC (G : GT) (Q : Option Value → MU → Prop) : Array Value → State → Outcome → State → Prop := fun _ st o t => (∃ v u, o = .returned (v.map (cv G)) ∧ Q v u ∧ HS G u t.heap) ∧ va_F (AA G) st t
def XC (G : GT) (QX : String → MU → Prop) : String → State → State → Prop := fun E st t => ∃ u, QX E u ∧ HS G u t.heap ∧ va_F (AA G) st t
def lcv (G : GT) (ls : List (Nat × Value)) : List (Nat × Value) := ls.map (fun q => (q.1, cv G q.2))
/-- from here the method comes to its end, with Q of its answer, or throws, with QX -/
def V (G : GT) (Y : MT) (pc : Nat) (ls : List (Nat × Value)) (st : List Value) (u : MU) (c0 s0 : Nat) (Q : Option Value → MU → Prop) (QX : String → MU → Prop) : Prop :=
  ∀ (p : Program) (e : Env) (s : State) (m : MethodId) (args : Array Value) (below : List Frame) (meth : Method) (c : Code), CX G Y p s m args meth c → ∀ (H : Heap) (locs : List Loc) (arr : Array Slot), HS G u H → va_S (AA G) s.heap H locs → lv_has arr (yM Y) (lcv G ls) → (u.2.2.2 < 457 → s.heap.size + c0 = g0 G + (u.2.2.2 + 2)) →
    W p (gl G) e (yR Y) s m args below meth c H locs c0 s0 (vx_MQ below (QC G Q) (XC G QX) args s (yR Y).cells (yR Y).slots (AA G)) (F0 m pc arr (st.map (cv G)))
def PC (G : GT) (args : List Value) (u : MU) : Array Value → State → Prop := va_Pc (args.map (cv G)) (fun U => HS G u U.heap ∧ KS G U ∧ SX G U U.heap ∧ g0 G ≤ U.heap.size ∧ (u.2.2.2 < 457 → U.heap.size = g0 G + (u.2.2.2 + 2)))
/-- the method, called with these values in this world: Q of its answer, QX of what it throws -/
def MW (G : GT) (Y : MT) (args : List Value) (u : MU) (Q : Option Value → MU → Prop) (QX : String → MU → Prop) : Prop :=
  vx_Met (gl G) (yN Y) (yW Y) (yR Y) (PC G args u) (QC G Q) (XC G QX) (yR Y).cells (yR Y).slots (AA G)
theorem cv_cat (G : GT) (v : Value) : (cv G v).category = v.category := by cases v <;> rfl
theorem lcv_args (G : GT) : ∀ (vs : List Value) (i : Nat), lv_args i (vs.map (cv G)) = lcv G (lv_args i vs)
  | [], i => rfl
  | v :: vs, i => by
    show (i, cv G v) :: lv_args (if (cv G v).category = 2 then i + 2 else i + 1) (vs.map (cv G)) = (i, cv G v) :: lcv G (lv_args (if v.category = 2 then i + 2 else i + 1) vs)
    rw [cv_cat, lcv_args G vs]
theorem lsl_cv (G : GT) : ∀ (vs : List Value), (lg_sl (vs.map (cv G))).length = (lg_sl vs).length
  | [] => rfl
  | v :: vs => by
    have ih := lsl_cv G vs
    have key : ∀ w : Value, (if (cv G w).category = 2 then [Slot.val (cv G w), Slot.second] else [Slot.val (cv G w)]).length = (if w.category = 2 then [Slot.val w, Slot.second] else [Slot.val w]).length := by
      intro w
      rw [cv_cat]
      split <;> rfl
    simp only [lg_sl, List.map_cons, List.flatMap_cons, List.length_append, key] at ih ⊢
    rw [ih]
theorem PC_blind (G : GT) (args : List Value) (u : MU) : FrameBlind (PC G args u) := by
  intro a U g mk h
  obtain ⟨h1, h2, h3, h4, h5⟩ := h
  refine ⟨h1, h2, ?_, ?_, h5⟩
  · exact KS.warm (s := U) (State.WarmedH.refl U) h3
  · exact SX.moved (u := U) (Vm.Alike.refl U.vm) h4
theorem MW.intro {G : GT} {Y : MT} {args : List Value} {u : MU} {Q : Option Value → MU → Prop} {QX : String → MU → Prop} (hY : yH Y = []) (hy : plainName (yN Y).cls = true) (hP : (yP Y).all (okI (yB Y)) = true) (hl : (lg_sl args).length ≤ yM Y) (k : V G Y 0 (lv_args 0 args) [] u 0 0 Q QX) : MW G Y args u Q QX := by
  have hw : yW Y = Cond.code (yN Y) (yB Y) (yM Y) (yT Y) :: GW := by simp [yW, yC, hY]
  refine vx_ofW (cc := yB Y) (maxL := yM Y) (ret := yT Y) hy hw ?_
  intro p e s m args' below meth c s₁ B hml htab hv
  obtain ⟨rfl, hH, hK, hX, hn, hz⟩ := hv
  have hts := atoms_spec (ws := yW Y) B.pre
  have htb : c.exceptionTable.toList = tableOf (yH Y) := by
    rw [hY]
    cases hc : c.exceptionTable.toList with
    | nil => rfl
    | cons x r => exact absurd (htab x (by rw [hc]; exact List.mem_cons_self)) id
  have C : CX G Y p s m (args.map (cv G)).toArray meth c := ⟨B.exec, B.bytes, hml, findClass_of_methodNamed B.named, fun w h => hts w (List.mem_cons_of_mem _ h), B.notSynchronized, B.returns, List.all_eq_true.mp hP, hK, hX, hn, (name_of_methodNamed B.named B.method).1, htb⟩
  rw [lg_entry_eq]
  have hlen : (lg_sl (args.map (cv G))).length ≤ yM Y := by rw [lsl_cv]; exact hl
  have hl9 := lv_entry (args.map (cv G)) hlen
  rw [lcv_args] at hl9
  exact k p e s m _ below meth c C s.heap [] _ hH va_S.rf hl9 hz
end
section
section CXA
variable {G : GT} {Y : MT} {p : Program} {s : State} {m : MethodId} {args : Array Value} {meth : Method} {c : Code}
theorem cxx (C : CX G Y p s m args meth c) : p.tables.exec = Jvm.exec := C.1
theorem cxb (C : CX G Y p s m args meth c) : c.code = yB Y := C.2.1
theorem cxm (C : CX G Y p s m args meth c) : c.maxLocals = yM Y := C.2.2.1
theorem cxo (C : CX G Y p s m args meth c) : s.vm.findClass (yN Y).cls = some m.cls := C.2.2.2.1
theorem cxw (C : CX G Y p s m args meth c) : ∀ w ∈ GW, w.before args s = true := C.2.2.2.2.1
theorem cxl (C : CX G Y p s m args meth c) : meth.locks = false := C.2.2.2.2.2.1
theorem cxr (C : CX G Y p s m args meth c) : meth.sig.returnType = yT Y := C.2.2.2.2.2.2.1
theorem cxp (C : CX G Y p s m args meth c) : ∀ q ∈ yP Y, okI (yB Y) q = true := C.2.2.2.2.2.2.2.1
theorem cxk (C : CX G Y p s m args meth c) : KS G s := C.2.2.2.2.2.2.2.2.1
theorem cxs (C : CX G Y p s m args meth c) : SX G s s.heap := C.2.2.2.2.2.2.2.2.2.1
theorem cxn (C : CX G Y p s m args meth c) : g0 G ≤ s.heap.size := C.2.2.2.2.2.2.2.2.2.2.1
theorem cxi (C : CX G Y p s m args meth c) : meth.name = (yN Y).name := C.2.2.2.2.2.2.2.2.2.2.2.1
theorem cxt (C : CX G Y p s m args meth c) : c.exceptionTable.toList = tableOf (yH Y) := C.2.2.2.2.2.2.2.2.2.2.2.2
theorem cxd (C : CX G Y p s m args meth c) {k pc n : Nat} {i : Instr} (h : (yP Y)[k]? = some (pc, i, n)) : decode (yB Y) pc = .ok (i, n) :=
  okI_s (q := (pc, i, n)) (cxp C (pc, i, n) (List.mem_of_getElem? h))
end CXA
theorem lcv_get {G : GT} {ls : List (Nat × Value)} {j i : Nat} {v : Value} (h : ls[j]? = some (i, v)) : (lcv G ls)[j]? = some (i, cv G v) := by simp [lcv, List.getElem?_map, h]
theorem lcv_f1 {G : GT} {ls ls' : List (Nat × Value)} {i : Nat} {v : Value} (h : (i, v) :: ls.filter (fun q => !(q.1 == i) && !(q.1 + 1 == i && q.2.category == 2)) = ls') : (i, cv G v) :: (lcv G ls).filter (fun q => !(q.1 == i) && !(q.1 + 1 == i && q.2.category == 2)) = lcv G ls' := by
  subst h
  simp only [lcv, List.map_cons, List.filter_map]
  congr 2
  apply List.filter_congr
  intro q _
  simp [cv_cat]
theorem lcv_f2 {G : GT} {ls ls' : List (Nat × Value)} {i : Nat} {v : Value} (h : (i, v) :: ls.filter (fun q => !(q.1 == i) && (!(q.1 == i + 1) && !(q.1 + 1 == i && q.2.category == 2))) = ls') : (i, cv G v) :: (lcv G ls).filter (fun q => !(q.1 == i) && (!(q.1 == i + 1) && !(q.1 + 1 == i && q.2.category == 2))) = lcv G ls' := by
  subst h
  simp only [lcv, List.map_cons, List.filter_map]
  congr 2
  apply List.filter_congr
  intro q _
  simp [cv_cat]
/-- fewer locals known -/
theorem V.sub {G : GT} {Y : MT} {pc : Nat} {ls ls' : List (Nat × Value)} {st : List Value} {u : MU} {c0 s0 : Nat} {Q : Option Value → MU → Prop} {QX : String → MU → Prop} (ks : List Nat) (h : lv_pick ls ks = ls') (kk : V G Y pc ls' st u c0 s0 Q QX) : V G Y pc ls st u c0 s0 Q QX :=
  fun p e s m args below meth c C H locs arr hH hS hl hz => kk p e s m args below meth c C H locs arr hH hS (lv_sub hl ks (by
    subst h
    simp only [lv_pick, lcv, List.getElem?_map, List.map_filterMap])) hz
theorem V.widen {G : GT} {Y : MT} {pc : Nat} {ls : List (Nat × Value)} {st : List Value} {u : MU} {c0 s0 c1 s1 : Nat} {Q : Option Value → MU → Prop} {QX : String → MU → Prop} (h1 : c0 ≤ c1) (h2 : s0 ≤ s1) (hc : u.2.2.2 < 457 → c0 = c1) (kk : V G Y pc ls st u c1 s1 Q QX) : V G Y pc ls st u c0 s0 Q QX :=
  fun p e s m args below meth c C H locs arr hH hS hl hz => W.widen h1 h2 (kk p e s m args below meth c C H locs arr hH hS hl (fun q => by rw [← hc q]; exact hz q))
section VR
variable {G : GT} {Y : MT} {pc pc' : Nat} {ls ls' : List (Nat × Value)} {st : List Value} {u : MU} {c0 s0 : Nat} {Q : Option Value → MU → Prop} {QX : String → MU → Prop}
theorem v_iconst (k : Nat) {n : Int} {v : Int32} (hd : (yP Y)[k]? = some (pc, .iconst n, 1)) (hp : pc + 1 = pc') (hv : Int32.ofInt n = v) (kk : V G Y pc' ls (.int v :: st) u c0 s0 Q QX) : V G Y pc ls st u c0 s0 Q QX := by
  subst hp
  exact fun p e s m args below meth c C H locs arr hH hS hl hz => lv_iconst (cxx C) (cxb C) (cxd C hd) hv (kk p e s m args below meth c C H locs arr hH hS hl hz)
theorem v_bipush (k : Nat) {n : Int} {v : Int32} (hd : (yP Y)[k]? = some (pc, .bipush n, 2)) (hp : pc + 2 = pc') (hv : (Int8.ofInt n).toInt32 = v) (kk : V G Y pc' ls (.int v :: st) u c0 s0 Q QX) : V G Y pc ls st u c0 s0 Q QX := by
  subst hp
  exact fun p e s m args below meth c C H locs arr hH hS hl hz => lv_bipush (cxx C) (cxb C) (cxd C hd) hv (kk p e s m args below meth c C H locs arr hH hS hl hz)
theorem v_sipush (k : Nat) {n : Int} {v : Int32} (hd : (yP Y)[k]? = some (pc, .sipush n, 3)) (hp : pc + 3 = pc') (hv : (Int16.ofInt n).toInt32 = v) (kk : V G Y pc' ls (.int v :: st) u c0 s0 Q QX) : V G Y pc ls st u c0 s0 Q QX := by
  subst hp
  exact fun p e s m args below meth c C H locs arr hH hS hl hz => lv_sipush (cxx C) (cxb C) (cxd C hd) hv (kk p e s m args below meth c C H locs arr hH hS hl hz)
theorem v_lconst (k : Nat) {n : Fin 2} {v : Int64} (hd : (yP Y)[k]? = some (pc, .lconst n, 1)) (hp : pc + 1 = pc') (hv : Int64.ofNat (n : Nat) = v) (kk : V G Y pc' ls (.long v :: st) u c0 s0 Q QX) : V G Y pc ls st u c0 s0 Q QX := by
  subst hp
  exact fun p e s m args below meth c C H locs arr hH hS hl hz => lv_lconst (cxx C) (cxb C) (cxd C hd) hv (kk p e s m args below meth c C H locs arr hH hS hl hz)
theorem v_dconst0 (k : Nat)  (hd : (yP Y)[k]? = some (pc, .dconst 0, 1)) (hp : pc + 1 = pc') (kk : V G Y pc' ls (.double FP.dconst0 :: st) u c0 s0 Q QX) : V G Y pc ls st u c0 s0 Q QX := by
  subst hp
  exact fun p e s m args below meth c C H locs arr hH hS hl hz => lv_dconst0 (cxx C) (cxb C) (cxd C hd) (kk p e s m args below meth c C H locs arr hH hS hl hz)
theorem v_fconst0 (k : Nat)  (hd : (yP Y)[k]? = some (pc, .fconst 0, 1)) (hp : pc + 1 = pc') (kk : V G Y pc' ls (.float FP.fconst0 :: st) u c0 s0 Q QX) : V G Y pc ls st u c0 s0 Q QX := by
  subst hp
  exact fun p e s m args below meth c C H locs arr hH hS hl hz => lv_fconst0 (cxx C) (cxb C) (cxd C hd) (kk p e s m args below meth c C H locs arr hH hS hl hz)
theorem v_iload_n (k : Nat) (j : Nat) {f : Fin 4} {i : Nat} {x : Int32} (hd : (yP Y)[k]? = some (pc, .iload_n f, 1)) (hp : pc + 1 = pc') (hi : (f : Nat) = i) (hl0 : ls[j]? = some (i, .int x)) (kk : V G Y pc' ls (.int x :: st) u c0 s0 Q QX) : V G Y pc ls st u c0 s0 Q QX := by
  subst hp
  exact fun p e s m args below meth c C H locs arr hH hS hl hz => lv_iload_n (cxx C) (cxb C) (cxd C hd) hi (lv_at hl j (lcv_get hl0)) (kk p e s m args below meth c C H locs arr hH hS hl hz)
theorem v_iload (k : Nat) (j : Nat) {i : Nat} {x : Int32} (hd : (yP Y)[k]? = some (pc, .iload i, 2)) (hp : pc + 2 = pc') (hl0 : ls[j]? = some (i, .int x)) (kk : V G Y pc' ls (.int x :: st) u c0 s0 Q QX) : V G Y pc ls st u c0 s0 Q QX := by
  subst hp
  exact fun p e s m args below meth c C H locs arr hH hS hl hz => lv_iload (cxx C) (cxb C) (cxd C hd) (lv_at hl j (lcv_get hl0)) (kk p e s m args below meth c C H locs arr hH hS hl hz)
theorem v_istore_n (k : Nat) {f : Fin 4} {i : Nat} {x : Int32} (hd : (yP Y)[k]? = some (pc, .istore_n f, 1)) (hp : pc + 1 = pc') (hi : (f : Nat) = i) (hn : i < yM Y) (hf : (i, Value.int x) :: ls.filter (fun q => !(q.1 == i) && !(q.1 + 1 == i && q.2.category == 2)) = ls') (kk : V G Y pc' ls' st u c0 s0 Q QX) : V G Y pc ls (.int x :: st) u c0 s0 Q QX := by
  subst hp
  exact fun p e s m args below meth c C H locs arr hH hS hl hz => lv_istore_n (cxx C) (cxb C) (cxd C hd) hi hl hn (lcv_f1 (G := G) hf) (fun arr2 hl2 => kk p e s m args below meth c C H locs arr2 hH hS hl2 hz)
theorem v_istore (k : Nat) {i : Nat} {x : Int32} (hd : (yP Y)[k]? = some (pc, .istore i, 2)) (hp : pc + 2 = pc') (hn : i < yM Y) (hf : (i, Value.int x) :: ls.filter (fun q => !(q.1 == i) && !(q.1 + 1 == i && q.2.category == 2)) = ls') (kk : V G Y pc' ls' st u c0 s0 Q QX) : V G Y pc ls (.int x :: st) u c0 s0 Q QX := by
  subst hp
  exact fun p e s m args below meth c C H locs arr hH hS hl hz => lv_istore (cxx C) (cxb C) (cxd C hd) hl hn (lcv_f1 (G := G) hf) (fun arr2 hl2 => kk p e s m args below meth c C H locs arr2 hH hS hl2 hz)
theorem v_lload_n (k : Nat) (j : Nat) {f : Fin 4} {i : Nat} {x : Int64} (hd : (yP Y)[k]? = some (pc, .lload_n f, 1)) (hp : pc + 1 = pc') (hi : (f : Nat) = i) (hl0 : ls[j]? = some (i, .long x)) (kk : V G Y pc' ls (.long x :: st) u c0 s0 Q QX) : V G Y pc ls st u c0 s0 Q QX := by
  subst hp
  exact fun p e s m args below meth c C H locs arr hH hS hl hz => lv_lload_n (cxx C) (cxb C) (cxd C hd) hi (lv_at hl j (lcv_get hl0)) (kk p e s m args below meth c C H locs arr hH hS hl hz)
theorem v_lload (k : Nat) (j : Nat) {i : Nat} {x : Int64} (hd : (yP Y)[k]? = some (pc, .lload i, 2)) (hp : pc + 2 = pc') (hl0 : ls[j]? = some (i, .long x)) (kk : V G Y pc' ls (.long x :: st) u c0 s0 Q QX) : V G Y pc ls st u c0 s0 Q QX := by
  subst hp
  exact fun p e s m args below meth c C H locs arr hH hS hl hz => lv_lload (cxx C) (cxb C) (cxd C hd) (lv_at hl j (lcv_get hl0)) (kk p e s m args below meth c C H locs arr hH hS hl hz)
theorem v_lstore_n (k : Nat) {f : Fin 4} {i : Nat} {x : Int64} (hd : (yP Y)[k]? = some (pc, .lstore_n f, 1)) (hp : pc + 1 = pc') (hi : (f : Nat) = i) (hn : i + 1 < yM Y) (hf : (i, Value.long x) :: ls.filter (fun q => !(q.1 == i) && (!(q.1 == i + 1) && !(q.1 + 1 == i && q.2.category == 2))) = ls') (kk : V G Y pc' ls' st u c0 s0 Q QX) : V G Y pc ls (.long x :: st) u c0 s0 Q QX := by
  subst hp
  exact fun p e s m args below meth c C H locs arr hH hS hl hz => lv_lstore_n (cxx C) (cxb C) (cxd C hd) hi hl hn (lcv_f2 (G := G) hf) (fun arr2 hl2 => kk p e s m args below meth c C H locs arr2 hH hS hl2 hz)
theorem v_lstore (k : Nat) {i : Nat} {x : Int64} (hd : (yP Y)[k]? = some (pc, .lstore i, 2)) (hp : pc + 2 = pc') (hn : i + 1 < yM Y) (hf : (i, Value.long x) :: ls.filter (fun q => !(q.1 == i) && (!(q.1 == i + 1) && !(q.1 + 1 == i && q.2.category == 2))) = ls') (kk : V G Y pc' ls' st u c0 s0 Q QX) : V G Y pc ls (.long x :: st) u c0 s0 Q QX := by
  subst hp
  exact fun p e s m args below meth c C H locs arr hH hS hl hz => lv_lstore (cxx C) (cxb C) (cxd C hd) hl hn (lcv_f2 (G := G) hf) (fun arr2 hl2 => kk p e s m args below meth c C H locs arr2 hH hS hl2 hz)
theorem v_dload_n (k : Nat) (j : Nat) {f : Fin 4} {i : Nat} {x : UInt64} (hd : (yP Y)[k]? = some (pc, .dload_n f, 1)) (hp : pc + 1 = pc') (hi : (f : Nat) = i) (hl0 : ls[j]? = some (i, .double x)) (kk : V G Y pc' ls (.double x :: st) u c0 s0 Q QX) : V G Y pc ls st u c0 s0 Q QX := by
  subst hp
  exact fun p e s m args below meth c C H locs arr hH hS hl hz => lv_dload_n (cxx C) (cxb C) (cxd C hd) hi (lv_at hl j (lcv_get hl0)) (kk p e s m args below meth c C H locs arr hH hS hl hz)
theorem v_dload (k : Nat) (j : Nat) {i : Nat} {x : UInt64} (hd : (yP Y)[k]? = some (pc, .dload i, 2)) (hp : pc + 2 = pc') (hl0 : ls[j]? = some (i, .double x)) (kk : V G Y pc' ls (.double x :: st) u c0 s0 Q QX) : V G Y pc ls st u c0 s0 Q QX := by
  subst hp
  exact fun p e s m args below meth c C H locs arr hH hS hl hz => lv_dload (cxx C) (cxb C) (cxd C hd) (lv_at hl j (lcv_get hl0)) (kk p e s m args below meth c C H locs arr hH hS hl hz)
theorem v_dstore_n (k : Nat) {f : Fin 4} {i : Nat} {x : UInt64} (hd : (yP Y)[k]? = some (pc, .dstore_n f, 1)) (hp : pc + 1 = pc') (hi : (f : Nat) = i) (hn : i + 1 < yM Y) (hf : (i, Value.double x) :: ls.filter (fun q => !(q.1 == i) && (!(q.1 == i + 1) && !(q.1 + 1 == i && q.2.category == 2))) = ls') (kk : V G Y pc' ls' st u c0 s0 Q QX) : V G Y pc ls (.double x :: st) u c0 s0 Q QX := by
  subst hp
  exact fun p e s m args below meth c C H locs arr hH hS hl hz => lv_dstore_n (cxx C) (cxb C) (cxd C hd) hi hl hn (lcv_f2 (G := G) hf) (fun arr2 hl2 => kk p e s m args below meth c C H locs arr2 hH hS hl2 hz)
theorem v_dstore (k : Nat) {i : Nat} {x : UInt64} (hd : (yP Y)[k]? = some (pc, .dstore i, 2)) (hp : pc + 2 = pc') (hn : i + 1 < yM Y) (hf : (i, Value.double x) :: ls.filter (fun q => !(q.1 == i) && (!(q.1 == i + 1) && !(q.1 + 1 == i && q.2.category == 2))) = ls') (kk : V G Y pc' ls' st u c0 s0 Q QX) : V G Y pc ls (.double x :: st) u c0 s0 Q QX := by
  subst hp
  exact fun p e s m args below meth c C H locs arr hH hS hl hz => lv_dstore (cxx C) (cxb C) (cxd C hd) hl hn (lcv_f2 (G := G) hf) (fun arr2 hl2 => kk p e s m args below meth c C H locs arr2 hH hS hl2 hz)
theorem v_aload_n (k : Nat) (j : Nat) {f : Fin 4} {i : Nat} {x : Nat} (hd : (yP Y)[k]? = some (pc, .aload_n f, 1)) (hp : pc + 1 = pc') (hi : (f : Nat) = i) (hl0 : ls[j]? = some (i, .ref x)) (kk : V G Y pc' ls (.ref x :: st) u c0 s0 Q QX) : V G Y pc ls st u c0 s0 Q QX := by
  subst hp
  exact fun p e s m args below meth c C H locs arr hH hS hl hz => lv_aload_n (cxx C) (cxb C) (cxd C hd) hi (lv_at hl j (lcv_get hl0)) (kk p e s m args below meth c C H locs arr hH hS hl hz)
theorem v_aload (k : Nat) (j : Nat) {i : Nat} {x : Nat} (hd : (yP Y)[k]? = some (pc, .aload i, 2)) (hp : pc + 2 = pc') (hl0 : ls[j]? = some (i, .ref x)) (kk : V G Y pc' ls (.ref x :: st) u c0 s0 Q QX) : V G Y pc ls st u c0 s0 Q QX := by
  subst hp
  exact fun p e s m args below meth c C H locs arr hH hS hl hz => lv_aload (cxx C) (cxb C) (cxd C hd) (lv_at hl j (lcv_get hl0)) (kk p e s m args below meth c C H locs arr hH hS hl hz)
theorem v_astore_n (k : Nat) {f : Fin 4} {i : Nat} {x : Nat} (hd : (yP Y)[k]? = some (pc, .astore_n f, 1)) (hp : pc + 1 = pc') (hi : (f : Nat) = i) (hn : i < yM Y) (hf : (i, Value.ref x) :: ls.filter (fun q => !(q.1 == i) && !(q.1 + 1 == i && q.2.category == 2)) = ls') (kk : V G Y pc' ls' st u c0 s0 Q QX) : V G Y pc ls (.ref x :: st) u c0 s0 Q QX := by
  subst hp
  exact fun p e s m args below meth c C H locs arr hH hS hl hz => lv_astore_n (cxx C) (cxb C) (cxd C hd) hi hl hn (lcv_f1 (G := G) hf) (fun arr2 hl2 => kk p e s m args below meth c C H locs arr2 hH hS hl2 hz)
theorem v_astore (k : Nat) {i : Nat} {x : Nat} (hd : (yP Y)[k]? = some (pc, .astore i, 2)) (hp : pc + 2 = pc') (hn : i < yM Y) (hf : (i, Value.ref x) :: ls.filter (fun q => !(q.1 == i) && !(q.1 + 1 == i && q.2.category == 2)) = ls') (kk : V G Y pc' ls' st u c0 s0 Q QX) : V G Y pc ls (.ref x :: st) u c0 s0 Q QX := by
  subst hp
  exact fun p e s m args below meth c C H locs arr hH hS hl hz => lv_astore (cxx C) (cxb C) (cxd C hd) hl hn (lcv_f1 (G := G) hf) (fun arr2 hl2 => kk p e s m args below meth c C H locs arr2 hH hS hl2 hz)
theorem v_iinc (k j : Nat) {i : Nat} {n : Int} {x v : Int32} (hd : (yP Y)[k]? = some (pc, .iinc i n, 3)) (hp : pc + 3 = pc') (hl0 : ls[j]? = some (i, .int x)) (hv : x + Int32.ofInt n = v) (hn : i < yM Y) (hf : (i, Value.int v) :: ls.filter (fun q => !(q.1 == i) && !(q.1 + 1 == i && q.2.category == 2)) = ls') (kk : V G Y pc' ls' st u c0 s0 Q QX) : V G Y pc ls st u c0 s0 Q QX := by
  subst hp
  exact fun p e s m args below meth c C H locs arr hH hS hl hz => lv_iinc (cxx C) (cxb C) (cxd C hd) hl (lcv_get hl0) hv hn (lcv_f1 (G := G) hf) (fun arr2 hl2 => kk p e s m args below meth c C H locs arr2 hH hS hl2 hz)
theorem v_iadd (k : Nat) {x y : Int32} (hd : (yP Y)[k]? = some (pc, .iadd, 1)) (hp : pc + 1 = pc') (kk : V G Y pc' ls (.int (x + y) :: st) u c0 s0 Q QX) : V G Y pc ls (.int y :: .int x :: st) u c0 s0 Q QX := by
  subst hp
  exact fun p e s m args below meth c C H locs arr hH hS hl hz => lv_iadd (cxx C) (cxb C) (cxd C hd) (kk p e s m args below meth c C H locs arr hH hS hl hz)
theorem v_isub (k : Nat) {x y : Int32} (hd : (yP Y)[k]? = some (pc, .isub, 1)) (hp : pc + 1 = pc') (kk : V G Y pc' ls (.int (x - y) :: st) u c0 s0 Q QX) : V G Y pc ls (.int y :: .int x :: st) u c0 s0 Q QX := by
  subst hp
  exact fun p e s m args below meth c C H locs arr hH hS hl hz => lv_isub (cxx C) (cxb C) (cxd C hd) (kk p e s m args below meth c C H locs arr hH hS hl hz)
theorem v_imul (k : Nat) {x y : Int32} (hd : (yP Y)[k]? = some (pc, .imul, 1)) (hp : pc + 1 = pc') (kk : V G Y pc' ls (.int (x * y) :: st) u c0 s0 Q QX) : V G Y pc ls (.int y :: .int x :: st) u c0 s0 Q QX := by
  subst hp
  exact fun p e s m args below meth c C H locs arr hH hS hl hz => lv_imul (cxx C) (cxb C) (cxd C hd) (kk p e s m args below meth c C H locs arr hH hS hl hz)
theorem v_iand (k : Nat) {x y : Int32} (hd : (yP Y)[k]? = some (pc, .iand, 1)) (hp : pc + 1 = pc') (kk : V G Y pc' ls (.int (x &&& y) :: st) u c0 s0 Q QX) : V G Y pc ls (.int y :: .int x :: st) u c0 s0 Q QX := by
  subst hp
  exact fun p e s m args below meth c C H locs arr hH hS hl hz => lv_iand (cxx C) (cxb C) (cxd C hd) (kk p e s m args below meth c C H locs arr hH hS hl hz)
theorem v_ior (k : Nat) {x y : Int32} (hd : (yP Y)[k]? = some (pc, .ior, 1)) (hp : pc + 1 = pc') (kk : V G Y pc' ls (.int (x ||| y) :: st) u c0 s0 Q QX) : V G Y pc ls (.int y :: .int x :: st) u c0 s0 Q QX := by
  subst hp
  exact fun p e s m args below meth c C H locs arr hH hS hl hz => lv_ior (cxx C) (cxb C) (cxd C hd) (kk p e s m args below meth c C H locs arr hH hS hl hz)
theorem v_ixor (k : Nat) {x y : Int32} (hd : (yP Y)[k]? = some (pc, .ixor, 1)) (hp : pc + 1 = pc') (kk : V G Y pc' ls (.int (x ^^^ y) :: st) u c0 s0 Q QX) : V G Y pc ls (.int y :: .int x :: st) u c0 s0 Q QX := by
  subst hp
  exact fun p e s m args below meth c C H locs arr hH hS hl hz => lv_ixor (cxx C) (cxb C) (cxd C hd) (kk p e s m args below meth c C H locs arr hH hS hl hz)
theorem v_ladd (k : Nat) {x y : Int64} (hd : (yP Y)[k]? = some (pc, .ladd, 1)) (hp : pc + 1 = pc') (kk : V G Y pc' ls (.long (x + y) :: st) u c0 s0 Q QX) : V G Y pc ls (.long y :: .long x :: st) u c0 s0 Q QX := by
  subst hp
  exact fun p e s m args below meth c C H locs arr hH hS hl hz => lv_ladd (cxx C) (cxb C) (cxd C hd) (kk p e s m args below meth c C H locs arr hH hS hl hz)
theorem v_lsub (k : Nat) {x y : Int64} (hd : (yP Y)[k]? = some (pc, .lsub, 1)) (hp : pc + 1 = pc') (kk : V G Y pc' ls (.long (x - y) :: st) u c0 s0 Q QX) : V G Y pc ls (.long y :: .long x :: st) u c0 s0 Q QX := by
  subst hp
  exact fun p e s m args below meth c C H locs arr hH hS hl hz => lv_lsub (cxx C) (cxb C) (cxd C hd) (kk p e s m args below meth c C H locs arr hH hS hl hz)
theorem v_lmul (k : Nat) {x y : Int64} (hd : (yP Y)[k]? = some (pc, .lmul, 1)) (hp : pc + 1 = pc') (kk : V G Y pc' ls (.long (x * y) :: st) u c0 s0 Q QX) : V G Y pc ls (.long y :: .long x :: st) u c0 s0 Q QX := by
  subst hp
  exact fun p e s m args below meth c C H locs arr hH hS hl hz => lv_lmul (cxx C) (cxb C) (cxd C hd) (kk p e s m args below meth c C H locs arr hH hS hl hz)
theorem v_land (k : Nat) {x y : Int64} (hd : (yP Y)[k]? = some (pc, .land, 1)) (hp : pc + 1 = pc') (kk : V G Y pc' ls (.long (x &&& y) :: st) u c0 s0 Q QX) : V G Y pc ls (.long y :: .long x :: st) u c0 s0 Q QX := by
  subst hp
  exact fun p e s m args below meth c C H locs arr hH hS hl hz => lv_land (cxx C) (cxb C) (cxd C hd) (kk p e s m args below meth c C H locs arr hH hS hl hz)
theorem v_lor (k : Nat) {x y : Int64} (hd : (yP Y)[k]? = some (pc, .lor, 1)) (hp : pc + 1 = pc') (kk : V G Y pc' ls (.long (x ||| y) :: st) u c0 s0 Q QX) : V G Y pc ls (.long y :: .long x :: st) u c0 s0 Q QX := by
  subst hp
  exact fun p e s m args below meth c C H locs arr hH hS hl hz => lv_lor (cxx C) (cxb C) (cxd C hd) (kk p e s m args below meth c C H locs arr hH hS hl hz)
theorem v_lxor (k : Nat) {x y : Int64} (hd : (yP Y)[k]? = some (pc, .lxor, 1)) (hp : pc + 1 = pc') (kk : V G Y pc' ls (.long (x ^^^ y) :: st) u c0 s0 Q QX) : V G Y pc ls (.long y :: .long x :: st) u c0 s0 Q QX := by
  subst hp
  exact fun p e s m args below meth c C H locs arr hH hS hl hz => lv_lxor (cxx C) (cxb C) (cxd C hd) (kk p e s m args below meth c C H locs arr hH hS hl hz)
theorem v_ishl (k : Nat) {x y : Int32} (hd : (yP Y)[k]? = some (pc, .ishl, 1)) (hp : pc + 1 = pc') (kk : V G Y pc' ls (.int (x <<< (y &&& 31)) :: st) u c0 s0 Q QX) : V G Y pc ls (.int y :: .int x :: st) u c0 s0 Q QX := by
  subst hp
  exact fun p e s m args below meth c C H locs arr hH hS hl hz => lv_ishl (cxx C) (cxb C) (cxd C hd) (kk p e s m args below meth c C H locs arr hH hS hl hz)
theorem v_ishr (k : Nat) {x y : Int32} (hd : (yP Y)[k]? = some (pc, .ishr, 1)) (hp : pc + 1 = pc') (kk : V G Y pc' ls (.int (x >>> (y &&& 31)) :: st) u c0 s0 Q QX) : V G Y pc ls (.int y :: .int x :: st) u c0 s0 Q QX := by
  subst hp
  exact fun p e s m args below meth c C H locs arr hH hS hl hz => lv_ishr (cxx C) (cxb C) (cxd C hd) (kk p e s m args below meth c C H locs arr hH hS hl hz)
def ushI (x y : Int32) : Int32 := (x.toUInt32 >>> (y.toUInt32 &&& Int32.toUInt32 31)).toInt32
def ushL (x : Int64) (y : Int32) : Int64 := (x.toUInt64 >>> (y.toInt64.toUInt64 &&& Int64.toUInt64 63)).toInt64
def shlL (x : Int64) (y : Int32) : Int64 := x <<< (y.toInt64 &&& 63)
def shrL (x : Int64) (y : Int32) : Int64 := x >>> (y.toInt64 &&& 63)
theorem v_iushr (k : Nat) {x y : Int32} (hd : (yP Y)[k]? = some (pc, .iushr, 1)) (hp : pc + 1 = pc') (kk : V G Y pc' ls (.int (ushI x y) :: st) u c0 s0 Q QX) : V G Y pc ls (.int y :: .int x :: st) u c0 s0 Q QX := by
  subst hp
  exact fun p e s m args below meth c C H locs arr hH hS hl hz => lv_iushr (cxx C) (cxb C) (cxd C hd) rfl (kk p e s m args below meth c C H locs arr hH hS hl hz)
theorem v_lushr (k : Nat) {x : Int64} {y : Int32} (hd : (yP Y)[k]? = some (pc, .lushr, 1)) (hp : pc + 1 = pc') (kk : V G Y pc' ls (.long (ushL x y) :: st) u c0 s0 Q QX) : V G Y pc ls (.int y :: .long x :: st) u c0 s0 Q QX := by
  subst hp
  exact fun p e s m args below meth c C H locs arr hH hS hl hz => lv_lushr (cxx C) (cxb C) (cxd C hd) rfl (kk p e s m args below meth c C H locs arr hH hS hl hz)
theorem v_lshl (k : Nat) {x : Int64} {y : Int32} (hd : (yP Y)[k]? = some (pc, .lshl, 1)) (hp : pc + 1 = pc') (kk : V G Y pc' ls (.long (shlL x y) :: st) u c0 s0 Q QX) : V G Y pc ls (.int y :: .long x :: st) u c0 s0 Q QX := by
  subst hp
  exact fun p e s m args below meth c C H locs arr hH hS hl hz => lv_lshl (cxx C) (cxb C) (cxd C hd) rfl (kk p e s m args below meth c C H locs arr hH hS hl hz)
theorem v_lshr (k : Nat) {x : Int64} {y : Int32} (hd : (yP Y)[k]? = some (pc, .lshr, 1)) (hp : pc + 1 = pc') (kk : V G Y pc' ls (.long (shrL x y) :: st) u c0 s0 Q QX) : V G Y pc ls (.int y :: .long x :: st) u c0 s0 Q QX := by
  subst hp
  exact fun p e s m args below meth c C H locs arr hH hS hl hz => lv_lshr (cxx C) (cxb C) (cxd C hd) rfl (kk p e s m args below meth c C H locs arr hH hS hl hz)
theorem v_i2l (k : Nat) {x : Int32} (hd : (yP Y)[k]? = some (pc, .i2l, 1)) (hp : pc + 1 = pc') (kk : V G Y pc' ls (.long x.toInt64 :: st) u c0 s0 Q QX) : V G Y pc ls (.int x :: st) u c0 s0 Q QX := by
  subst hp
  exact fun p e s m args below meth c C H locs arr hH hS hl hz => lv_i2l (cxx C) (cxb C) (cxd C hd) rfl (kk p e s m args below meth c C H locs arr hH hS hl hz)
theorem v_l2i (k : Nat) {x : Int64} (hd : (yP Y)[k]? = some (pc, .l2i, 1)) (hp : pc + 1 = pc') (kk : V G Y pc' ls (.int x.toInt32 :: st) u c0 s0 Q QX) : V G Y pc ls (.long x :: st) u c0 s0 Q QX := by
  subst hp
  exact fun p e s m args below meth c C H locs arr hH hS hl hz => lv_l2i (cxx C) (cxb C) (cxd C hd) rfl (kk p e s m args below meth c C H locs arr hH hS hl hz)
theorem v_i2b (k : Nat) {x : Int32} (hd : (yP Y)[k]? = some (pc, .i2b, 1)) (hp : pc + 1 = pc') (kk : V G Y pc' ls (.int x.toInt8.toInt32 :: st) u c0 s0 Q QX) : V G Y pc ls (.int x :: st) u c0 s0 Q QX := by
  subst hp
  exact fun p e s m args below meth c C H locs arr hH hS hl hz => lv_i2b (cxx C) (cxb C) (cxd C hd) rfl (kk p e s m args below meth c C H locs arr hH hS hl hz)
theorem v_i2c (k : Nat) {x : Int32} (hd : (yP Y)[k]? = some (pc, .i2c, 1)) (hp : pc + 1 = pc') (kk : V G Y pc' ls (.int (x.toUInt32 % 65536).toInt32 :: st) u c0 s0 Q QX) : V G Y pc ls (.int x :: st) u c0 s0 Q QX := by
  subst hp
  exact fun p e s m args below meth c C H locs arr hH hS hl hz => lv_i2c (cxx C) (cxb C) (cxd C hd) rfl (kk p e s m args below meth c C H locs arr hH hS hl hz)
theorem v_i2d (k : Nat) {x : Int32} (hd : (yP Y)[k]? = some (pc, .i2d, 1)) (hp : pc + 1 = pc') (kk : V G Y pc' ls (.double (FP.i2d x) :: st) u c0 s0 Q QX) : V G Y pc ls (.int x :: st) u c0 s0 Q QX := by
  subst hp
  exact fun p e s m args below meth c C H locs arr hH hS hl hz => lv_i2d (cxx C) (cxb C) (cxd C hd) (kk p e s m args below meth c C H locs arr hH hS hl hz)
theorem v_i2f (k : Nat) {x : Int32} (hd : (yP Y)[k]? = some (pc, .i2f, 1)) (hp : pc + 1 = pc') (kk : V G Y pc' ls (.float (FP.i2f x) :: st) u c0 s0 Q QX) : V G Y pc ls (.int x :: st) u c0 s0 Q QX := by
  subst hp
  exact fun p e s m args below meth c C H locs arr hH hS hl hz => lv_i2f (cxx C) (cxb C) (cxd C hd) (kk p e s m args below meth c C H locs arr hH hS hl hz)
theorem v_ddiv (k : Nat) {x y : UInt64} (hd : (yP Y)[k]? = some (pc, .ddiv, 1)) (hp : pc + 1 = pc') (hne : vf_n64 (FP.ddiv x y)) (kk : V G Y pc' ls (.double (FP.ddiv x y) :: st) u c0 s0 Q QX) : V G Y pc ls (.double y :: .double x :: st) u c0 s0 Q QX := by
  subst hp
  exact fun p e s m args below meth c C H locs arr hH hS hl hz => lv_ddiv (cxx C) (cxb C) (cxd C hd) hne (kk p e s m args below meth c C H locs arr hH hS hl hz)
theorem v_fdiv (k : Nat) {x y : UInt32} (hd : (yP Y)[k]? = some (pc, .fdiv, 1)) (hp : pc + 1 = pc') (hne : vf_n32 (FP.fdiv x y)) (kk : V G Y pc' ls (.float (FP.fdiv x y) :: st) u c0 s0 Q QX) : V G Y pc ls (.float y :: .float x :: st) u c0 s0 Q QX := by
  subst hp
  exact fun p e s m args below meth c C H locs arr hH hS hl hz => lv_fdiv (cxx C) (cxb C) (cxd C hd) hne (kk p e s m args below meth c C H locs arr hH hS hl hz)
theorem v_f2d (k : Nat) {x : UInt32} (hd : (yP Y)[k]? = some (pc, .f2d, 1)) (hp : pc + 1 = pc') (hne : vf_n64 (FP.f2d x)) (kk : V G Y pc' ls (.double (FP.f2d x) :: st) u c0 s0 Q QX) : V G Y pc ls (.float x :: st) u c0 s0 Q QX := by
  subst hp
  exact fun p e s m args below meth c C H locs arr hH hS hl hz => lv_f2d (cxx C) (cxb C) (cxd C hd) hne (kk p e s m args below meth c C H locs arr hH hS hl hz)
theorem v_dcmp (k : Nat) {x y : UInt64} {op : CmpOp} (hd : (yP Y)[k]? = some (pc, .dcmp op, 1)) (hp : pc + 1 = pc') (kk : V G Y pc' ls (.int (Op.cmpValue (FP.dcmp x y) op) :: st) u c0 s0 Q QX) : V G Y pc ls (.double y :: .double x :: st) u c0 s0 Q QX := by
  subst hp
  exact fun p e s m args below meth c C H locs arr hH hS hl hz => lv_dcmp (cxx C) (cxb C) (cxd C hd) (kk p e s m args below meth c C H locs arr hH hS hl hz)
theorem v_lcmp (k : Nat) {x y : Int64} (hd : (yP Y)[k]? = some (pc, .lcmp, 1)) (hp : pc + 1 = pc') (kk : V G Y pc' ls (.int (lg_cmp x y) :: st) u c0 s0 Q QX) : V G Y pc ls (.long y :: .long x :: st) u c0 s0 Q QX := by
  subst hp
  exact fun p e s m args below meth c C H locs arr hH hS hl hz => W.lcmp (cxx C) (cxb C) (cxd C hd) (kk p e s m args below meth c C H locs arr hH hS hl hz)
theorem v_dup (k : Nat) {v : Value} (hd : (yP Y)[k]? = some (pc, .dup, 1)) (hp : pc + 1 = pc') (hv : v.category = 1) (kk : V G Y pc' ls (v :: v :: st) u c0 s0 Q QX) : V G Y pc ls (v :: st) u c0 s0 Q QX := by
  subst hp
  exact fun p e s m args below meth c C H locs arr hH hS hl hz => lv_dup (cxx C) (cxb C) (cxd C hd) (by rw [cv_cat]; exact hv) (kk p e s m args below meth c C H locs arr hH hS hl hz)
theorem v_dup2 (k : Nat) {v v2 : Value} (hd : (yP Y)[k]? = some (pc, .dup2, 1)) (hp : pc + 1 = pc') (hv : v.category = 1) (hv2 : v2.category = 1) (kk : V G Y pc' ls (v :: v2 :: v :: v2 :: st) u c0 s0 Q QX) : V G Y pc ls (v :: v2 :: st) u c0 s0 Q QX := by
  subst hp
  exact fun p e s m args below meth c C H locs arr hH hS hl hz => lv_dup2_11 (cxx C) (cxb C) (cxd C hd) (by rw [cv_cat]; exact hv) (by rw [cv_cat]; exact hv2) (kk p e s m args below meth c C H locs arr hH hS hl hz)
theorem v_pop (k : Nat) {v : Value} (hd : (yP Y)[k]? = some (pc, .pop, 1)) (hp : pc + 1 = pc') (hv : v.category = 1) (kk : V G Y pc' ls st u c0 s0 Q QX) : V G Y pc ls (v :: st) u c0 s0 Q QX := by
  subst hp
  exact fun p e s m args below meth c C H locs arr hH hS hl hz => lv_pop (cxx C) (cxb C) (cxd C hd) (by rw [cv_cat]; exact hv) (kk p e s m args below meth c C H locs arr hH hS hl hz)
theorem v_ldc (k : Nat) {i : Nat} {v : Int32} (hd : (yP Y)[k]? = some (pc, .ldc i, 2)) (hp : pc + 2 = pc') (hc : Cond.constant (yN Y).cls i v ∈ GW) (kk : V G Y pc' ls (.int v :: st) u c0 s0 Q QX) : V G Y pc ls st u c0 s0 Q QX := by
  subst hp
  exact fun p e s m args below meth c C H locs arr hH hS hl hz => lv_ldc (cxx C) (cxb C) (cxo C) (cxw C _ hc) (cxd C hd) (kk p e s m args below meth c C H locs arr hH hS hl hz)
theorem v_ldc_w (k : Nat) {i : Nat} {v : Int32} (hd : (yP Y)[k]? = some (pc, .ldc_w i, 3)) (hp : pc + 3 = pc') (hc : Cond.constant (yN Y).cls i v ∈ GW) (kk : V G Y pc' ls (.int v :: st) u c0 s0 Q QX) : V G Y pc ls st u c0 s0 Q QX := by
  subst hp
  exact fun p e s m args below meth c C H locs arr hH hS hl hz => lv_ldcw (cxx C) (cxb C) (cxo C) (cxw C _ hc) (cxd C hd) (kk p e s m args below meth c C H locs arr hH hS hl hz)
theorem v_ldc2 (k : Nat) {i : Nat} {v : Int64} (hd : (yP Y)[k]? = some (pc, .ldc2_w i, 3)) (hp : pc + 3 = pc') (hc : Cond.constantLong (yN Y).cls i v ∈ GW) (kk : V G Y pc' ls (.long v :: st) u c0 s0 Q QX) : V G Y pc ls st u c0 s0 Q QX := by
  subst hp
  exact fun p e s m args below meth c C H locs arr hH hS hl hz => lv_ldc2 (cxx C) (cxb C) (cxo C) (cxw C _ hc) (cxd C hd) (kk p e s m args below meth c C H locs arr hH hS hl hz)
theorem v_if_eq (k : Nat) {x : Int32} {off : Int} {tgt : Nat} (hd : (yP Y)[k]? = some (pc, .ifCond .eq off, 3)) (hp : pc + 3 = pc') (ht : (pc : Int) + off = (tgt : Int)) (kt : x = 0 → V G Y tgt ls st u c0 s0 Q QX) (kf : ¬ x = 0 → V G Y pc' ls st u c0 s0 Q QX) : V G Y pc ls (.int x :: st) u c0 s0 Q QX := by
  subst hp
  exact fun p e s m args below meth c C H locs arr hH hS hl hz => lv_if_eq (cxx C) (cxb C) (cxd C hd) ht (fun h => kt h p e s m args below meth c C H locs arr hH hS hl hz) (fun h => kf h p e s m args below meth c C H locs arr hH hS hl hz)
theorem v_icmp_eq (k : Nat) {x y : Int32} {off : Int} {tgt : Nat} (hd : (yP Y)[k]? = some (pc, .if_icmp .eq off, 3)) (hp : pc + 3 = pc') (ht : (pc : Int) + off = (tgt : Int)) (kt : x = y → V G Y tgt ls st u c0 s0 Q QX) (kf : ¬ x = y → V G Y pc' ls st u c0 s0 Q QX) : V G Y pc ls (.int y :: .int x :: st) u c0 s0 Q QX := by
  subst hp
  exact fun p e s m args below meth c C H locs arr hH hS hl hz => lv_icmp_eq (cxx C) (cxb C) (cxd C hd) ht (fun h => kt h p e s m args below meth c C H locs arr hH hS hl hz) (fun h => kf h p e s m args below meth c C H locs arr hH hS hl hz)
theorem v_if_ne (k : Nat) {x : Int32} {off : Int} {tgt : Nat} (hd : (yP Y)[k]? = some (pc, .ifCond .ne off, 3)) (hp : pc + 3 = pc') (ht : (pc : Int) + off = (tgt : Int)) (kt : ¬ x = 0 → V G Y tgt ls st u c0 s0 Q QX) (kf : x = 0 → V G Y pc' ls st u c0 s0 Q QX) : V G Y pc ls (.int x :: st) u c0 s0 Q QX := by
  subst hp
  exact fun p e s m args below meth c C H locs arr hH hS hl hz => lv_if_ne (cxx C) (cxb C) (cxd C hd) ht (fun h => kt h p e s m args below meth c C H locs arr hH hS hl hz) (fun h => kf h p e s m args below meth c C H locs arr hH hS hl hz)
theorem v_icmp_ne (k : Nat) {x y : Int32} {off : Int} {tgt : Nat} (hd : (yP Y)[k]? = some (pc, .if_icmp .ne off, 3)) (hp : pc + 3 = pc') (ht : (pc : Int) + off = (tgt : Int)) (kt : ¬ x = y → V G Y tgt ls st u c0 s0 Q QX) (kf : x = y → V G Y pc' ls st u c0 s0 Q QX) : V G Y pc ls (.int y :: .int x :: st) u c0 s0 Q QX := by
  subst hp
  exact fun p e s m args below meth c C H locs arr hH hS hl hz => lv_icmp_ne (cxx C) (cxb C) (cxd C hd) ht (fun h => kt h p e s m args below meth c C H locs arr hH hS hl hz) (fun h => kf h p e s m args below meth c C H locs arr hH hS hl hz)
theorem v_if_lt (k : Nat) {x : Int32} {off : Int} {tgt : Nat} (hd : (yP Y)[k]? = some (pc, .ifCond .lt off, 3)) (hp : pc + 3 = pc') (ht : (pc : Int) + off = (tgt : Int)) (kt : x < 0 → V G Y tgt ls st u c0 s0 Q QX) (kf : ¬ x < 0 → V G Y pc' ls st u c0 s0 Q QX) : V G Y pc ls (.int x :: st) u c0 s0 Q QX := by
  subst hp
  exact fun p e s m args below meth c C H locs arr hH hS hl hz => lv_if_lt (cxx C) (cxb C) (cxd C hd) ht (fun h => kt h p e s m args below meth c C H locs arr hH hS hl hz) (fun h => kf h p e s m args below meth c C H locs arr hH hS hl hz)
theorem v_icmp_lt (k : Nat) {x y : Int32} {off : Int} {tgt : Nat} (hd : (yP Y)[k]? = some (pc, .if_icmp .lt off, 3)) (hp : pc + 3 = pc') (ht : (pc : Int) + off = (tgt : Int)) (kt : x < y → V G Y tgt ls st u c0 s0 Q QX) (kf : ¬ x < y → V G Y pc' ls st u c0 s0 Q QX) : V G Y pc ls (.int y :: .int x :: st) u c0 s0 Q QX := by
  subst hp
  exact fun p e s m args below meth c C H locs arr hH hS hl hz => lv_icmp_lt (cxx C) (cxb C) (cxd C hd) ht (fun h => kt h p e s m args below meth c C H locs arr hH hS hl hz) (fun h => kf h p e s m args below meth c C H locs arr hH hS hl hz)
theorem v_if_ge (k : Nat) {x : Int32} {off : Int} {tgt : Nat} (hd : (yP Y)[k]? = some (pc, .ifCond .ge off, 3)) (hp : pc + 3 = pc') (ht : (pc : Int) + off = (tgt : Int)) (kt : 0 ≤ x → V G Y tgt ls st u c0 s0 Q QX) (kf : ¬ 0 ≤ x → V G Y pc' ls st u c0 s0 Q QX) : V G Y pc ls (.int x :: st) u c0 s0 Q QX := by
  subst hp
  exact fun p e s m args below meth c C H locs arr hH hS hl hz => lv_if_ge (cxx C) (cxb C) (cxd C hd) ht (fun h => kt h p e s m args below meth c C H locs arr hH hS hl hz) (fun h => kf h p e s m args below meth c C H locs arr hH hS hl hz)
theorem v_icmp_ge (k : Nat) {x y : Int32} {off : Int} {tgt : Nat} (hd : (yP Y)[k]? = some (pc, .if_icmp .ge off, 3)) (hp : pc + 3 = pc') (ht : (pc : Int) + off = (tgt : Int)) (kt : y ≤ x → V G Y tgt ls st u c0 s0 Q QX) (kf : ¬ y ≤ x → V G Y pc' ls st u c0 s0 Q QX) : V G Y pc ls (.int y :: .int x :: st) u c0 s0 Q QX := by
  subst hp
  exact fun p e s m args below meth c C H locs arr hH hS hl hz => lv_icmp_ge (cxx C) (cxb C) (cxd C hd) ht (fun h => kt h p e s m args below meth c C H locs arr hH hS hl hz) (fun h => kf h p e s m args below meth c C H locs arr hH hS hl hz)
theorem v_if_gt (k : Nat) {x : Int32} {off : Int} {tgt : Nat} (hd : (yP Y)[k]? = some (pc, .ifCond .gt off, 3)) (hp : pc + 3 = pc') (ht : (pc : Int) + off = (tgt : Int)) (kt : 0 < x → V G Y tgt ls st u c0 s0 Q QX) (kf : ¬ 0 < x → V G Y pc' ls st u c0 s0 Q QX) : V G Y pc ls (.int x :: st) u c0 s0 Q QX := by
  subst hp
  exact fun p e s m args below meth c C H locs arr hH hS hl hz => lv_if_gt (cxx C) (cxb C) (cxd C hd) ht (fun h => kt h p e s m args below meth c C H locs arr hH hS hl hz) (fun h => kf h p e s m args below meth c C H locs arr hH hS hl hz)
theorem v_icmp_gt (k : Nat) {x y : Int32} {off : Int} {tgt : Nat} (hd : (yP Y)[k]? = some (pc, .if_icmp .gt off, 3)) (hp : pc + 3 = pc') (ht : (pc : Int) + off = (tgt : Int)) (kt : y < x → V G Y tgt ls st u c0 s0 Q QX) (kf : ¬ y < x → V G Y pc' ls st u c0 s0 Q QX) : V G Y pc ls (.int y :: .int x :: st) u c0 s0 Q QX := by
  subst hp
  exact fun p e s m args below meth c C H locs arr hH hS hl hz => lv_icmp_gt (cxx C) (cxb C) (cxd C hd) ht (fun h => kt h p e s m args below meth c C H locs arr hH hS hl hz) (fun h => kf h p e s m args below meth c C H locs arr hH hS hl hz)
theorem v_if_le (k : Nat) {x : Int32} {off : Int} {tgt : Nat} (hd : (yP Y)[k]? = some (pc, .ifCond .le off, 3)) (hp : pc + 3 = pc') (ht : (pc : Int) + off = (tgt : Int)) (kt : x ≤ 0 → V G Y tgt ls st u c0 s0 Q QX) (kf : ¬ x ≤ 0 → V G Y pc' ls st u c0 s0 Q QX) : V G Y pc ls (.int x :: st) u c0 s0 Q QX := by
  subst hp
  exact fun p e s m args below meth c C H locs arr hH hS hl hz => lv_if_le (cxx C) (cxb C) (cxd C hd) ht (fun h => kt h p e s m args below meth c C H locs arr hH hS hl hz) (fun h => kf h p e s m args below meth c C H locs arr hH hS hl hz)
theorem v_icmp_le (k : Nat) {x y : Int32} {off : Int} {tgt : Nat} (hd : (yP Y)[k]? = some (pc, .if_icmp .le off, 3)) (hp : pc + 3 = pc') (ht : (pc : Int) + off = (tgt : Int)) (kt : x ≤ y → V G Y tgt ls st u c0 s0 Q QX) (kf : ¬ x ≤ y → V G Y pc' ls st u c0 s0 Q QX) : V G Y pc ls (.int y :: .int x :: st) u c0 s0 Q QX := by
  subst hp
  exact fun p e s m args below meth c C H locs arr hH hS hl hz => lv_icmp_le (cxx C) (cxb C) (cxd C hd) ht (fun h => kt h p e s m args below meth c C H locs arr hH hS hl hz) (fun h => kf h p e s m args below meth c C H locs arr hH hS hl hz)
theorem v_goto (k : Nat) {off : Int} {tgt : Nat} (hd : (yP Y)[k]? = some (pc, .goto off, 3)) (ht : (pc : Int) + off = (tgt : Int)) (kk : V G Y tgt ls st u c0 s0 Q QX) : V G Y pc ls st u c0 s0 Q QX :=
  fun p e s m args below meth c C H locs arr hH hS hl hz => lv_goto (cxx C) (cxb C) (cxd C hd) ht (kk p e s m args below meth c C H locs arr hH hS hl hz)
theorem v_tsOut (k : Nat) {dflt lo hi : Int} {offs : Array Int} {len : Nat} {x : Int32} {tgt : Nat} (hd : (yP Y)[k]? = some (pc, .tableswitch dflt lo hi offs, len)) (h : x.toInt < lo ∨ hi < x.toInt) (ht : (pc : Int) + dflt = (tgt : Int)) (kk : V G Y tgt ls st u c0 s0 Q QX) : V G Y pc ls (.int x :: st) u c0 s0 Q QX :=
  fun p e s m args below meth c C H locs arr hH hS hl hz => lv_tableOut (cxx C) (cxb C) (cxd C hd) h ht (kk p e s m args below meth c C H locs arr hH hS hl hz)
theorem v_tsIn (k : Nat) {dflt lo hi : Int} {offs : Array Int} {len : Nat} {x : Int32} {off : Int} {tgt : Nat} (hd : (yP Y)[k]? = some (pc, .tableswitch dflt lo hi offs, len)) (h1 : ¬ x.toInt < lo) (h2 : ¬ hi < x.toInt) (ho : offs[(x.toInt - lo).toNat]? = some off) (ht : (pc : Int) + off = (tgt : Int)) (kk : V G Y tgt ls st u c0 s0 Q QX) : V G Y pc ls (.int x :: st) u c0 s0 Q QX :=
  fun p e s m args below meth c C H locs arr hH hS hl hz => lv_tableIn (cxx C) (cxb C) (cxd C hd) h1 h2 ho ht (kk p e s m args below meth c C H locs arr hH hS hl hz)
theorem lgc_eq {x y : Int64} : lg_cmp x y = 0 ↔ x = y := by
  unfold lg_cmp
  by_cases h1 : x > y
  · rw [if_pos h1]
    exact ⟨fun q => absurd q (by decide), fun q => absurd (q ▸ h1 : x > x) Int64.lt_irrefl⟩
  · rw [if_neg h1]
    by_cases h2 : x = y
    · rw [if_pos h2]; exact ⟨fun _ => h2, fun _ => rfl⟩
    · rw [if_neg h2]; exact ⟨fun q => absurd q (by decide), fun q => absurd q h2⟩
theorem lgc_lt {x y : Int64} : lg_cmp x y < 0 ↔ x < y := by
  unfold lg_cmp
  by_cases h1 : x > y
  · rw [if_pos h1]
    exact ⟨fun q => absurd q (by decide), fun q => absurd (Int64.lt_trans q h1) Int64.lt_irrefl⟩
  · rw [if_neg h1]
    by_cases h2 : x = y
    · rw [if_pos h2]; subst h2; exact ⟨fun q => absurd q (by decide), fun q => absurd q Int64.lt_irrefl⟩
    · rw [if_neg h2]
      refine ⟨fun _ => ?_, fun _ => by decide⟩
      exact Int64.lt_of_le_of_ne (Int64.not_lt.mp h1) h2
theorem lgc_gt {x y : Int64} : 0 < lg_cmp x y ↔ y < x := by
  unfold lg_cmp
  by_cases h1 : x > y
  · rw [if_pos h1]
    exact ⟨fun _ => h1, fun _ => by decide⟩
  · rw [if_neg h1]
    by_cases h2 : x = y
    · rw [if_pos h2]; exact ⟨fun q => absurd q (by decide), fun q => absurd q h1⟩
    · rw [if_neg h2]; exact ⟨fun q => absurd q (by decide), fun q => absurd q h1⟩
theorem lgc_ge {x y : Int64} : 0 ≤ lg_cmp x y ↔ y ≤ x := by
  rw [← Int32.not_lt, ← Int64.not_lt, lgc_lt]
theorem lgc_le {x y : Int64} : lg_cmp x y ≤ 0 ↔ x ≤ y := by
  rw [← Int32.not_lt, ← Int64.not_lt, lgc_gt]
theorem v_lc_eq (k k2 : Nat) {x y : Int64} {off : Int} {tgt : Nat} (hd : (yP Y)[k]? = some (pc, .lcmp, 1)) (hd2 : (yP Y)[k2]? = some (pc + 1, .ifCond .eq off, 3)) (hp : pc + 1 + 3 = pc') (ht : ((pc + 1 : Nat) : Int) + off = (tgt : Int)) (kt : x = y → V G Y tgt ls st u c0 s0 Q QX) (kf : ¬ x = y → V G Y pc' ls st u c0 s0 Q QX) : V G Y pc ls (.long y :: .long x :: st) u c0 s0 Q QX :=
  v_lcmp k hd rfl (v_if_eq k2 hd2 hp ht (fun h => kt (lgc_eq.mp h)) (fun h => kf (fun q => h (lgc_eq.mpr q))))
theorem v_lc_ne (k k2 : Nat) {x y : Int64} {off : Int} {tgt : Nat} (hd : (yP Y)[k]? = some (pc, .lcmp, 1)) (hd2 : (yP Y)[k2]? = some (pc + 1, .ifCond .ne off, 3)) (hp : pc + 1 + 3 = pc') (ht : ((pc + 1 : Nat) : Int) + off = (tgt : Int)) (kt : ¬ x = y → V G Y tgt ls st u c0 s0 Q QX) (kf : x = y → V G Y pc' ls st u c0 s0 Q QX) : V G Y pc ls (.long y :: .long x :: st) u c0 s0 Q QX :=
  v_lcmp k hd rfl (v_if_ne k2 hd2 hp ht (fun h => kt (fun q => h (lgc_eq.mpr q))) (fun h => kf (lgc_eq.mp h)))
theorem v_lc_lt (k k2 : Nat) {x y : Int64} {off : Int} {tgt : Nat} (hd : (yP Y)[k]? = some (pc, .lcmp, 1)) (hd2 : (yP Y)[k2]? = some (pc + 1, .ifCond .lt off, 3)) (hp : pc + 1 + 3 = pc') (ht : ((pc + 1 : Nat) : Int) + off = (tgt : Int)) (kt : x < y → V G Y tgt ls st u c0 s0 Q QX) (kf : ¬ x < y → V G Y pc' ls st u c0 s0 Q QX) : V G Y pc ls (.long y :: .long x :: st) u c0 s0 Q QX :=
  v_lcmp k hd rfl (v_if_lt k2 hd2 hp ht (fun h => kt (lgc_lt.mp h)) (fun h => kf (fun q => h (lgc_lt.mpr q))))
theorem v_lc_ge (k k2 : Nat) {x y : Int64} {off : Int} {tgt : Nat} (hd : (yP Y)[k]? = some (pc, .lcmp, 1)) (hd2 : (yP Y)[k2]? = some (pc + 1, .ifCond .ge off, 3)) (hp : pc + 1 + 3 = pc') (ht : ((pc + 1 : Nat) : Int) + off = (tgt : Int)) (kt : y ≤ x → V G Y tgt ls st u c0 s0 Q QX) (kf : ¬ y ≤ x → V G Y pc' ls st u c0 s0 Q QX) : V G Y pc ls (.long y :: .long x :: st) u c0 s0 Q QX :=
  v_lcmp k hd rfl (v_if_ge k2 hd2 hp ht (fun h => kt (lgc_ge.mp h)) (fun h => kf (fun q => h (lgc_ge.mpr q))))
theorem v_lc_gt (k k2 : Nat) {x y : Int64} {off : Int} {tgt : Nat} (hd : (yP Y)[k]? = some (pc, .lcmp, 1)) (hd2 : (yP Y)[k2]? = some (pc + 1, .ifCond .gt off, 3)) (hp : pc + 1 + 3 = pc') (ht : ((pc + 1 : Nat) : Int) + off = (tgt : Int)) (kt : y < x → V G Y tgt ls st u c0 s0 Q QX) (kf : ¬ y < x → V G Y pc' ls st u c0 s0 Q QX) : V G Y pc ls (.long y :: .long x :: st) u c0 s0 Q QX :=
  v_lcmp k hd rfl (v_if_gt k2 hd2 hp ht (fun h => kt (lgc_gt.mp h)) (fun h => kf (fun q => h (lgc_gt.mpr q))))
theorem v_lc_le (k k2 : Nat) {x y : Int64} {off : Int} {tgt : Nat} (hd : (yP Y)[k]? = some (pc, .lcmp, 1)) (hd2 : (yP Y)[k2]? = some (pc + 1, .ifCond .le off, 3)) (hp : pc + 1 + 3 = pc') (ht : ((pc + 1 : Nat) : Int) + off = (tgt : Int)) (kt : x ≤ y → V G Y tgt ls st u c0 s0 Q QX) (kf : ¬ x ≤ y → V G Y pc' ls st u c0 s0 Q QX) : V G Y pc ls (.long y :: .long x :: st) u c0 s0 Q QX :=
  v_lcmp k hd rfl (v_if_le k2 hd2 hp ht (fun h => kt (lgc_le.mp h)) (fun h => kf (fun q => h (lgc_le.mpr q))))
end VR
end
section
section VR2
variable {G : GT} {Y : MT} {pc pc' : Nat} {ls ls' : List (Nat × Value)} {st : List Value} {u : MU} {c0 s0 : Nat} {Q : Option Value → MU → Prop} {QX : String → MU → Prop}
def remI (x y : Int32) : Int32 := x - x / y * y
theorem v_idiv (k : Nat) {x y : Int32} (hd : (yP Y)[k]? = some (pc, .idiv, 1)) (hp : pc + 1 = pc') (hne : ¬ y = 0) (kk : V G Y pc' ls (.int (x / y) :: st) u c0 s0 Q QX) : V G Y pc ls (.int y :: .int x :: st) u c0 s0 Q QX := by
  subst hp
  exact fun p e s m args below meth c C H locs arr hH hS hl hz => lv_idiv (cxx C) (cxb C) (cxd C hd) hne (kk p e s m args below meth c C H locs arr hH hS hl hz)
theorem v_irem (k : Nat) {x y : Int32} (hd : (yP Y)[k]? = some (pc, .irem, 1)) (hp : pc + 1 = pc') (hne : ¬ y = 0) (kk : V G Y pc' ls (.int (remI x y) :: st) u c0 s0 Q QX) : V G Y pc ls (.int y :: .int x :: st) u c0 s0 Q QX := by
  subst hp
  exact fun p e s m args below meth c C H locs arr hH hS hl hz => lv_irem (cxx C) (cxb C) (cxd C hd) hne (kk p e s m args below meth c C H locs arr hH hS hl hz)
theorem v_ineg (k : Nat) {x : Int32} (hd : (yP Y)[k]? = some (pc, .ineg, 1)) (hp : pc + 1 = pc') (kk : V G Y pc' ls (.int (-x) :: st) u c0 s0 Q QX) : V G Y pc ls (.int x :: st) u c0 s0 Q QX := by
  subst hp
  exact fun p e s m args below meth c C H locs arr hH hS hl hz => lv_ineg (cxx C) (cxb C) (cxd C hd) (kk p e s m args below meth c C H locs arr hH hS hl hz)
end VR2
end
section
def FL (own : String) (idx ci j ty : Nat) (fin : Bool) : Prop := ∃ (C : String) (T : u_T) (N : Nat), clz[ci]? = some (C, T, N) ∧ j < N ∧ Cond.fieldLink own idx (T j).1 (T j).2.1 (T j).2.2.1 ∈ GW ∧ FTY ci j = ty ∧ (T j).2.2.2 = fin
section VF
variable {G : GT} {Y : MT} {pc pc' : Nat} {ls ls' : List (Nat × Value)} {st : List Value} {u : MU} {c0 s0 : Nat} {Q : Option Value → MU → Prop} {QX : String → MU → Prop}
variable {I : Nat → Nat → Int32} {L : Nat → Nat → Int64} {R : Nat → Nat → Option Nat} {nx : Nat}
theorem cl_nf {ci : Nat} {C : String} {T : u_T} {N : Nat} (h : clz[ci]? = some (C, T, N)) : NF ci = N := (cl_ok ci C T N h).choose_spec.2.1
theorem cl_20 {ci : Nat} {C : String} {T : u_T} {N : Nat} (h : clz[ci]? = some (C, T, N)) : ci < 20 := (cl_ok ci C T N h).choose_spec.2.2.2.2.2
theorem v_get {v : Value} (k : Nat) {idx a ci j ty : Nat} {fin : Bool} (hd : (yP Y)[k]? = some (pc, .getfield idx, 3)) (hp : pc + 3 = pc') (hf : FL (yN Y).cls idx ci j ty fin) (ha : LAY a = ci) (hx : ST a u.2.2.2) (hv : cv G v = fvl G u a j ty) (kk : V G Y pc' ls (v :: st) u c0 s0 Q QX) : V G Y pc ls (.ref a :: st) u c0 s0 Q QX := by
  subst hp
  obtain ⟨C9, T, N, h1, h2, h3, h4, h5⟩ := hf
  intro p e s m args below meth c C H locs arr hH hS hl hz
  have h457 : a < 457 := st_r hx hH.2
  have hc2 : cv G (.ref a) = .ref (g0 G + PO a) := by simp [cv, AD_in G h457]
  show W _ _ _ _ _ _ _ _ _ _ _ _ _ _ _ (F0 m pc arr (cv G (.ref a) :: st.map (cv G)))
  rw [hc2]
  have he : (wl G u)[PO a]? = some (g0 G + PO a, .inr (ci, fsl G u a ci)) := by rw [wl_get G u hx, cel_obj ha (cl_20 h1)]
  have hg : (fsl G u a ci)[j]? = some (cv G v) := by rw [fsl_get (by rw [cl_nf h1]; exact h2), h4, hv]
  exact va_get (cxx C) (cxb C) (cxw C) (cl_in h1) (cxo C) (cxk C).1 hH.1 (PO a) he h1 j h2 (cxw C _ h3) (fun _ h9 => h9) hg (cxd C hd) (kk p e s m args below meth c C H locs arr hH hS hl hz)
theorem v_getI (k : Nat) {idx a ci j : Nat} {fin : Bool} (hd : (yP Y)[k]? = some (pc, .getfield idx, 3)) (hp : pc + 3 = pc') (hf : FL (yN Y).cls idx ci j 0 fin) (ha : LAY a = ci) (hx : ST a nx) (kk : V G Y pc' ls (.int (I a j) :: st) (I, L, R, nx) c0 s0 Q QX) : V G Y pc ls (.ref a :: st) (I, L, R, nx) c0 s0 Q QX :=
  v_get (v := .int (I a j)) k hd hp hf ha hx rfl kk
theorem v_getZ (k : Nat) {idx a ci j : Nat} {fin : Bool} (hd : (yP Y)[k]? = some (pc, .getfield idx, 3)) (hp : pc + 3 = pc') (hf : FL (yN Y).cls idx ci j 2 fin) (ha : LAY a = ci) (hx : ST a nx) (kk : V G Y pc' ls (.int (I a j) :: st) (I, L, R, nx) c0 s0 Q QX) : V G Y pc ls (.ref a :: st) (I, L, R, nx) c0 s0 Q QX :=
  v_get (v := .int (I a j)) k hd hp hf ha hx rfl kk
theorem v_getL (k : Nat) {idx a ci j : Nat} {fin : Bool} (hd : (yP Y)[k]? = some (pc, .getfield idx, 3)) (hp : pc + 3 = pc') (hf : FL (yN Y).cls idx ci j 1 fin) (ha : LAY a = ci) (hx : ST a nx) (kk : V G Y pc' ls (.long (L a j) :: st) (I, L, R, nx) c0 s0 Q QX) : V G Y pc ls (.ref a :: st) (I, L, R, nx) c0 s0 Q QX :=
  v_get (v := .long (L a j)) k hd hp hf ha hx rfl kk
theorem v_getR (k : Nat) {idx a ci j t : Nat} {fin : Bool} (hd : (yP Y)[k]? = some (pc, .getfield idx, 3)) (hp : pc + 3 = pc') (hf : FL (yN Y).cls idx ci j 3 fin) (ha : LAY a = ci) (hx : ST a nx) (hr : R a j = some t) (kk : V G Y pc' ls (.ref t :: st) (I, L, R, nx) c0 s0 Q QX) : V G Y pc ls (.ref a :: st) (I, L, R, nx) c0 s0 Q QX :=
  v_get (v := .ref t) k hd hp hf ha hx (by simp [fvl, hr, cv, va_rf]) kk
/-- a field is written -/
theorem v_put0 {v : Value} {u' : MU} (k : Nat) {idx a ci j ty : Nat} {fin : Bool} (hd : (yP Y)[k]? = some (pc, .putfield idx, 3)) (hp : pc + 3 = pc') (hf : FL (yN Y).cls idx ci j ty fin) (hfin : fin = true → (yN Y).name = "<init>" ∧ ∀ C9 T9 N9, clz[ci]? = some (C9, T9, N9) → (T9 j).1 = (yN Y).cls) (ha : LAY a = ci) (hx : ST a u.2.2.2)
    (hnx : u'.2.2.2 = u.2.2.2) (hv : fvl G u' a j ty = cv G v) (ho : ∀ i t, i ≠ j → fvl G u' a i t = fvl G u a i t) (ho2 : ∀ b, b ≠ a → cel G u' b = cel G u b) (hty : ∀ t0 : FieldType, okty ty t0 = true → narrow t0 (cv G v) = cv G v ∧ fits t0 (cv G v) = true) (kk : V G Y pc' ls st u' c0 s0 Q QX) : V G Y pc ls (v :: .ref a :: st) u c0 s0 Q QX := by
  subst hp
  obtain ⟨C9, T, N, h1, h2, h3, h4, h5⟩ := hf
  intro p e s m args below meth c C H locs arr hH hS hl hz
  have h457 : a < 457 := st_r hx hH.2
  have hc2 : cv G (.ref a) = .ref (g0 G + PO a) := by simp [cv, AD_in G h457]
  show W _ _ _ _ _ _ _ _ _ _ _ _ _ _ _ (F0 m pc arr (cv G v :: cv G (.ref a) :: st.map (cv G)))
  rw [hc2]
  have he : (wl G u)[PO a]? = some (g0 G + PO a, .inr (ci, fsl G u a ci)) := by rw [wl_get G u hx, cel_obj ha (cl_20 h1)]
  obtain ⟨ty0, k1, k2, k3, k4, k5, k6⟩ := cl_ok ci C9 T N h1
  obtain ⟨t1, t2⟩ := hty (ty0 j) (by rw [← h4]; exact k5 j h2)
  have hlen : j < (fsl G u a ci).length := by rw [fsl_len, k2]; exact h2
  have hset : (wl G u).set (PO a) (g0 G + PO a, .inr (ci, (fsl G u a ci).set j (cv G v))) = wl G u' := by
    have e1 : (fsl G u a ci).set j (cv G v) = fsl G u' a ci := fsl_set (by rw [h4]; exact hv) (fun i hi => ho i _ hi)
    rw [e1, ← cel_obj ha (cl_20 h1)]
    exact wl_set G hnx ho2
  cases fin with
  | false =>
    refine va_put (cxx C) (cxb C) (cxw C) (cl_in h1) ty0 k3 k4 (cxo C) (cxk C).1 hH.1 (wl_D G u) hS (PO a) he h1 j h2 (cxw C _ h3) (fun _ h9 => h9) h5 (k3 j h2) t1 t2 hlen (cxd C hd) (fun H1 locs1 hP hD hS1 => ?_)
    rw [hset] at hP
    exact kk p e s m args below meth c C H1 locs1 arr ⟨hP, by rw [hnx]; exact hH.2⟩ hS1 hl (fun q => by rw [hnx]; exact hz (by rw [← hnx]; exact q))
  | true =>
    refine va_putF (cxx C) (cxb C) (cxw C) (cl_in h1) ty0 k3 k4 (cxo C) (cxk C).1 hH.1 (wl_D G u) hS (PO a) he h1 j h2 (cxw C _ h3) (fun _ h9 => h9) h5 ((cxi C).trans (hfin rfl).1) ((hfin rfl).2 _ _ _ h1) (k3 j h2) t1 t2 hlen (cxd C hd) (fun H1 locs1 hP hD hS1 => ?_)
    rw [hset] at hP
    exact kk p e s m args below meth c C H1 locs1 arr ⟨hP, by rw [hnx]; exact hH.2⟩ hS1 hl (fun q => by rw [hnx]; exact hz (by rw [← hnx]; exact q))
theorem up2_row {α : Type} {f : Nat → Nat → α} {k j b : Nat} {x : α} (h : b ≠ k) : up2 f k j x b = f b := funext fun i => up2_n (Or.inl h)
theorem v_putI {x : Int32} (k : Nat) {idx a ci j : Nat} {fin : Bool} (hd : (yP Y)[k]? = some (pc, .putfield idx, 3)) (hp : pc + 3 = pc') (hf : FL (yN Y).cls idx ci j 0 fin) (hfin : fin = true → (yN Y).name = "<init>" ∧ ∀ C9 T9 N9, clz[ci]? = some (C9, T9, N9) → (T9 j).1 = (yN Y).cls) (ha : LAY a = ci) (hx : ST a nx) (kk : V G Y pc' ls st (up2 I a j x, L, R, nx) c0 s0 Q QX) : V G Y pc ls (.int x :: .ref a :: st) (I, L, R, nx) c0 s0 Q QX := by
  refine v_put0 (v := .int x) (u' := (up2 I a j x, L, R, nx)) k hd hp hf hfin ha hx rfl (by simp [fvl, up2_s, cv]) (fun i t hi => ?_) (fun b hb => cel_same (up2_row hb) rfl rfl) (fun t0 h => by rw [okty0 h]; exact ⟨rfl, rfl⟩) kk
  simp [fvl, up2_n (Or.inr hi)]
theorem v_putZ {x : Int32} (k : Nat) {idx a ci j : Nat} {fin : Bool} (hd : (yP Y)[k]? = some (pc, .putfield idx, 3)) (hp : pc + 3 = pc') (hf : FL (yN Y).cls idx ci j 2 fin) (hfin : fin = true → (yN Y).name = "<init>" ∧ ∀ C9 T9 N9, clz[ci]? = some (C9, T9, N9) → (T9 j).1 = (yN Y).cls) (ha : LAY a = ci) (hx : ST a nx) (hb : x = 0 ∨ x = 1) (kk : V G Y pc' ls st (up2 I a j x, L, R, nx) c0 s0 Q QX) : V G Y pc ls (.int x :: .ref a :: st) (I, L, R, nx) c0 s0 Q QX := by
  refine v_put0 (v := .int x) (u' := (up2 I a j x, L, R, nx)) k hd hp hf hfin ha hx rfl (by simp [fvl, up2_s, cv]) (fun i t hi => ?_) (fun b hb => cel_same (up2_row hb) rfl rfl) (fun t0 h => by rw [okty2 h]; rcases hb with rfl | rfl <;> exact ⟨rfl, rfl⟩) kk
  simp [fvl, up2_n (Or.inr hi)]
theorem v_putL {x : Int64} (k : Nat) {idx a ci j : Nat} {fin : Bool} (hd : (yP Y)[k]? = some (pc, .putfield idx, 3)) (hp : pc + 3 = pc') (hf : FL (yN Y).cls idx ci j 1 fin) (hfin : fin = true → (yN Y).name = "<init>" ∧ ∀ C9 T9 N9, clz[ci]? = some (C9, T9, N9) → (T9 j).1 = (yN Y).cls) (ha : LAY a = ci) (hx : ST a nx) (kk : V G Y pc' ls st (I, up2 L a j x, R, nx) c0 s0 Q QX) : V G Y pc ls (.long x :: .ref a :: st) (I, L, R, nx) c0 s0 Q QX := by
  refine v_put0 (v := .long x) (u' := (I, up2 L a j x, R, nx)) k hd hp hf hfin ha hx rfl (by simp [fvl, up2_s, cv]) (fun i t hi => ?_) (fun b hb => cel_same rfl (up2_row hb) rfl) (fun t0 h => by rw [okty1 h]; exact ⟨rfl, rfl⟩) kk
  simp [fvl, up2_n (Or.inr hi)]
theorem v_putR {x : Nat} (k : Nat) {idx a ci j : Nat} {fin : Bool} (hd : (yP Y)[k]? = some (pc, .putfield idx, 3)) (hp : pc + 3 = pc') (hf : FL (yN Y).cls idx ci j 3 fin) (hfin : fin = true → (yN Y).name = "<init>" ∧ ∀ C9 T9 N9, clz[ci]? = some (C9, T9, N9) → (T9 j).1 = (yN Y).cls) (ha : LAY a = ci) (hx : ST a nx) (kk : V G Y pc' ls st (I, L, up2 R a j (some x), nx) c0 s0 Q QX) : V G Y pc ls (.ref x :: .ref a :: st) (I, L, R, nx) c0 s0 Q QX := by
  refine v_put0 (v := .ref x) (u' := (I, L, up2 R a j (some x), nx)) k hd hp hf hfin ha hx rfl (by simp [fvl, up2_s, cv, va_rf]) (fun i t hi => ?_) (fun b hb => cel_same rfl rfl (up2_row hb)) (fun t0 h => (okty3 h).2 (some (AD G x))) kk
  simp [fvl, up2_n (Or.inr hi)]
end VF
end
section
section VA
variable {G : GT} {Y : MT} {pc pc' : Nat} {ls ls' : List (Nat × Value)} {st : List Value} {u : MU} {c0 s0 : Nat} {Q : Option Value → MU → Prop} {QX : String → MU → Prop}
variable {I : Nat → Nat → Int32} {L : Nat → Nat → Int64} {R : Nat → Nat → Option Nat} {nx : Nat}
theorem tys_get (G : GT) {t : Nat} (h : t < 8) : (tysG G)[t]? = some (gA G t, aty t) := by simp [tysG, List.getElem?_map, List.getElem?_range h]
theorem HS.same {G : GT} {u u' : MU} {H1 : Heap} (h : HS G u H1 ∨ NK u.2.2.2) (hn : u'.2.2.2 = u.2.2.2) (hP : va_P (gC G, gI G) clz (wl G u') H1) : HS G u' H1 := ⟨hP, by rw [hn]; exact h.elim (fun q => q.2) id⟩
theorem cv_ref {G : GT} {u : MU} {H : Heap} (hH : HS G u H) {a : Nat} (hx : ST a u.2.2.2) : cv G (.ref a) = .ref (g0 G + PO a) := by simp [cv, AD_in G (st_r hx hH.2)]
theorem wl_arr {G : GT} {u : MU} {a t : Nat} (hx : ST a u.2.2.2) (ha : LAY a = 20 + t) : (wl G u)[PO a]? = some (g0 G + PO a, .inl (gA G t, LEN a, dta G u a t)) := by rw [wl_get G u hx, cel_arr ha]

theorem v_iald (k : Nat) {i : Int32} {a n : Nat} (hd : (yP Y)[k]? = some (pc, .iaload, 1)) (hp : pc + 1 = pc') (ha : LAY a = 20) (hn : LEN a = n) (hx : ST a nx) (hi : vp_in i n) {j : Nat} (hj : i.toNatClampNeg = j) (kk : V G Y pc' ls (.int (I a j) :: st) (I, L, R, nx) c0 s0 Q QX) : V G Y pc ls (.int i :: .ref a :: st) (I, L, R, nx) c0 s0 Q QX := by
  subst hj
  subst hp
  subst hn
  intro p e s m args below meth c C H locs arr hH hS hl hz
  show W _ _ _ _ _ _ _ _ _ _ _ _ _ _ _ (F0 m pc arr (.int i :: cv G (.ref a) :: st.map (cv G)))
  rw [cv_ref hH hx]
  exact va_iald (cxx C) (cxb C) (cxk C).1 hH.1 (PO a) 0 (wl_arr hx (t := 0) ha) (tys_get G (by decide)) hi (cxd C hd) (kk p e s m args below meth c C H locs arr hH hS hl hz)

theorem v_lald (k : Nat) {i : Int32} {a n : Nat} (hd : (yP Y)[k]? = some (pc, .laload, 1)) (hp : pc + 1 = pc') (ha : LAY a = 21) (hn : LEN a = n) (hx : ST a nx) (hi : vp_in i n) {j : Nat} (hj : i.toNatClampNeg = j) (kk : V G Y pc' ls (.long (L a j) :: st) (I, L, R, nx) c0 s0 Q QX) : V G Y pc ls (.int i :: .ref a :: st) (I, L, R, nx) c0 s0 Q QX := by
  subst hj
  subst hp
  subst hn
  intro p e s m args below meth c C H locs arr hH hS hl hz
  show W _ _ _ _ _ _ _ _ _ _ _ _ _ _ _ (F0 m pc arr (.int i :: cv G (.ref a) :: st.map (cv G)))
  rw [cv_ref hH hx]
  exact va_lald (cxx C) (cxb C) (cxk C).1 hH.1 (PO a) 1 (wl_arr hx (t := 1) ha) (tys_get G (by decide)) hi (cxd C hd) (kk p e s m args below meth c C H locs arr hH hS hl hz)

theorem v_bald (k : Nat) {i : Int32} {a n : Nat} (hd : (yP Y)[k]? = some (pc, .baload, 1)) (hp : pc + 1 = pc') (ha : LAY a = 22) (hn : LEN a = n) (hx : ST a nx) (hi : vp_in i n) {j : Nat} (hj : i.toNatClampNeg = j) (kk : V G Y pc' ls (.int (I a j) :: st) (I, L, R, nx) c0 s0 Q QX) : V G Y pc ls (.int i :: .ref a :: st) (I, L, R, nx) c0 s0 Q QX := by
  subst hj
  subst hp
  subst hn
  intro p e s m args below meth c C H locs arr hH hS hl hz
  show W _ _ _ _ _ _ _ _ _ _ _ _ _ _ _ (F0 m pc arr (.int i :: cv G (.ref a) :: st.map (cv G)))
  rw [cv_ref hH hx]
  exact va_bald (cxx C) (cxb C) (cxk C).1 hH.1 (PO a) 2 (wl_arr hx (t := 2) ha) (tys_get G (by decide)) hi (cxd C hd) (kk p e s m args below meth c C H locs arr hH hS hl hz)

theorem v_zald (k : Nat) {i : Int32} {a n : Nat} (hd : (yP Y)[k]? = some (pc, .baload, 1)) (hp : pc + 1 = pc') (ha : LAY a = 23) (hn : LEN a = n) (hx : ST a nx) (hi : vp_in i n) {j : Nat} (hj : i.toNatClampNeg = j) (kk : V G Y pc' ls (.int (I a j) :: st) (I, L, R, nx) c0 s0 Q QX) : V G Y pc ls (.int i :: .ref a :: st) (I, L, R, nx) c0 s0 Q QX := by
  subst hj
  subst hp
  subst hn
  intro p e s m args below meth c C H locs arr hH hS hl hz
  show W _ _ _ _ _ _ _ _ _ _ _ _ _ _ _ (F0 m pc arr (.int i :: cv G (.ref a) :: st.map (cv G)))
  rw [cv_ref hH hx]
  exact va_zald (cxx C) (cxb C) (cxk C).1 hH.1 (PO a) 3 (wl_arr hx (t := 3) ha) (tys_get G (by decide)) hi (cxd C hd) (kk p e s m args below meth c C H locs arr hH hS hl hz)

theorem v_aald4 (k : Nat) {i : Int32} {a n r : Nat} (hd : (yP Y)[k]? = some (pc, .aaload, 1)) (hp : pc + 1 = pc') (ha : LAY a = 24) (hn : LEN a = n) (hx : ST a nx) (hi : vp_in i n) {j : Nat} (hj : i.toNatClampNeg = j) (hr : R a j = some r) (kk : V G Y pc' ls (.ref r :: st) (I, L, R, nx) c0 s0 Q QX) : V G Y pc ls (.int i :: .ref a :: st) (I, L, R, nx) c0 s0 Q QX := by
  subst hj
  subst hp
  subst hn
  intro p e s m args below meth c C H locs arr hH hS hl hz
  show W _ _ _ _ _ _ _ _ _ _ _ _ _ _ _ (F0 m pc arr (.int i :: cv G (.ref a) :: st.map (cv G)))
  rw [cv_ref hH hx]
  have k2 := kk p e s m args below meth c C H locs arr hH hS hl hz
  refine va_aldq (cxx C) (cxb C) (cxk C).1 hH.1 (PO a) 4 (f := fun j => (R a j).map (AD G)) (wl_arr hx (t := 4) ha) (tys_get G (by decide)) hi (cxd C hd) ?_
  simp only [hr]
  exact k2

theorem v_aald5 (k : Nat) {i : Int32} {a n r : Nat} (hd : (yP Y)[k]? = some (pc, .aaload, 1)) (hp : pc + 1 = pc') (ha : LAY a = 25) (hn : LEN a = n) (hx : ST a nx) (hi : vp_in i n) {j : Nat} (hj : i.toNatClampNeg = j) (hr : R a j = some r) (kk : V G Y pc' ls (.ref r :: st) (I, L, R, nx) c0 s0 Q QX) : V G Y pc ls (.int i :: .ref a :: st) (I, L, R, nx) c0 s0 Q QX := by
  subst hj
  subst hp
  subst hn
  intro p e s m args below meth c C H locs arr hH hS hl hz
  show W _ _ _ _ _ _ _ _ _ _ _ _ _ _ _ (F0 m pc arr (.int i :: cv G (.ref a) :: st.map (cv G)))
  rw [cv_ref hH hx]
  have k2 := kk p e s m args below meth c C H locs arr hH hS hl hz
  refine va_aldq (cxx C) (cxb C) (cxk C).1 hH.1 (PO a) 5 (f := fun j => (R a j).map (AD G)) (wl_arr hx (t := 5) ha) (tys_get G (by decide)) hi (cxd C hd) ?_
  simp only [hr]
  exact k2

theorem v_aald6 (k : Nat) {i : Int32} {a n r : Nat} (hd : (yP Y)[k]? = some (pc, .aaload, 1)) (hp : pc + 1 = pc') (ha : LAY a = 26) (hn : LEN a = n) (hx : ST a nx) (hi : vp_in i n) {j : Nat} (hj : i.toNatClampNeg = j) (hr : R a j = some r) (kk : V G Y pc' ls (.ref r :: st) (I, L, R, nx) c0 s0 Q QX) : V G Y pc ls (.int i :: .ref a :: st) (I, L, R, nx) c0 s0 Q QX := by
  subst hj
  subst hp
  subst hn
  intro p e s m args below meth c C H locs arr hH hS hl hz
  show W _ _ _ _ _ _ _ _ _ _ _ _ _ _ _ (F0 m pc arr (.int i :: cv G (.ref a) :: st.map (cv G)))
  rw [cv_ref hH hx]
  have k2 := kk p e s m args below meth c C H locs arr hH hS hl hz
  have hlt : i.toNatClampNeg < LEN a := Nat.not_le.mp fun q => hi (Or.inr q)
  have hc := hH.1 (PO a) _ (wl_arr hx (t := 6) ha)
  refine W.aald (v := va_rf ((R a i.toNatClampNeg).map (AD G))) (ty := .array .int) (cxx C) (cxb C) hc (((cxk C).1.2 6 _ (tys_get G (by decide))).1 (LEN a) (fun j => va_rf ((R a j).map (AD G)))) rfl (fun q => by cases q) (by show ¬ (i < 0 ∨ (arrV _ _ _).slots.size ≤ _); rw [arrV_size]; exact hi) (by show (arrV _ _ _).slots[_]? = _; rw [arrV_read _ _ hlt]) rfl rfl (cxd C hd) ?_
  rw [hr]
  exact k2
theorem vp_lit {i : Int32} {n : Nat} (h : decide (¬ (i < 0 ∨ n ≤ i.toNatClampNeg)) = true) : vp_in i n := show ¬ (i < 0 ∨ n ≤ i.toNatClampNeg) from of_decide_eq_true h
theorem up2_self {α : Type} (f : Nat → Nat → α) (k j : Nat) (x : α) : up2 f k j x k = fun i => if i = j then x else f k i := by
  funext i
  simp [up2]

theorem v_iast (k : Nat) {i : Int32} {x : Int32} {a n : Nat} (hd : (yP Y)[k]? = some (pc, .iastore, 1)) (hp : pc + 1 = pc') (ha : LAY a = 20) (hn : LEN a = n) (hx : ST a nx) (hi : vp_in i n) {j : Nat} (hj : i.toNatClampNeg = j) (kk : V G Y pc' ls st (up2 I a j x, L, R, nx) c0 s0 Q QX) : V G Y pc ls (.int x :: .int i :: .ref a :: st) (I, L, R, nx) c0 s0 Q QX := by
  subst hj
  subst hp
  subst hn
  intro p e s m args below meth c C H locs arr hH hS hl hz
  show W _ _ _ _ _ _ _ _ _ _ _ _ _ _ _ (F0 m pc arr (.int x :: .int i :: cv G (.ref a) :: st.map (cv G)))
  rw [cv_ref hH hx]
  have hset : ∀ d, d = dta G (up2 I a i.toNatClampNeg x, L, R, nx) a 0 → (wl G (I, L, R, nx)).set (PO a) (g0 G + PO a, .inl (gA G 0, LEN a, d)) = wl G (up2 I a i.toNatClampNeg x, L, R, nx) := by
    intro d hd9
    rw [hd9, ← cel_arr ha]
    exact wl_set G rfl (fun b hb => cel_same (up2_row hb) rfl rfl)
  refine va_iast (cxx C) (cxb C) (cxk C).1 hH.1 (wl_D G _) hS (PO a) 0 (wl_arr hx (t := 0) ha) (tys_get G (by decide)) hi (cxd C hd) (fun H1 locs1 hP hD hS1 => ?_)
  rw [hset _ (by simp only [dta, up2_self]; rfl)] at hP
  exact kk p e s m args below meth c C H1 locs1 arr ⟨hP, hH.2⟩ hS1 hl hz

theorem v_last (k : Nat) {i : Int32} {x : Int64} {a n : Nat} (hd : (yP Y)[k]? = some (pc, .lastore, 1)) (hp : pc + 1 = pc') (ha : LAY a = 21) (hn : LEN a = n) (hx : ST a nx) (hi : vp_in i n) {j : Nat} (hj : i.toNatClampNeg = j) (kk : V G Y pc' ls st (I, up2 L a j x, R, nx) c0 s0 Q QX) : V G Y pc ls (.long x :: .int i :: .ref a :: st) (I, L, R, nx) c0 s0 Q QX := by
  subst hj
  subst hp
  subst hn
  intro p e s m args below meth c C H locs arr hH hS hl hz
  show W _ _ _ _ _ _ _ _ _ _ _ _ _ _ _ (F0 m pc arr (.long x :: .int i :: cv G (.ref a) :: st.map (cv G)))
  rw [cv_ref hH hx]
  have hset : ∀ d, d = dta G (I, up2 L a i.toNatClampNeg x, R, nx) a 1 → (wl G (I, L, R, nx)).set (PO a) (g0 G + PO a, .inl (gA G 1, LEN a, d)) = wl G (I, up2 L a i.toNatClampNeg x, R, nx) := by
    intro d hd9
    rw [hd9, ← cel_arr ha]
    exact wl_set G rfl (fun b hb => cel_same rfl (up2_row hb) rfl)
  refine va_last (cxx C) (cxb C) (cxk C).1 hH.1 (wl_D G _) hS (PO a) 1 (wl_arr hx (t := 1) ha) (tys_get G (by decide)) hi (cxd C hd) (fun H1 locs1 hP hD hS1 => ?_)
  rw [hset _ (by simp only [dta, up2_self]; rfl)] at hP
  exact kk p e s m args below meth c C H1 locs1 arr ⟨hP, hH.2⟩ hS1 hl hz

theorem v_bast (k : Nat) {i : Int32} {x : Int32} {a n : Nat} (hd : (yP Y)[k]? = some (pc, .bastore, 1)) (hp : pc + 1 = pc') (ha : LAY a = 22) (hn : LEN a = n) (hx : ST a nx) (hi : vp_in i n) {j : Nat} (hj : i.toNatClampNeg = j) (kk : V G Y pc' ls st (up2 I a j x.toInt8.toInt32, L, R, nx) c0 s0 Q QX) : V G Y pc ls (.int x :: .int i :: .ref a :: st) (I, L, R, nx) c0 s0 Q QX := by
  subst hj
  subst hp
  subst hn
  intro p e s m args below meth c C H locs arr hH hS hl hz
  show W _ _ _ _ _ _ _ _ _ _ _ _ _ _ _ (F0 m pc arr (.int x :: .int i :: cv G (.ref a) :: st.map (cv G)))
  rw [cv_ref hH hx]
  have hset : ∀ d, d = dta G (up2 I a i.toNatClampNeg x.toInt8.toInt32, L, R, nx) a 2 → (wl G (I, L, R, nx)).set (PO a) (g0 G + PO a, .inl (gA G 2, LEN a, d)) = wl G (up2 I a i.toNatClampNeg x.toInt8.toInt32, L, R, nx) := by
    intro d hd9
    rw [hd9, ← cel_arr ha]
    exact wl_set G rfl (fun b hb => cel_same (up2_row hb) rfl rfl)
  refine va_bast (cxx C) (cxb C) (cxk C).1 hH.1 (wl_D G _) hS (PO a) 2 (wl_arr hx (t := 2) ha) (tys_get G (by decide)) hi (cxd C hd) (fun H1 locs1 hP hD hS1 => ?_)
  rw [hset _ (by simp only [dta, up2_self]; rfl)] at hP
  exact kk p e s m args below meth c C H1 locs1 arr ⟨hP, hH.2⟩ hS1 hl hz

theorem v_zast (k : Nat) {i : Int32} {x : Int32} {a n : Nat} (hd : (yP Y)[k]? = some (pc, .bastore, 1)) (hp : pc + 1 = pc') (ha : LAY a = 23) (hn : LEN a = n) (hx : ST a nx) (hi : vp_in i n) {j : Nat} (hj : i.toNatClampNeg = j) (kk : V G Y pc' ls st (up2 I a j (x &&& 1), L, R, nx) c0 s0 Q QX) : V G Y pc ls (.int x :: .int i :: .ref a :: st) (I, L, R, nx) c0 s0 Q QX := by
  subst hj
  subst hp
  subst hn
  intro p e s m args below meth c C H locs arr hH hS hl hz
  show W _ _ _ _ _ _ _ _ _ _ _ _ _ _ _ (F0 m pc arr (.int x :: .int i :: cv G (.ref a) :: st.map (cv G)))
  rw [cv_ref hH hx]
  have hset : ∀ d, d = dta G (up2 I a i.toNatClampNeg (x &&& 1), L, R, nx) a 3 → (wl G (I, L, R, nx)).set (PO a) (g0 G + PO a, .inl (gA G 3, LEN a, d)) = wl G (up2 I a i.toNatClampNeg (x &&& 1), L, R, nx) := by
    intro d hd9
    rw [hd9, ← cel_arr ha]
    exact wl_set G rfl (fun b hb => cel_same (up2_row hb) rfl rfl)
  refine va_zast (cxx C) (cxb C) (cxk C).1 hH.1 (wl_D G _) hS (PO a) 3 (wl_arr hx (t := 3) ha) (tys_get G (by decide)) hi (cxd C hd) (fun H1 locs1 hP hD hS1 => ?_)
  rw [hset _ (by simp only [dta, up2_self]; rfl)] at hP
  exact kk p e s m args below meth c C H1 locs1 arr ⟨hP, hH.2⟩ hS1 hl hz

theorem v_iald7 (k : Nat) {i : Int32} {a n : Nat} (hd : (yP Y)[k]? = some (pc, .iaload, 1)) (hp : pc + 1 = pc') (ha : LAY a = 27) (hn : LEN a = n) (hx : ST a nx) (hi : vp_in i n) {j : Nat} (hj : i.toNatClampNeg = j) (kk : V G Y pc' ls (.int (I a j) :: st) (I, L, R, nx) c0 s0 Q QX) : V G Y pc ls (.int i :: .ref a :: st) (I, L, R, nx) c0 s0 Q QX := by
  subst hj
  subst hp
  subst hn
  intro p e s m args below meth c C H locs arr hH hS hl hz
  show W _ _ _ _ _ _ _ _ _ _ _ _ _ _ _ (F0 m pc arr (.int i :: cv G (.ref a) :: st.map (cv G)))
  rw [cv_ref hH hx]
  exact va_iald (cxx C) (cxb C) (cxk C).1 hH.1 (PO a) 7 (wl_arr hx (t := 7) ha) (tys_get G (by decide)) hi (cxd C hd) (kk p e s m args below meth c C H locs arr hH hS hl hz)
theorem v_iast7 (k : Nat) {i : Int32} {x : Int32} {a n : Nat} (hd : (yP Y)[k]? = some (pc, .iastore, 1)) (hp : pc + 1 = pc') (ha : LAY a = 27) (hn : LEN a = n) (hx : ST a nx) (hi : vp_in i n) {j : Nat} (hj : i.toNatClampNeg = j) (kk : V G Y pc' ls st (up2 I a j x, L, R, nx) c0 s0 Q QX) : V G Y pc ls (.int x :: .int i :: .ref a :: st) (I, L, R, nx) c0 s0 Q QX := by
  subst hj
  subst hp
  subst hn
  intro p e s m args below meth c C H locs arr hH hS hl hz
  show W _ _ _ _ _ _ _ _ _ _ _ _ _ _ _ (F0 m pc arr (.int x :: .int i :: cv G (.ref a) :: st.map (cv G)))
  rw [cv_ref hH hx]
  have hset : ∀ d, d = dta G (up2 I a i.toNatClampNeg x, L, R, nx) a 7 → (wl G (I, L, R, nx)).set (PO a) (g0 G + PO a, .inl (gA G 7, LEN a, d)) = wl G (up2 I a i.toNatClampNeg x, L, R, nx) := by
    intro d hd9
    rw [hd9, ← cel_arr ha]
    exact wl_set G rfl (fun b hb => cel_same (up2_row hb) rfl rfl)
  refine va_iast (cxx C) (cxb C) (cxk C).1 hH.1 (wl_D G _) hS (PO a) 7 (wl_arr hx (t := 7) ha) (tys_get G (by decide)) hi (cxd C hd) (fun H1 locs1 hP hD hS1 => ?_)
  rw [hset _ (by simp only [dta, up2_self]; rfl)] at hP
  exact kk p e s m args below meth c C H1 locs1 arr ⟨hP, hH.2⟩ hS1 hl hz
end VA
end
section
/-- all of a row anew -/
def clr {α : Type} (f : Nat → Nat → α) (k : Nat) (d : α) : Nat → Nat → α := fun a j => if a = k then d else f a j
theorem clr_s {α : Type} {f : Nat → Nat → α} {k j : Nat} {d : α} : clr f k d k j = d := by simp [clr]
theorem clr_n {α : Type} {f : Nat → Nat → α} {k a : Nat} {d : α} (h : a ≠ k) : clr f k d a = f a := by funext j; simp [clr, h]
theorem W.le {p : Program} {l : Launch} {e : Env} {R : Room} {s : State} {m : MethodId} {args : Array Value} {below : List Frame} {meth : Method} {c : Code} {H : Heap} {locs : List Loc} {cells slots : Nat} {Q : State → Prop} {g : JFrame} (k : H.size ≤ s.heap.size + cells → W p l e R s m args below meth c H locs cells slots Q g) : W p l e R s m args below meth c H locs cells slots Q g := by
  intro T hT X
  have h := X.heapSize
  rw [hT] at h
  exact k h T hT X
section VN
variable {G : GT} {Y : MT} {pc pc' : Nat} {ls ls' : List (Nat × Value)} {st : List Value} {u : MU} {c0 s0 : Nat} {Q : Option Value → MU → Prop} {QX : String → MU → Prop}
variable {I : Nat → Nat → Int32} {L : Nat → Nat → Int64} {R : Nat → Nat → Option Nat} {nx : Nat}
theorem nw_addr {G : GT} {u : MU} {q c0 : Nat} {e : va_E} {H1 : Heap} {s : State} (h4 : u.2.2.2 ≤ 454) (hP : va_P (gC G, gI G) clz (wl G u ++ [(q, e)]) H1) (hD : va_D (AA G) (wl G u ++ [(q, e)])) (hz : s.heap.size + c0 = g0 G + (u.2.2.2 + 2)) (hle : H1.size ≤ s.heap.size + (c0 + 1)) : q = g0 G + (u.2.2.2 + 2) := by
  have hsc : sc u.2.2.2 = u.2.2.2 + 2 := if_pos (by omega)
  have hlast : (wl G u ++ [(q, e)])[(wl G u).length]? = some (q, e) := by simp
  have h1 : q < H1.size := (hP _ _ hlast).lt
  have h2 : g0 G ≤ q := hD.2 _ _ hlast
  rcases Nat.lt_or_ge (q - g0 G) (sc u.2.2.2) with h | h
  · exfalso
    have h3 : (wl G u ++ [(q, e)])[q - g0 G]? = some (g0 G + (q - g0 G), cel G u (ID (q - g0 G))) := by
      rw [List.getElem?_append_left (by rw [wl_len]; exact h), wl_at G u h]
    have h4 := hD.1 _ _ _ _ h3 hlast (by show g0 G + (q - g0 G) = q; omega)
    rw [wl_len] at h4
    omega
  · omega
theorem wl_push {G : GT} {u u' : MU} {e : va_E} (h4 : u.2.2.2 ≤ 454) (hn : u'.2.2.2 = u.2.2.2 + 1) (ho : ∀ k, k ≠ ID (u.2.2.2 + 2) → cel G u' k = cel G u k) (he : cel G u' (ID (u.2.2.2 + 2)) = e) : wl G u ++ [(g0 G + (u.2.2.2 + 2), e)] = wl G u' := by
  have s1 : sc u.2.2.2 = u.2.2.2 + 2 := if_pos (by omega)
  have s2 : sc u'.2.2.2 = u.2.2.2 + 3 := by rw [hn]; exact if_pos (by omega)
  apply List.ext_getElem?
  intro i
  rcases Nat.lt_trichotomy i (u.2.2.2 + 2) with h | h | h
  · rw [List.getElem?_append_left (by rw [wl_len, s1]; exact h), wl_at G u (by rw [s1]; exact h), wl_at G u' (by rw [s2]; omega), ho _ (fun z => ?_)]
    have := congrArg PO z
    rw [po_id, po_id] at this
    omega
  · subst h
    rw [List.getElem?_append_right (by rw [wl_len, s1]; exact Nat.le_refl _), wl_len, s1, Nat.sub_self, wl_at G u' (by rw [s2]; omega), he]
    rfl
  · rw [List.getElem?_eq_none (by simp [wl_len, s1]; omega), List.getElem?_eq_none (by rw [wl_len, s2]; omega)]
theorem id_c {n : Nat} (h : n < 436) : ID (n + 2) = n := by unfold ID; rw [if_neg (by omega), if_pos (by omega)]; omega
theorem id_w {n : Nat} (h : 436 ≤ n) : ID (n + 2) = n + 2 := by unfold ID; rw [if_neg (by omega), if_neg (by omega)]
theorem po_c {n : Nat} (h : n < 436) : PO n = n + 2 := if_pos h
def nwu (I : Nat → Nat → Int32) (L : Nat → Nat → Int64) (R : Nat → Nat → Option Nat) (nx : Nat) : MU := (clr I nx 0, clr L nx 0, clr R nx none, nx + 1)
theorem nwu_cel {G : GT} {k : Nat} (h : k ≠ nx) : cel G (nwu I L R nx) k = cel G (I, L, R, nx) k := cel_same (clr_n h) (clr_n h) (clr_n h)
theorem v_new (k : Nat) {idx ci : Nat} {C9 : String} {T : u_T} {N : Nat} (hd : (yP Y)[k]? = some (pc, .new idx, 3)) (hp : pc + 3 = pc') (hcl : clz[ci]? = some (C9, T, N)) (hk : Cond.classLink (yN Y).cls idx C9 ∈ GW) (hin : Cond.instantiable C9 N ∈ GW) (hit : Cond.initialized C9 ∈ GW) (hlay : LAY nx = ci) (hx : nx < 436) (hc : c0 + 1 ≤ (yR Y).cells) (hs : s0 + N ≤ (yR Y).slots) (kk : V G Y pc' ls (.ref nx :: st) (nwu I L R nx) (c0 + 1) (s0 + N) Q QX) : V G Y pc ls st (I, L, R, nx) c0 s0 Q QX := by
  subst hp
  obtain ⟨ty0, k1, k2, k3, k4, k5, k6⟩ := cl_ok ci C9 T N hcl
  intro p e s m args below meth c C H locs arr hH hS hl hz
  have hdef : ∀ j, j < N → defaultValue (ty0 j) = vp_V (fsl G (nwu I L R nx) nx ci) j := by
    intro j hj
    have h1 : (fsl G (nwu I L R nx) nx ci)[j]? = some (fvl G (nwu I L R nx) nx j (FTY ci j)) := fsl_get (by rw [k2]; exact hj)
    have h2 := k5 j hj
    show _ = (fsl G (nwu I L R nx) nx ci).getD j .null
    rw [List.getD_eq_getElem?_getD, h1]
    show _ = fvl G (nwu I L R nx) nx j (FTY ci j)
    generalize FTY ci j = t at h2 ⊢
    match t, h2 with
    | 0, h2 => rw [okty0 h2]; simp [fvl, nwu, clr_s]; rfl
    | 1, h2 => rw [okty1 h2]; simp [fvl, nwu, clr_s]; rfl
    | 2, h2 => rw [okty2 h2]; simp [fvl, nwu, clr_s]; rfl
    | n + 3, h2 => rw [(okty3 (ty := ty0 j) h2).1]; simp [fvl, nwu, clr_s, va_rf]
  refine va_new (cxx C) (cxb C) (cxw C) (cl_in hcl) ty0 k3 (cxo C) (cxw C _ hk) (cxw C _ hin) (cxw C _ hit) (cxk C).1 hH.1 (wl_D G _) hS (fun q hq => Nat.le_trans (cxn C) hq) hcl hdef hc hs (cxd C hd) (fun q H1 hP hD hS1 => ?_)
  refine W.le (fun hle => ?_)
  have hq := nw_addr (show nx ≤ 454 by omega) hP hD (hz (show nx < 457 by omega)) hle
  rw [hq, wl_push (u' := nwu I L R nx) (show nx ≤ 454 by omega) rfl (fun b hb => nwu_cel (fun z => hb (by rw [z]; exact (id_c hx).symm))) (by show cel G (nwu I L R nx) (ID (nx + 2)) = _; rw [id_c hx]; exact cel_obj hlay k6)] at hP
  have k9 := kk p e s m args below meth c C H1 locs arr ⟨hP, Or.inl (show nx + 1 ≤ 455 by omega)⟩ hS1 hl (fun _ => by show s.heap.size + (c0 + 1) = g0 G + ((nx + 1) + 2); have h9 : s.heap.size + c0 = g0 G + (nx + 2) := hz (show nx < 457 by omega); omega)
  have hc2 : cv G (.ref nx) = .ref q := by rw [hq]; simp [cv, AD_in G (show nx < 457 by omega), po_c hx]
  rw [show ((Value.ref nx :: st).map (cv G)) = .ref q :: st.map (cv G) by simp [hc2]] at k9
  exact k9
theorem k_same {G : GT} {s : State} {cA : ClassId} {t : Nat} (hK : va_K (gC G, gI G) clz (tysG G) s) (ht : t < 8) (h : va_RA s cA (aty t)) : cA = gA G t := by
  have h2 := (hK.2 t _ (tys_get G ht)).2
  match t, ht, h, h2 with
  | 0, _, h, h2 => exact Option.some.inj (h.symm.trans h2)
  | 1, _, h, h2 => exact Option.some.inj (h.symm.trans h2)
  | 2, _, h, h2 => exact Option.some.inj (h.symm.trans h2)
  | 3, _, h, h2 => exact Option.some.inj (h.symm.trans h2)
  | 4, _, h, h2 =>
    obtain ⟨_, _, _, _, _, h3⟩ := h
    obtain ⟨_, _, _, _, _, h4⟩ := h2
    exact Option.some.inj (h3.symm.trans h4)
  | 5, _, h, h2 =>
    obtain ⟨_, _, _, _, _, h3⟩ := h
    obtain ⟨_, _, _, _, _, h4⟩ := h2
    exact Option.some.inj (h3.symm.trans h4)
  | 6, _, h, h2 => exact Option.some.inj (h.symm.trans h2)
  | 7, _, h, h2 => exact Option.some.inj (h.symm.trans h2)
theorem k_last {G : GT} {s : State} {cA : ClassId} {t : Nat} (hK : va_K (gC G, gI G) clz (tysG G ++ [(cA, aty t)]) s) (ht : t < 8) : cA = gA G t := by
  have h1 : (tysG G ++ [(cA, aty t)])[8]? = some (cA, aty t) := by simp [tysG]
  exact k_same (hK.sub (tys' := tysG G) [0, 1, 2, 3, 4, 5, 6, 7] (by simp [tysG, List.range, List.range.loop])) ht (hK.2 8 _ h1).2
/-- new int[n], long[n], byte[n], boolean[n] -/
theorem v_newa (k : Nat) {at9 : ArrayType} {t N : Nat} {n : Int32} (hd : (yP Y)[k]? = some (pc, .newarray at9, 2)) (hp : pc + 2 = pc') (ht : t < 4) (hat : newarray.typeOf at9 = aty t) (har : Cond.arrayClass (newarray.typeOf at9) ∈ GW) (hn : n = nI N) (hN : N ≤ 2410) (hlay : LAY nx = 20 + t) (hlen : LEN nx = N) (hx : nx < 436) (hc : c0 + 1 ≤ (yR Y).cells) (hs : s0 + N ≤ (yR Y).slots) (kk : V G Y pc' ls (.ref nx :: st) (nwu I L R nx) (c0 + 1) (s0 + N) Q QX) : V G Y pc ls (.int n :: st) (I, L, R, nx) c0 s0 Q QX := by
  subst hp
  subst hn
  intro p e s m args below meth c C H locs arr hH hS hl hz
  have hcell : ∀ cA : ClassId, vp_cell cA (N, dta G (nwu I L R nx) nx t) = arrV cA N (fun _ => defaultValue (aty t)) := by
    intro cA
    match t, ht with
    | 0, _ => simp only [dta, vp_cell_i, nwu]; congr 1; funext j; simp [clr_s, aty]; rfl
    | 1, _ => simp only [dta, vp_cell_l, nwu]; congr 1; funext j; simp [clr_s, aty]; rfl
    | 2, _ => simp only [dta, vp_cell_i, nwu]; congr 1; funext j; simp [clr_s, aty]; rfl
    | 3, _ => simp only [dta, vp_cell_i, nwu]; congr 1; funext j; simp [clr_s, aty]; rfl
  have hb9 : N * componentBytes (aty t) ≤ 536870912 := by
    have : componentBytes (aty t) ≤ 8 := by match t, ht with | 0, _ => decide | 1, _ => decide | 2, _ => decide | 3, _ => decide
    calc N * componentBytes (aty t) ≤ 2410 * 8 := Nat.mul_le_mul hN this
      _ ≤ 536870912 := by decide
  refine va_newa (cxx C) (cxb C) (cxw C _ har) hat (cxk C).1 hH.1 (wl_D G _) hS (fun q hq => Nat.le_trans (cxn C) hq) hcell (nI_pos (by omega)) (nI_clamp (by omega)) hb9 hc hs (cxd C hd) (fun q cA H1 hK2 hP hD hS1 => ?_)
  refine W.le (fun hle => ?_)
  have hq := nw_addr (show nx ≤ 454 by omega) hP hD (hz (show nx < 457 by omega)) hle
  have hcA := k_last hK2 (Nat.lt_trans ht (by decide))
  have hce : cel G (nwu I L R nx) nx = .inl (cA, N, dta G (nwu I L R nx) nx t) := by rw [cel_arr hlay, hlen, hcA]
  rw [hq, wl_push (u' := nwu I L R nx) (show nx ≤ 454 by omega) rfl (fun b hb => nwu_cel (fun z => hb (by rw [z]; exact (id_c hx).symm))) (by show cel G (nwu I L R nx) (ID (nx + 2)) = _; rw [id_c hx]; exact hce)] at hP
  have k9 := kk p e s m args below meth c C H1 locs arr ⟨hP, Or.inl (show nx + 1 ≤ 455 by omega)⟩ hS1 hl (fun _ => by show s.heap.size + (c0 + 1) = g0 G + ((nx + 1) + 2); have h9 : s.heap.size + c0 = g0 G + (nx + 2) := hz (show nx < 457 by omega); omega)
  have hc2 : cv G (.ref nx) = .ref q := by rw [hq]; simp [cv, AD_in G (show nx < 457 by omega), po_c hx]
  rw [show ((Value.ref nx :: st).map (cv G)) = .ref q :: st.map (cv G) by simp [hc2]] at k9
  exact k9
/-- a row that the law makes, behind the class's cells -/
def nwv (I : Nat → Nat → Int32) (L : Nat → Nat → Int64) (R : Nat → Nat → Option Nat) (nx : Nat) : MU := (clr I (nx + 2) 0, clr L (nx + 2) 0, clr R (nx + 2) none, nx + 1)
theorem nwv_cel {G : GT} {k : Nat} (h : k ≠ nx + 2) : cel G (nwv I L R nx) k = cel G (I, L, R, nx) k := cel_same (clr_n h) (clr_n h) (clr_n h)
theorem v_newa7 (k : Nat) {N : Nat} {n : Int32} (hd : (yP Y)[k]? = some (pc, .newarray .int, 2)) (hp : pc + 2 = pc') (har : Cond.arrayClass .int ∈ GW) (hn : n = nI N) (hN : N ≤ 2410) (hlay : LAY (nx + 2) = 27) (hlen : LEN (nx + 2) = N) (h1 : 436 ≤ nx) (h2 : nx ≤ 454) (hc : c0 + 1 ≤ (yR Y).cells) (hs : s0 + N ≤ (yR Y).slots) (kk : V G Y pc' ls (.ref (nx + 2) :: st) (nwv I L R nx) (c0 + 1) (s0 + N) Q QX) : V G Y pc ls (.int n :: st) (I, L, R, nx) c0 s0 Q QX := by
  subst hp
  subst hn
  intro p e s m args below meth c C H locs arr hH hS hl hz
  have hcell : ∀ cA : ClassId, vp_cell cA (N, dta G (nwv I L R nx) (nx + 2) 7) = arrV cA N (fun _ => defaultValue .int) := by
    intro cA
    simp only [dta, vp_cell_i, nwv]; congr 1; funext j; simp [clr_s]; rfl
  have hb9 : N * componentBytes .int ≤ 536870912 := by
    calc N * componentBytes .int ≤ 2410 * 8 := Nat.mul_le_mul hN (by decide)
      _ ≤ 536870912 := by decide
  refine va_newa (atype := .int) (cxx C) (cxb C) (cxw C _ har) rfl (cxk C).1 hH.1 (wl_D G _) hS (fun q hq => Nat.le_trans (cxn C) hq) hcell (nI_pos (by omega)) (nI_clamp (by omega)) hb9 hc hs (cxd C hd) (fun q cA H1 hK2 hP hD hS1 => ?_)
  refine W.le (fun hle => ?_)
  have hq := nw_addr (show nx ≤ 454 by omega) hP hD (hz (show nx < 457 by omega)) hle
  have hcA := k_last (t := 7) hK2 (by decide)
  have hce : cel G (nwv I L R nx) (nx + 2) = .inl (cA, N, dta G (nwv I L R nx) (nx + 2) 7) := by rw [cel_arr (t := 7) hlay, hlen, hcA]
  rw [hq, wl_push (u' := nwv I L R nx) (show nx ≤ 454 by omega) rfl (fun b hb => nwv_cel (fun z => hb (by rw [z]; exact (id_w h1).symm))) (by show cel G (nwv I L R nx) (ID (nx + 2)) = _; rw [id_w h1]; exact hce)] at hP
  have k9 := kk p e s m args below meth c C H1 locs arr ⟨hP, Or.inl (show nx + 1 ≤ 455 by omega)⟩ hS1 hl (fun _ => by show s.heap.size + (c0 + 1) = g0 G + ((nx + 1) + 2); have h9 : s.heap.size + c0 = g0 G + (nx + 2) := hz (show nx < 457 by omega); omega)
  have hpo : PO (nx + 2) = nx + 2 := by unfold PO; rw [if_neg (by omega), if_neg (by omega)]
  have hc2 : cv G (.ref (nx + 2)) = .ref q := by rw [hq]; simp [cv, AD_in G (show nx + 2 < 457 by omega), hpo]
  rw [show ((Value.ref (nx + 2) :: st).map (cv G)) = .ref q :: st.map (cv G) by simp [hc2]] at k9
  exact k9
/-- what stands beside the law's and the class's cells is let go -/
theorem HS.forget {G : GT} {H : Heap} {n : Nat} (h : HS G (I, L, R, n) H) (h1 : 436 ≤ n) : HS G (I, L, R, 457) H := by
  refine ⟨fun k q hk => ?_, Or.inr rfl⟩
  obtain ⟨hlt, rfl⟩ := wl_getI hk
  have hlt : k < 438 := hlt
  have h2 : (wl G (I, L, R, n))[k]? = some (g0 G + k, cel G (I, L, R, n) (ID k)) := wl_at G _ (by show k < sc n; unfold sc; split <;> omega)
  exact h.1 k _ h2
theorem v_forget {n : Nat} (h1 : 436 ≤ n) (kk : V G Y pc ls st (I, L, R, 457) c0 s0 Q QX) : V G Y pc ls st (I, L, R, n) c0 s0 Q QX :=
  fun p e s m args below meth c C H locs arr hH hS hl _ => kk p e s m args below meth c C H locs arr (hH.forget h1) hS hl (fun q => absurd q (Nat.lt_irrefl _))
/-- new State[n], new Dispute[n] -/
theorem v_newq (k : Nat) {idx t N : Nat} {C9 : String} {n : Int32} (hd : (yP Y)[k]? = some (pc, .anewarray idx, 3)) (hp : pc + 3 = pc') (ht : (t = 4 ∧ C9 = "GlitchCourt$State") ∨ (t = 5 ∧ C9 = "GlitchCourt$Dispute")) (hk : Cond.classLink (yN Y).cls idx C9 ∈ GW) (hn : n = nI N) (hN : N ≤ 2410) (hlay : LAY nx = 20 + t) (hlen : LEN nx = N) (hx : nx < 436) (hc : c0 + 1 ≤ (yR Y).cells) (hs : s0 + N ≤ (yR Y).slots) (kk : V G Y pc' ls (.ref nx :: st) (nwu I L R nx) (c0 + 1) (s0 + N) Q QX) : V G Y pc ls (.int n :: st) (I, L, R, nx) c0 s0 Q QX := by
  subst hp
  subst hn
  intro p e s m args below meth c C H locs arr hH hS hl hz
  have hov : va_AO C9 s := by
    rcases ht with ⟨-, rfl⟩ | ⟨-, rfl⟩
    · exact (cxk C).2.2.2.2.1
    · exact (cxk C).2.2.2.2.2.1
  have haty : aty t = .object C9 := by rcases ht with ⟨rfl, rfl⟩ | ⟨rfl, rfl⟩ <;> rfl
  have ht7 : t < 8 := by rcases ht with ⟨rfl, -⟩ | ⟨rfl, -⟩ <;> decide
  have hdt : dta G (nwu I L R nx) nx t = .inr (.inr (.inr (.inr (fun _ => none)))) := by
    rcases ht with ⟨rfl, -⟩ | ⟨rfl, -⟩ <;> simp [dta, nwu, clr_s]
  refine va_newq (cxx C) (cxb C) (cxo C) (cxw C _ hk) hov (cxk C).1 hH.1 (wl_D G _) hS (fun q hq => Nat.le_trans (cxn C) hq) (nI_pos (by omega)) (nI_clamp (by omega)) (by omega) hc hs (cxd C hd) (fun q cA H1 hK2 hP hD hS1 => ?_)
  refine W.le (fun hle => ?_)
  have hq := nw_addr (show nx ≤ 454 by omega) hP hD (hz (show nx < 457 by omega)) hle
  rw [← haty] at hK2
  have hcA := k_last hK2 ht7
  have hce : cel G (nwu I L R nx) nx = .inl (cA, N, .inr (.inr (.inr (.inr (fun _ => none))))) := by rw [cel_arr hlay, hlen, hcA, hdt]
  rw [hq, wl_push (u' := nwu I L R nx) (show nx ≤ 454 by omega) rfl (fun b hb => nwu_cel (fun z => hb (by rw [z]; exact (id_c hx).symm))) (by show cel G (nwu I L R nx) (ID (nx + 2)) = _; rw [id_c hx]; exact hce)] at hP
  have k9 := kk p e s m args below meth c C H1 locs arr ⟨hP, Or.inl (show nx + 1 ≤ 455 by omega)⟩ hS1 hl (fun _ => by show s.heap.size + (c0 + 1) = g0 G + ((nx + 1) + 2); have h9 : s.heap.size + c0 = g0 G + (nx + 2) := hz (show nx < 457 by omega); omega)
  have hc2 : cv G (.ref nx) = .ref q := by rw [hq]; simp [cv, AD_in G (show nx < 457 by omega), po_c hx]
  rw [show ((Value.ref nx :: st).map (cv G)) = .ref q :: st.map (cv G) by simp [hc2]] at k9
  exact k9
end VN
end
section
/-- where a call has thrown a thing of class E -/
def VX (G : GT) (Y : MT) (pc : Nat) (ls : List (Nat × Value)) (st : List Value) (E : String) (u : MU) (c0 s0 : Nat) (Q : Option Value → MU → Prop) (QX : String → MU → Prop) : Prop :=
  ∀ (p : Program) (e : Env) (s : State) (m : MethodId) (args : Array Value) (below : List Frame) (meth : Method) (c : Code), CX G Y p s m args meth c → ∀ (H : Heap) (locs : List Loc) (arr : Array Slot), HS G u H → va_S (AA G) s.heap H locs → lv_has arr (yM Y) (lcv G ls) →
    ∀ (q : Addr) (ce : Cell), H[q]? = some ce → ce.vm = .none → s.vm.findClass E = some ce.cls → vx_W p (gl G) e (yR Y) s m args below meth c H locs c0 s0 (vx_MQ below (QC G Q) (XC G QX) args s (yR Y).cells (yR Y).slots (AA G)) (F0 m pc arr (st.map (cv G))) q
/-- what a call row needs of the point where it stands -/
def CT (G : GT) (Y : MT) (u : MU) (p : Program) (s : State) (m : MethodId) (args : Array Value) (meth : Method) (c : Code) (H : Heap) (locs : List Loc) : Prop :=
  CX G Y p s m args meth c ∧ HS G u H ∧ va_S (AA G) s.heap H locs ∧ (u.2.2.2 < 457 → H.size = g0 G + (u.2.2.2 + 2))
theorem CT.pc {G : GT} {Y : MT} {u : MU} {p : Program} {s : State} {m : MethodId} {args : Array Value} {meth : Method} {c : Code} {H : Heap} {locs : List Loc} (T : CT G Y u p s m args meth c H locs) (As : List Value) (U : State) (hU : U.heap = H) (hW : s.WarmedH U.vm) : PC G As u (As.map (cv G)).toArray U := by
  obtain ⟨C, hH, hS, hz⟩ := T
  refine ⟨rfl, by rw [hU]; exact hH, KS.warm hW (cxk C), ?_, by rw [hU]; exact Nat.le_trans (cxn C) hS.1, by rw [hU]; exact hz⟩
  rw [hU]
  exact SX.moved hW.alike (SX.kept (cxs C) (cxn C) (fun a h1 h2 => hS.2.1 a h1 h2))
section VC
variable {G : GT} {Y Y2 : MT} {pc pc' : Nat} {ls ls' : List (Nat × Value)} {st : List Value} {u : MU} {c0 s0 : Nat} {Q Q1 : Option Value → MU → Prop} {QX QX1 : String → MU → Prop}
theorem v_call {full : List Value} {mc ms : Nat} (hp : pc + 3 = pc')
    (hrun : ∀ (p : Program) (e : Env) (s : State) (m : MethodId) (args : Array Value) (below : List Frame) (meth : Method) (c : Code) (H : Heap) (locs : List Loc) (arr : Array Slot), CT G Y u p s m args meth c H locs → arr.size = yM Y → vx_Run p (gl G) e (yR Y) s m args below meth c H locs c0 s0 mc ms (F0 m pc arr (full.map (cv G))) (st.map (cv G)) (fun st0 o t => QC G Q1 #[] st0 o t) (XC G QX1) (AA G))
    (kx : ∀ E u', QX1 E u' → VX G Y pc ls st E u' (c0 + mc) (s0 + ms) Q QX)
    (kk : ∀ v u', Q1 v u' → (u'.2.2.2 < 457 → u'.2.2.2 = u.2.2.2 + mc) ∧ V G Y pc' ls (v.toList ++ st) u' (c0 + mc) (s0 + ms) Q QX) : V G Y pc ls full u c0 s0 Q QX := by
  subst hp
  intro p e s m args below meth c C H locs arr hH hS hl hz
  refine W.le (fun hle => ?_)
  have hsz : u.2.2.2 < 457 → H.size = g0 G + (u.2.2.2 + 2) := by
    intro h
    have h1 := hz h
    refine Nat.le_antisymm (by omega) ?_
    have hn : u.2.2.2 ≤ 455 := hH.2.elim id (fun q => absurd h (by omega))
    have hs9 : sc u.2.2.2 = u.2.2.2 + 2 := if_pos h
    have h3 := (hH.1 (u.2.2.2 + 1) _ (wl_at G u (by rw [hs9]; omega))).lt
    have h4 : g0 G + (u.2.2.2 + 1) < H.size := h3
    omega
  intro T hT X
  rcases hrun p e s m args below meth c H locs arr ⟨C, hH, hS, hsz⟩ hl.1 T hT X with ⟨v', st₀, t, T', L, h0, X', hL, e1, e2, ⟨⟨v, u', hv, hq, hH'⟩, hF⟩, go⟩ | ⟨q, st₀, t, T', L, E, ce, h0, X', hL, e1, e2, ⟨u', hq, hH', hF⟩, hce, hcv, hcl, go⟩
  · cases hv
    obtain ⟨k1, k2, k3⟩ := vx_keep h0 e1 hS (fun q _ h => h) (fun q h => h) hL hF
    obtain ⟨g1, g2⟩ := kk v u' hq
    have hz' : u'.2.2.2 < 457 → s.heap.size + (c0 + mc) = g0 G + (u'.2.2.2 + 2) := fun h => by
      have h5 := g1 h
      have h6 := hz (by omega)
      omega
    obtain ⟨t2, a1, b1⟩ := g2 p e s m args below meth c C T'.heap (locs ++ L) arr (by rw [e1]; exact hH') k3 hl hz' T' rfl X'
    refine ⟨t2, go t2 ?_, b1⟩
    have e9 : (v.map (cv G)).toList ++ st.map (cv G) = (v.toList ++ st).map (cv G) := by cases v <;> rfl
    show Steps p.tables e below (T'.setTop (F0 m (pc + 3) arr ((v.map (cv G)).toList ++ st.map (cv G)))) t2
    rw [e9]
    exact a1
  · obtain ⟨k1, k2, k3⟩ := vx_keep h0 e1 hS (fun q _ h => h) (fun q h => h) hL hF
    obtain ⟨t2, a1, b1⟩ := kx E u' hq p e s m args below meth c C T'.heap (locs ++ L) arr (by rw [e1]; exact hH') k3 hl q ce (by rw [e1]; exact hce) hcv hcl T' rfl X'
    exact ⟨t2, go.trans a1, b1⟩
/-- what is known of a method: its words, its parameters -/
def MF (Y : MT) (n : Nat) : Prop := yC Y ∈ GW ∧ Cond.initialized (yN Y).cls ∈ GW ∧ ((yN Y).cls ≠ "java/lang/invoke/MethodHandle" ∧ (yN Y).cls ≠ "java/lang/invoke/VarHandle") ∧ (parseMethodDescriptor (yN Y).desc).map (fun d => d.parameters.length) = some n
/-- the caller's room holds the callee's -/
def RM (Y Y2 : MT) : Bool := decide ((yR Y2).frames + 1 ≤ (yR Y).frames ∧ 8 + (yM Y2 + 11) + (yR Y2).locals ≤ (yR Y).locals)
theorem yW_pay {s : State} {args : Array Value} (hw : ∀ w ∈ GW, w.before args s = true) (h : yC Y2 ∈ GW) : ∀ w ∈ yW Y2, ∀ (a' : Array Value) (U : State), s.WarmedH U.vm → w.before a' U = true :=
  pay_in (big := GW) hw (gw_goodIn (fun w hw9 => (List.mem_cons.mp hw9).elim (fun e => by rw [e]; exact h) id))
theorem yC_nil (h : yH Y = []) : yC Y = .code (yN Y) (yB Y) (yM Y) (yT Y) := by simp [yC, h]
theorem mk_callB {p : Program} {s : State} {m : MethodId} {args : Array Value} {meth : Method} {c : Code} {idx n : Nat} (C : CX G Y p s m args meth c) (hF : MF Y2 n) (h0 : yH Y2 = []) (hR : RM Y Y2 = true) (hl : Cond.methodLink (yN Y).cls idx (yN Y2) ∈ GW) : CallB (yR Y) s args (yN Y).cls idx (yN Y2) (yB Y2) (yM Y2) (yT Y2) (yW Y2) (yR Y2) (yR Y2).cells (yR Y2).slots n := by
  obtain ⟨f1, f2, f3, f4⟩ := hF
  obtain ⟨r1, r2⟩ := of_decide_eq_true hR
  refine ⟨rfl, rfl, r1, r2, yW_pay (cxw C) f1, by rw [← yC_nil h0]; exact List.mem_cons_self, by rw [← yC_nil h0]; exact cxw C _ f1, cxw C _ f2, f3, fun sig h => ?_, cxw C _ hl⟩
  rw [h] at f4
  exact (Option.some.inj f4).symm
theorem mk_callN {p : Program} {s : State} {m : MethodId} {args : Array Value} {meth : Method} {c : Code} {idx n : Nat} {host : String} (C : CX G Y p s m args meth c) (hF : MF Y2 n) (h0 : yH Y2 = []) (hR : RM Y Y2 = true) (hl : ((yN Y).cls, idx, yN Y2, host) ∈ nsts) : va_CN (yR Y) s args (yN Y).cls idx (yN Y2) host (yB Y2) (yM Y2) (yT Y2) (yW Y2) (yR Y2) (yR Y2).cells (yR Y2).slots n := by
  obtain ⟨f1, f2, f3, f4⟩ := hF
  obtain ⟨r1, r2⟩ := of_decide_eq_true hR
  refine ⟨⟨rfl, rfl, r1, r2, yW_pay (cxw C) f1, by rw [← yC_nil h0]; exact List.mem_cons_self⟩, by rw [← yC_nil h0]; exact cxw C _ f1, cxw C _ f2, f3, fun sig h => ?_, va_Nw.use rfl ((cxk C).2.1 _ hl)⟩
  rw [h] at f4
  exact (Option.some.inj f4).symm
theorem cx_fix {p : Program} {s : State} {m : MethodId} {args : Array Value} {meth : Method} {c : Code} (C : CX G Y p s m args meth c) : CallFix p m c (yB Y) (yM Y) s args GW (yN Y).cls := ⟨cxx C, cxb C, cxm C, cxo C, cxw C⟩
theorem st_room {st : List Value} (h : (st.map fun v => v.category).sum ≤ 8) : ((st.map (cv G)).map fun v => v.category).sum ≤ 8 := by
  rw [List.map_map]
  have e : ((fun v : Value => v.category) ∘ cv G) = fun v => v.category := funext fun v => cv_cat G v
  rw [e]
  exact h
theorem v_recv {p : Program} {s : State} {m : MethodId} {args : Array Value} {meth : Method} {c : Code} {H : Heap} {locs : List Loc} {b ci : Nat} {C9 : String} {T8 : u_T} {N : Nat} (T : CT G Y u p s m args meth c H locs) (hb : LAY b = ci) (hx : ST b u.2.2.2) (hc : clz[ci]? = some (C9, T8, N)) : ∃ cell : Cell, H[g0 G + PO b]? = some cell ∧ cell.vm.isStatics = false ∧ s.vm.findClass C9 = some cell.cls := by
  obtain ⟨C, hH, hS, hz⟩ := T
  exact va_recv (cxk C).1 hH.1 hc (q0 := PO b) (by rw [wl_get G u hx, cel_obj hb (cl_20 hc)])
/-- a call of an object's method -/
theorem v_cV (k : Nat) {idx b n ci N : Nat} {T : u_T} {As : List Value} (hd : (yP Y)[k]? = some (pc, .invokevirtual idx, 3)) (hp : pc + 3 = pc') (hF : MF Y2 n) (h0 : yH Y2 = []) (hR : RM Y Y2 = true) (hl : Cond.methodLink (yN Y).cls idx (yN Y2) ∈ GW) (hin : Cond.instanceMethod (yN Y2) ∈ GW) (hse : Cond.selects (yN Y2).cls (yN Y2) (yN Y2) ∈ GW)
    (hcl : clz[ci]? = some ((yN Y2).cls, T, N)) (hb : LAY b = ci) (hx : ST b u.2.2.2) (hn : As.length = n) (hst : (st.map fun v => v.category).sum ≤ 8) (hc : c0 + (yR Y2).cells ≤ (yR Y).cells ∧ s0 + (yR Y2).slots ≤ (yR Y).slots)
    {c1 s1 : Nat} (e1 : c0 + (yR Y2).cells = c1) (e2 : s0 + (yR Y2).slots = s1) (hM : MW G Y2 (.ref b :: As) u Q1 QX1) (kx : ∀ E u', QX1 E u' → VX G Y pc ls st E u' c1 s1 Q QX)
    (kk : ∀ v u', Q1 v u' → (u'.2.2.2 < 457 → u'.2.2.2 = u.2.2.2 + (yR Y2).cells) ∧ V G Y pc' ls (v.toList ++ st) u' c1 s1 Q QX) : V G Y pc ls (As.reverse ++ .ref b :: st) u c0 s0 Q QX := by
  subst e1
  subst e2
  refine v_call hp (fun p e s m args below meth c H locs arr T9 hsz => ?_) kx kk
  have hcv : cv G (.ref b) = .ref (g0 G + PO b) := cv_ref T9.2.1 hx
  refine vx_runV (b := g0 G + PO b) (As := As.map (cv G)) (C := (yN Y2).cls) (cx_fix T9.1) hM ⟨mk_callB T9.1 hF h0 hR hl, cxw T9.1 _ hin, cxw T9.1 _ hse⟩ ⟨PC_blind G _ u, v_recv T9 hb hx hcl, fun U hU hW => ?_⟩ rfl (by rw [List.length_map]; exact hn) hsz ?_ (lv_room (st_room hst)) (cxd T9.1 hd) hc
  · have h := T9.pc (.ref b :: As) U hU hW
    rw [List.map_cons, hcv] at h
    exact h
  · show (As.reverse ++ .ref b :: st).map (cv G) = (As.map (cv G)).reverse ++ .ref (g0 G + PO b) :: st.map (cv G)
    rw [List.map_append, List.map_cons, hcv, List.map_reverse]
/-- a call of a nest mate's private method -/
theorem v_cNV (k : Nat) {idx b n ci N : Nat} {host : String} {T : u_T} {As : List Value} (hd : (yP Y)[k]? = some (pc, .invokevirtual idx, 3)) (hp : pc + 3 = pc') (hF : MF Y2 n) (h0 : yH Y2 = []) (hR : RM Y Y2 = true) (hl : ((yN Y).cls, idx, yN Y2, host) ∈ nsts) (hin : Cond.instanceMethod (yN Y2) ∈ GW) (hse : Cond.selects (yN Y2).cls (yN Y2) (yN Y2) ∈ GW)
    (hcl : clz[ci]? = some ((yN Y2).cls, T, N)) (hb : LAY b = ci) (hx : ST b u.2.2.2) (hn : As.length = n) (hst : (st.map fun v => v.category).sum ≤ 8) (hc : c0 + (yR Y2).cells ≤ (yR Y).cells ∧ s0 + (yR Y2).slots ≤ (yR Y).slots)
    {c1 s1 : Nat} (e1 : c0 + (yR Y2).cells = c1) (e2 : s0 + (yR Y2).slots = s1) (hM : MW G Y2 (.ref b :: As) u Q1 QX1) (kx : ∀ E u', QX1 E u' → VX G Y pc ls st E u' c1 s1 Q QX)
    (kk : ∀ v u', Q1 v u' → (u'.2.2.2 < 457 → u'.2.2.2 = u.2.2.2 + (yR Y2).cells) ∧ V G Y pc' ls (v.toList ++ st) u' c1 s1 Q QX) : V G Y pc ls (As.reverse ++ .ref b :: st) u c0 s0 Q QX := by
  subst e1
  subst e2
  refine v_call hp (fun p e s m args below meth c H locs arr T9 hsz => ?_) kx kk
  have hcv : cv G (.ref b) = .ref (g0 G + PO b) := cv_ref T9.2.1 hx
  refine vx_runVN (b := g0 G + PO b) (As := As.map (cv G)) (C := (yN Y2).cls) (cx_fix T9.1) hM ⟨mk_callN T9.1 hF h0 hR hl, cxw T9.1 _ hin, cxw T9.1 _ hse⟩ ⟨PC_blind G _ u, v_recv T9 hb hx hcl, fun U hU hW => ?_⟩ rfl (by rw [List.length_map]; exact hn) hsz ?_ (lv_room (st_room hst)) (cxd T9.1 hd) hc
  · have h := T9.pc (.ref b :: As) U hU hW
    rw [List.map_cons, hcv] at h
    exact h
  · show (As.reverse ++ .ref b :: st).map (cv G) = (As.map (cv G)).reverse ++ .ref (g0 G + PO b) :: st.map (cv G)
    rw [List.map_append, List.map_cons, hcv, List.map_reverse]
/-- a static call -/
theorem v_cS (k : Nat) {idx n : Nat} {As : List Value} (hd : (yP Y)[k]? = some (pc, .invokestatic idx, 3)) (hp : pc + 3 = pc') (hF : MF Y2 n) (h0 : yH Y2 = []) (hR : RM Y Y2 = true) (hl : Cond.methodLink (yN Y).cls idx (yN Y2) ∈ GW) (hsc : Cond.static (yN Y2) ∈ GW)
    (hn : As.length = n) (hst : (st.map fun v => v.category).sum ≤ 8) (hc : c0 + (yR Y2).cells ≤ (yR Y).cells ∧ s0 + (yR Y2).slots ≤ (yR Y).slots)
    {c1 s1 : Nat} (e1 : c0 + (yR Y2).cells = c1) (e2 : s0 + (yR Y2).slots = s1) (hM : MW G Y2 As u Q1 QX1) (kx : ∀ E u', QX1 E u' → VX G Y pc ls st E u' c1 s1 Q QX)
    (kk : ∀ v u', Q1 v u' → (u'.2.2.2 < 457 → u'.2.2.2 = u.2.2.2 + (yR Y2).cells) ∧ V G Y pc' ls (v.toList ++ st) u' c1 s1 Q QX) : V G Y pc ls (As.reverse ++ st) u c0 s0 Q QX := by
  subst e1
  subst e2
  refine v_call hp (fun p e s m args below meth c H locs arr T9 hsz => ?_) kx kk
  refine vx_runS (As := As.map (cv G)) (cx_fix T9.1) hM ⟨mk_callB T9.1 hF h0 hR hl, cxw T9.1 _ hsc⟩ ⟨PC_blind G _ u, fun U hU hW => T9.pc As U hU hW⟩ rfl (by rw [List.length_map]; exact hn) hsz ?_ (lv_room (st_room hst)) (cxd T9.1 hd) hc
  show (As.reverse ++ st).map (cv G) = (As.map (cv G)).reverse ++ st.map (cv G)
  rw [List.map_append, List.map_reverse]
/-- a static call of a nest mate's private method -/
theorem v_cNS (k : Nat) {idx n : Nat} {host : String} {As : List Value} (hd : (yP Y)[k]? = some (pc, .invokestatic idx, 3)) (hp : pc + 3 = pc') (hF : MF Y2 n) (h0 : yH Y2 = []) (hR : RM Y Y2 = true) (hl : ((yN Y).cls, idx, yN Y2, host) ∈ nsts) (hsc : Cond.static (yN Y2) ∈ GW)
    (hn : As.length = n) (hst : (st.map fun v => v.category).sum ≤ 8) (hc : c0 + (yR Y2).cells ≤ (yR Y).cells ∧ s0 + (yR Y2).slots ≤ (yR Y).slots)
    {c1 s1 : Nat} (e1 : c0 + (yR Y2).cells = c1) (e2 : s0 + (yR Y2).slots = s1) (hM : MW G Y2 As u Q1 QX1) (kx : ∀ E u', QX1 E u' → VX G Y pc ls st E u' c1 s1 Q QX)
    (kk : ∀ v u', Q1 v u' → (u'.2.2.2 < 457 → u'.2.2.2 = u.2.2.2 + (yR Y2).cells) ∧ V G Y pc' ls (v.toList ++ st) u' c1 s1 Q QX) : V G Y pc ls (As.reverse ++ st) u c0 s0 Q QX := by
  subst e1
  subst e2
  refine v_call hp (fun p e s m args below meth c H locs arr T9 hsz => ?_) kx kk
  refine vx_runSN (As := As.map (cv G)) (cx_fix T9.1) hM ⟨mk_callN T9.1 hF h0 hR hl, cxw T9.1 _ hsc, trivial⟩ ⟨PC_blind G _ u, fun U hU hW => T9.pc As U hU hW⟩ rfl (by rw [List.length_map]; exact hn) hsz ?_ (lv_room (st_room hst)) (cxd T9.1 hd) hc
  show (As.reverse ++ st).map (cv G) = (As.map (cv G)).reverse ++ st.map (cv G)
  rw [List.map_append, List.map_reverse]
/-- a constructor's call -/
theorem v_cI (k : Nat) {idx b n : Nat} {As : List Value} (hd : (yP Y)[k]? = some (pc, .invokespecial idx, 3)) (hp : pc + 3 = pc') (hF : MF Y2 n) (h0 : yH Y2 = []) (hR : RM Y Y2 = true) (hl : Cond.methodLink (yN Y).cls idx (yN Y2) ∈ GW) (hin : Cond.instanceMethod (yN Y2) ∈ GW) (hy : (yN Y2).name = "<init>") (hT : yT Y2 = none)
    (hx : ST b u.2.2.2) (hn : As.length = n) (hst : (st.map fun v => v.category).sum ≤ 8) (hc : c0 + (yR Y2).cells ≤ (yR Y).cells ∧ s0 + (yR Y2).slots ≤ (yR Y).slots)
    {c1 s1 : Nat} (e1 : c0 + (yR Y2).cells = c1) (e2 : s0 + (yR Y2).slots = s1) (hM : MW G Y2 (.ref b :: As) u Q1 QX1) (kx : ∀ E u', QX1 E u' → VX G Y pc ls st E u' c1 s1 Q QX)
    (kk : ∀ v u', Q1 v u' → (u'.2.2.2 < 457 → u'.2.2.2 = u.2.2.2 + (yR Y2).cells) ∧ V G Y pc' ls (v.toList ++ st) u' c1 s1 Q QX) : V G Y pc ls (As.reverse ++ .ref b :: st) u c0 s0 Q QX := by
  subst e1
  subst e2
  refine v_call hp (fun p e s m args below meth c H locs arr T9 hsz => ?_) kx kk
  have hcv : cv G (.ref b) = .ref (g0 G + PO b) := cv_ref T9.2.1 hx
  have hB := mk_callB T9.1 hF h0 hR hl
  rw [hT] at hB
  refine vx_runI (b := g0 G + PO b) (As := As.map (cv G)) (cx_fix T9.1) hM ⟨hB, hy, cxw T9.1 _ hin⟩ ⟨PC_blind G _ u, fun U hU hW => ?_⟩ rfl (by rw [List.length_map]; exact hn) hsz ?_ (lv_room (st_room hst)) (cxd T9.1 hd) hc
  · have h := T9.pc (.ref b :: As) U hU hW
    rw [List.map_cons, hcv] at h
    exact h
  · show (As.reverse ++ .ref b :: st).map (cv G) = (As.map (cv G)).reverse ++ .ref (g0 G + PO b) :: st.map (cv G)
    rw [List.map_append, List.map_cons, hcv, List.map_reverse]
/-- a nest mate's private constructor -/
theorem v_cNI (k : Nat) {idx b n : Nat} {host : String} {As : List Value} (hd : (yP Y)[k]? = some (pc, .invokespecial idx, 3)) (hp : pc + 3 = pc') (hF : MF Y2 n) (h0 : yH Y2 = []) (hR : RM Y Y2 = true) (hl : ((yN Y).cls, idx, yN Y2, host) ∈ nsts) (hin : Cond.instanceMethod (yN Y2) ∈ GW) (hy : (yN Y2).name = "<init>") (hT : yT Y2 = none)
    (hx : ST b u.2.2.2) (hn : As.length = n) (hst : (st.map fun v => v.category).sum ≤ 8) (hc : c0 + (yR Y2).cells ≤ (yR Y).cells ∧ s0 + (yR Y2).slots ≤ (yR Y).slots)
    {c1 s1 : Nat} (e1 : c0 + (yR Y2).cells = c1) (e2 : s0 + (yR Y2).slots = s1) (hM : MW G Y2 (.ref b :: As) u Q1 QX1) (kx : ∀ E u', QX1 E u' → VX G Y pc ls st E u' c1 s1 Q QX)
    (kk : ∀ v u', Q1 v u' → (u'.2.2.2 < 457 → u'.2.2.2 = u.2.2.2 + (yR Y2).cells) ∧ V G Y pc' ls (v.toList ++ st) u' c1 s1 Q QX) : V G Y pc ls (As.reverse ++ .ref b :: st) u c0 s0 Q QX := by
  subst e1
  subst e2
  refine v_call hp (fun p e s m args below meth c H locs arr T9 hsz => ?_) kx kk
  have hcv : cv G (.ref b) = .ref (g0 G + PO b) := cv_ref T9.2.1 hx
  have hB := mk_callN T9.1 hF h0 hR hl
  rw [hT] at hB
  refine vx_runIN (b := g0 G + PO b) (As := As.map (cv G)) (cx_fix T9.1) hM ⟨hB, hy, cxw T9.1 _ hin⟩ ⟨PC_blind G _ u, fun U hU hW => ?_⟩ rfl (by rw [List.length_map]; exact hn) hsz ?_ (lv_room (st_room hst)) (cxd T9.1 hd) hc
  · have h := T9.pc (.ref b :: As) U hU hW
    rw [List.map_cons, hcv] at h
    exact h
  · show (As.reverse ++ .ref b :: st).map (cv G) = (As.map (cv G)).reverse ++ .ref (g0 G + PO b) :: st.map (cv G)
    rw [List.map_append, List.map_cons, hcv, List.map_reverse]
/-- Object's own constructor -/
theorem v_obj (k : Nat) {idx b : Nat} (hd : (yP Y)[k]? = some (pc, .invokespecial idx, 3)) (hp : pc + 3 = pc') (hl : Cond.methodLink (yN Y).cls idx Lib.objectInit ∈ GW) (hin : Cond.instanceMethod Lib.objectInit ∈ GW) (hco : Cond.code Lib.objectInit ⟨#[0xb1]⟩ 1 none ∈ GW) (h1 : 1 ≤ (yR Y).frames) (h2 : (st.map fun v => v.category).sum + 12 ≤ (yR Y).locals) (kk : V G Y pc' ls st u c0 s0 Q QX) : V G Y pc ls (.ref b :: st) u c0 s0 Q QX := by
  subst hp
  intro p e s m args below meth c C H locs arr hH hS hl9 hz
  refine W.objInit (cxx C) (cxb C) (cxo C) (cxw C _ hl) (cxw C _ hin) (cxw C _ hco) rfl (by rw [cxm C]; exact hl9.1) rfl (cxd C hd) h1 ?_ (kk p e s m args below meth c C H locs arr hH hS hl9 hz)
  rw [List.map_map]
  have e9 : ((fun v : Value => v.category) ∘ cv G) = fun v => v.category := funext fun v => cv_cat G v
  rw [e9]
  show 2 * 0 + _ + 12 ≤ _
  omega
/-! answers -/
theorem v_iret (k : Nat) {x : Int32} (hd : (yP Y)[k]? = some (pc, .ireturn, 1)) (hT : yT Y = some .int) (hc : c0 ≤ (yR Y).cells) (hs : s0 ≤ (yR Y).slots) (hq : Q (some (.int x)) u) : V G Y pc ls [.int x] u c0 s0 Q QX := by
  intro p e s m args below meth c C H locs arr hH hS hl hz
  have hlk := cxl C
  refine vx_ret (W.widen hc hs ?_)
  exact W.iret (v := x) (cxx C) (cxb C) ((cxr C).trans hT) (fun t ht hW => ⟨⟨some (.int x), u, rfl, hq, by rw [ht]; exact hH⟩, hS.F ht⟩) hS.2.2 (cxd C hd)
theorem v_zret (k : Nat) {x : Int32} (hd : (yP Y)[k]? = some (pc, .ireturn, 1)) {ty : FieldType} (hT : yT Y = some ty) (hn : narrow ty (.int x) = .int x) (hc : c0 ≤ (yR Y).cells) (hs : s0 ≤ (yR Y).slots) (hq : Q (some (.int x)) u) : V G Y pc ls [.int x] u c0 s0 Q QX := by
  intro p e s m args below meth c C H locs arr hH hS hl hz
  have hlk := cxl C
  refine vx_ret (W.widen hc hs ?_)
  exact W.zret (v := x) (cxx C) (cxb C) ((cxr C).trans hT) hn (fun t ht hW => ⟨⟨some (.int x), u, rfl, hq, by rw [ht]; exact hH⟩, hS.F ht⟩) hS.2.2 (cxd C hd)
theorem v_bret (k : Nat) {x : Int32} (hd : (yP Y)[k]? = some (pc, .ireturn, 1)) (hT : yT Y = some .boolean) (hb : x = 0 ∨ x = 1) (hc : c0 ≤ (yR Y).cells) (hs : s0 ≤ (yR Y).slots) (hq : Q (some (.int x)) u) : V G Y pc ls [.int x] u c0 s0 Q QX :=
  v_zret k hd hT (by rcases hb with rfl | rfl <;> rfl) hc hs hq
theorem v_lret (k : Nat) {x : Int64} (hd : (yP Y)[k]? = some (pc, .lreturn, 1)) (hT : yT Y = some .long) (hc : c0 ≤ (yR Y).cells) (hs : s0 ≤ (yR Y).slots) (hq : Q (some (.long x)) u) : V G Y pc ls [.long x] u c0 s0 Q QX := by
  intro p e s m args below meth c C H locs arr hH hS hl hz
  have hlk := cxl C
  refine vx_ret (W.widen hc hs ?_)
  exact W.lret (v := x) (cxx C) (cxb C) ((cxr C).trans hT) (fun t ht hW => ⟨⟨some (.long x), u, rfl, hq, by rw [ht]; exact hH⟩, hS.F ht⟩) hS.2.2 (cxd C hd)
theorem v_dret (k : Nat) {x : UInt64} (hd : (yP Y)[k]? = some (pc, .dreturn, 1)) (hT : yT Y = some .double) (hc : c0 ≤ (yR Y).cells) (hs : s0 ≤ (yR Y).slots) (hq : Q (some (.double x)) u) : V G Y pc ls [.double x] u c0 s0 Q QX := by
  intro p e s m args below meth c C H locs arr hH hS hl hz
  have hlk := cxl C
  refine vx_ret (W.widen hc hs ?_)
  exact W.dret (v := x) (cxx C) (cxb C) ((cxr C).trans hT) (fun t ht hW => ⟨⟨some (.double x), u, rfl, hq, by rw [ht]; exact hH⟩, hS.F ht⟩) hS.2.2 (cxd C hd)
theorem v_fret (k : Nat) {x : UInt32} (hd : (yP Y)[k]? = some (pc, .freturn, 1)) (hT : yT Y = some .float) (hc : c0 ≤ (yR Y).cells) (hs : s0 ≤ (yR Y).slots) (hq : Q (some (.float x)) u) : V G Y pc ls [.float x] u c0 s0 Q QX := by
  intro p e s m args below meth c C H locs arr hH hS hl hz
  have hlk := cxl C
  refine vx_ret (W.widen hc hs ?_)
  exact W.fret (v := x) (cxx C) (cxb C) ((cxr C).trans hT) (fun t ht hW => ⟨⟨some (.float x), u, rfl, hq, by rw [ht]; exact hH⟩, hS.F ht⟩) hS.2.2 (cxd C hd)
theorem v_vret (k : Nat) (hd : (yP Y)[k]? = some (pc, .return_, 1)) (hT : yT Y = none) (hc : c0 ≤ (yR Y).cells) (hs : s0 ≤ (yR Y).slots) (hq : Q none u) : V G Y pc ls [] u c0 s0 Q QX := by
  intro p e s m args below meth c C H locs arr hH hS hl hz
  have hlk := cxl C
  refine vx_ret (W.widen hc hs ?_)
  exact W.vret (cxx C) (cxb C) ((cxr C).trans hT) (fun t ht hW => ⟨⟨none, u, rfl, hq, by rw [ht]; exact hH⟩, hS.F ht⟩) hS.2.2 (cxd C hd)
theorem v_aret (k : Nat) {a : Nat} {n9 : String} (hd : (yP Y)[k]? = some (pc, .areturn, 1)) (hT : yT Y = some (.object n9)) (hc : c0 ≤ (yR Y).cells) (hs : s0 ≤ (yR Y).slots) (hq : Q (some (.ref a)) u) : V G Y pc ls [.ref a] u c0 s0 Q QX := by
  intro p e s m args below meth c C H locs arr hH hS hl hz
  have hlk := cxl C
  refine vx_ret (W.widen hc hs ?_)
  exact W.aret (v := .ref (AD G a)) (cxx C) (cxb C) ((cxr C).trans hT) (Or.inl ⟨n9, rfl⟩) (Or.inr ⟨_, rfl⟩) (fun t ht hW => ⟨⟨some (.ref a), u, rfl, hq, by rw [ht]; exact hH⟩, hS.F ht⟩) hS.2.2 (cxd C hd)
/-- what is thrown leaves the method -/
theorem vx_leave {E : String} (h0 : yH Y = []) (hc : c0 ≤ (yR Y).cells) (hs : s0 ≤ (yR Y).slots) (hq : QX E u) : VX G Y pc ls st E u c0 s0 Q QX := by
  intro p e s m args below meth c C H locs arr hH hS hl q ce hce hcv hcl
  refine vx_out ?_ (cxl C) hce hcv hcl (fun t ht hal => ⟨u, hq, by rw [ht]; exact hH, hS.F ht⟩) hS.2.2 hc hs
  intro x hx
  rw [cxt C, h0] at hx
  exact absurd hx List.not_mem_nil
end VC
end
section
/-! The throw of an exception whose one-argument constructor passes its text on by another constant pool number than the usual one (java/util/NoSuchElementException of the pinned build); it follows the library's ctorThrowS with the chain of Shelf42/F29a. -/
section TX
variable {p : Program} {l : Launch} {e : Env} {R : Room} {s : State} {m₀ : MethodId} {args : Array Value} {below : List Frame} {meth : Method} {c : Code} {W0 : State} {locs : List Loc} {cells slots : Nat}
set_option maxHeartbeats 4000000 in
theorem tx_ctor (X : Stand p l e R s m₀ args below meth c W0 locs cells slots) (hexec : p.tables.exec = Jvm.exec) (htr : e.platform.stackTraces = false) {own cls : String} {names : List String} {ic : Nat}
    {ix : Nat} {rx : ByteArray} (x0 : decode rx 0 = .ok (.aload_n 0, 1)) (x1 : decode rx 1 = .ok (.aload_n 1, 1)) (x2 : decode rx 2 = .ok (.invokespecial ix, 3)) (x5 : decode rx 5 = .ok (.return_, 1))
    (hown : s.vm.findClass own = some m₀.cls) (hcls : Bundle.fit cls = true) (hnames : ∀ n ∈ names, Bundle.fit n = true)
    (h : ∀ a ∈ Bundle.ownAtomsX own ic cls ix rx names, a.before args s = true)
    (hlocs : ∀ x ∈ locs, ∀ cell, s.heap[x.base]? = some cell → cell.vm.isStatics = false)
    {a : Addr} {cX : ClassId} {kX : Class} (hfoundX : s.vm.findClass cls = some cX) (hkX : s.vm.classes[cX]? = some kX) (hcell : W0.heap[a]? = some (freshCell cX kX)) (hnew : s.heap.size ≤ a)
    {msg : Value} (hmsg : msg.isRef = true)
    {g : JFrame} (hg : g.method = m₀) (hsize : g.locals.size = c.maxLocals) (hlocked : g.locked = none) (hentered : g.entered = []) {rest : List Value} (hstack : g.stack = msg :: .ref a :: .ref a :: rest)
    (hd6 : decode c.code g.pc = .ok (.invokespecial ic, 3)) (hd9 : decode c.code (g.pc + 3) = .ok (.athrow, 1)) (hout : ∀ x ∈ c.exceptionTable.toList, covers x (g.pc + 3) = false)
    (hRframes : names.length + 3 < R.frames) (hRlocals : 2 * g.monitorRoom + ((Value.ref a :: rest).map fun v => v.category).sum + (13 * (names.length + 1) + 42) ≤ R.locals) (hlocks : meth.locks = false) :
    ∃ U : State, Steps p.tables e below (W0.setTop g) U ∧ U.status = .running ∧ Ended U below (.threw a) ∧ s.WarmedH U.vm ∧ s.sameButNew ({ U with vm := s.vm } : State) locs cells slots ∧
      ∃ ce : Cell, U.heap[a]? = some ce ∧ s.vm.findClass cls = some ce.cls ∧ ce.vm = .none := by
  have howns : e.platform.frameOwnsMonitors = true := by rw [X.admits.platform]
  have hfin : e.platform.finalization = false := by rw [X.admits.platform]
  have hpl : e.platform.magicAccessors = ({} : Platform).magicAccessors := by rw [X.admits.platform]
  have a' : ∀ x, x ∈ Bundle.ownAtomsX own ic cls ix rx names → x.holds args s none s [] = true := fun x hx => h x hx
  obtain ⟨T, Z0, L, -, Y⟩ := ThrowableC.of_atoms (args := args) howns hfin hpl (fun x hx => h x (by simp [Bundle.ownAtomsX, hx]))
  obtain ⟨Z, M, LZ, LM, hnZ⟩ := Init0T.ofS_atoms (args := args) hpl L Y (fun x hx => h x (by simp [Bundle.ownAtomsX, hx]))
  obtain ⟨P1, Ps, hlen, L1, hL, hP1m, hlink1, hlink⟩ := Bundle.chainSX (args := args) hpl hnZ x0 x1 x2 x5 names cls hcls hnames (fun x hx => h x (by simp [Bundle.ownAtomsX, hx]))
  have hfound : s.vm.findClass cls = some P1.m.cls := findClass_of_methodNamed hP1m
  cases Option.some.inj (hfoundX.symm.trans hfound)
  obtain ⟨c1, kX', hc1, hk, hord, -, -, hn6⟩ := Cond.instantiable_spec (a' (.instantiable cls 6) (by simp [Bundle.ownAtomsX]))
  cases Option.some.inj (hc1.symm.trans hfound)
  cases Option.some.inj (hkX.symm.trans hk)
  have hsel0 : selectMethod e.platform s.vm P1.m.cls T.fill0 = .method T.fill0 := by
    obtain ⟨c2, r2, m2, q1, q2, q3, q4, -⟩ := Cond.selects_spec (a' (.selects cls Bundle.tFill0 Bundle.tFill0) (by simp [Bundle.ownAtomsX]))
    cases Option.some.inj (q1.symm.trans hfound)
    cases Option.some.inj (q2.symm.trans (State.methodFound?_of_named Y.fill0 (by decide)))
    cases Option.some.inj (q3.symm.trans Y.fill0)
    rw [Launch.admits_selectMethod X.admits]; exact q4
  have hselF : selectMethod e.platform s.vm P1.m.cls T.fill = .method T.fill := by
    obtain ⟨c2, r2, m2, q1, q2, q3, q4, -⟩ := Cond.selects_spec (a' (.selects cls Bundle.tFill Bundle.tFill) (by simp [Bundle.ownAtomsX]))
    cases Option.some.inj (q1.symm.trans hfound)
    cases Option.some.inj (q2.symm.trans (State.methodFound?_of_named Y.fill (by decide)))
    cases Option.some.inj (q3.symm.trans Y.fill)
    rw [Launch.admits_selectMethod X.admits]; exact q4
  obtain ⟨cellS0, hcS0, hiss⟩ := Y.statics
  obtain ⟨u0, hu0⟩ := Cond.staticRefV Y.unassigned L.unassignedStatic L.statics hcS0 hiss (a' (.isRef (.static Bundle.tN "UNASSIGNED_STACK" Bundle.steD)) (by simp [Bundle.ownAtomsX]))
  obtain ⟨sen, hsen⟩ := Cond.staticRefV Y.sentinel L.sentinelStatic L.statics hcS0 hiss (a' (.isRef (.static Bundle.tN "SUPPRESSED_SENTINEL" Bundle.listD)) (by simp [Bundle.ownAtomsX]))
  obtain ⟨ci198, i198, fB, hk198, hg198, ha198, hsB, -, hnB, htB, hffB⟩ := Cond.ownField (t := .object "java/lang/Object") Y.found L.cls (by decide +kernel) (a' (.fieldLink Bundle.tN 198 Bundle.tN "backtrace" "Ljava/lang/Object;") (by simp [Bundle.ownAtomsX])) (a' (.lays Bundle.tN Bundle.tN "backtrace" "Ljava/lang/Object;") (by simp [Bundle.ownAtomsX])) e.platform hpl
  obtain ⟨cellS, hcS', heS, -, hkeep⟩ := X.same.2.2.2.2.2 T.aS cellS0 hcS0
  have hcellS : W0.heap[T.aS]? = some cellS := hcS'
  have hout' : ∀ i, (⟨T.aS, i⟩ : Loc) ∉ locs := fun i hmem => by
    have := hlocs _ hmem cellS0 hcS0
    rw [hiss] at this; cases this
  have hknownS : cellS.vm ≠ .unknown := by
    rw [heS]; intro hu
    rw [show cellS0.vm = .unknown from hu] at hiss
    cases hiss
  have hneS : T.aS ≠ a := Nat.ne_of_lt (Nat.lt_of_lt_of_le (Array.getElem?_eq_some_iff.mp hcS0).1 hnew)
  obtain ⟨iM, hffM⟩ := Y.msg
  obtain ⟨tyC, dC, hdC, hdnC⟩ := Cond.laysAt hfound hk Y.cause (a' (.lays cls Bundle.tN "cause" "Ljava/lang/Throwable;") (by simp [Bundle.ownAtomsX]))
  obtain ⟨tyS, dS, hdS, hdnS⟩ := Cond.laysAt hfound hk Y.stack (a' (.lays cls Bundle.tN "stackTrace" Bundle.steD) (by simp [Bundle.ownAtomsX]))
  obtain ⟨tyP, dP, hdP, hdnP⟩ := Cond.laysAt hfound hk Y.supp (a' (.lays cls Bundle.tN "suppressedExceptions" Bundle.listD) (by simp [Bundle.ownAtomsX]))
  obtain ⟨tyM, dM, hdM, hdnM⟩ := Cond.laysAt hfound hk hffM (a' (.lays cls Bundle.tN "detailMessage" "Ljava/lang/String;") (by simp [Bundle.ownAtomsX]))
  obtain ⟨tyB, dB, hdB, hdnB⟩ := Cond.laysAt hfound hk hffB (a' (.lays cls Bundle.tN "backtrace" "Ljava/lang/Object;") (by simp [Bundle.ownAtomsX]))
  have bC := Cond.laysApart hdB hdC hdnB hdnC (by rw [hnB, Y.causeName]; decide)
  have bS := Cond.laysApart hdB hdS hdnB hdnS (by rw [hnB, Y.stackName]; decide)
  have bP := Cond.laysApart hdB hdP hdnB hdnP (by rw [hnB, Y.suppName]; decide)
  have hskip : SkipFacts T e.platform s (fun u => u) u0 ((preparedCellV T.toThrowableT (freshCell P1.m.cls kX) a u0 sen).withEntry W0.cur) :=
    ⟨{ ci198 := ci198, i198 := i198, fBack := fB }, ⟨hk198, hg198, ha198, hsB⟩, by
      have := fresh_default (c := P1.m.cls) tyB
      rw [htB] at this
      simpa [preparedCellV, Cell.setSlot, Cell.withEntry, Array.getElem?_setIfInBounds, bC, bS, bP, bC.symm, bS.symm, bP.symm, defaultValue] using this, fun _ _ => rfl⟩
  obtain ⟨tm, methC, cdC, kC, vm₁, hnC, -, -, -, -, -, -, -, hW₁, st1⟩ := Steps.initColdS (tb := p.tables) (e := e) (below := below) (s := s) (U := W0) X.here hexec X.warmed hpl hown (t := Bundle.initS cls) rfl rfl (Bundle.fit_spec hcls).2
    (a' (.methodLink own ic (Bundle.initS cls)) (by simp [Bundle.ownAtomsX])) (h (.instanceMethod (Bundle.initS cls)) (by cases names <;> simp [Bundle.ownAtomsX, Bundle.chainSAtomsX, Bundle.passSAtoms])) (bytes := rx) (maxL := 2) (h (.code (Bundle.initS cls) rx 2 none) (by cases names <;> simp [Bundle.ownAtomsX, Bundle.chainSAtomsX, Bundle.passSAtoms]))
    (f := g) hg (a := a) (msg := msg) (rest := .ref a :: rest) hstack hd6
  cases Option.some.inj (hnC.symm.trans hP1m)
  have X₁ := X.noted hW₁
  obtain ⟨vm₂, X₂, st2⟩ := X₁.ctorMessageOffV hexec (g := { g with stack := .ref a :: rest }) hg hsize T L Z LZ M LM (P1 :: Ps)
    (fun P hP => by rcases List.mem_cons.mp hP with rfl | hP; exact L1; exact hL P hP) ⟨hlink1, hlink⟩ (u0 := u0) (sen := sen) (self := a) hmsg (cell := freshCell P1.m.cls kX) (cellS := cellS)
    hcell (fun _ => by simp) (by simp) rfl rfl hsel0 hselF hcellS hneS hknownS (by rw [hkeep _ (hout' _)]; exact hu0) (by rw [hkeep _ (hout' _)]; exact hsen)
    (Takes.of_laid hk hord tyC (by rw [Y.causeType]; rfl)) (Takes.of_laid hk hord tyS (by rw [Y.stackType]; exact fits_refV_array _ u0)) (Takes.of_laid hk hord tyP (by rw [Y.suppType]; exact fits_refV_object _ sen))
    (Takes.of_laid hk hord tyM (by rw [Y.msgType]; exact fits_refV_object _ ⟨msg, hmsg⟩)) Y.objLocals hskip htr [] hd6
    (by simp only [List.length_cons, hlen]; omega) (by simp only [List.length_cons, hlen]; exact hRlocals)
  obtain ⟨hwalk, hrun, hended, hWU, hsame⟩ := X₂.athrowLeaves hexec (g := { g with stack := .ref a :: rest, pc := g.pc + 3 }) hg hlocked hentered hout (a := a) (rest := rest) rfl hd9
  have hlt : a < ((W0.setVm vm₁).setVm vm₂).heap.size := (Array.getElem?_eq_some_iff.mp hcell).1
  have hU := heapAt_setCell_self (s := (W0.setVm vm₁).setVm vm₂) (plainBareV T.toThrowableT (freshCell P1.m.cls kX) a u0 sen msg) hlt
  refine ⟨_, st1 _ (fun acts => ?_), hrun, hended, hWU, hsame.weaken (fun y hy hlt' => ?_) (Nat.le_refl _) (Nat.le_refl _), _, hU, hfound, rfl⟩
  · rw [doInvoke_state]
    exact st2 _ hwalk
  · rcases List.mem_append.mp hy with h1 | h1
    · exact h1
    · exfalso
      have hb : y.base = a := by
        simp only [List.mem_cons, List.not_mem_nil, or_false] at h1
        rcases h1 with rfl | rfl | rfl | rfl | rfl <;> rfl
      rw [hb] at hlt'
      exact Nat.not_lt.mpr hnew hlt'
end TX
section TY
variable {p : Program} {l : Launch} {e : Env} {R : Room} {s : State} {m : MethodId} {args : Array Value} {below : List Frame} {meth : Method} {c : Code} {H : Heap} {locs : List Loc} {cells slots : Nat}
variable {Qc : Array Value → State → Outcome → State → Prop} {XC : String → State → State → Prop} {free : Addr → Prop} {ls : Array Slot} {rest : List Value}
def tx_at (own : String) (ic : Nat) (X : String) (ix : Nat) (rx : ByteArray) (names : List String) : List Cond := (Bundle.ownAtomsX own ic X ix rx names).filter vx_no
theorem tx_throw {cc : ByteArray} {pc w : Nat} (hexec : p.tables.exec = Jvm.exec) (hb : c.code = cc) (hl : l.stackTraces = false) {own cls text : String} {names : List String} {ik is ic ix mc ms sa : Nat} {rx : ByteArray} {A : Nat → Prop}
    (x0 : decode rx 0 = .ok (.aload_n 0, 1)) (x1 : decode rx 1 = .ok (.aload_n 1, 1)) (x2 : decode rx 2 = .ok (.invokespecial ix, 3)) (x5 : decode rx 5 = .ok (.return_, 1))
    (hown : s.vm.findClass own = some m.cls) (hcls : Bundle.fit cls = true) (hnames : ∀ n ∈ names, Bundle.fit n = true)
    (hk : (Cond.classLink own ik cls).before args s = true) (hini : (Cond.initialized cls).before args s = true) (hstr : vk_R own is text sa s) (hat : ∀ w ∈ tx_at own ic cls ix rx names, w.before args s = true)
    (hgood : ∀ w ∈ Cond.classLink own ik cls :: Cond.initialized cls :: tx_at own ic cls ix rx names, vx_ot w = true)
    (hU : vx_Zq Bundle.tN "UNASSIGNED_STACK" Bundle.steD A s s.heap) (hN : vx_Zq Bundle.tN "SUPPRESSED_SENTINEL" Bundle.listD A s s.heap) (hS : va_S A s.heap H locs) (hsize : ls.size = c.maxLocals)
    (d0 : decode cc pc = .ok (.new ik, 3)) (d3 : decode cc (pc + 3) = .ok (.dup, 1)) (d4 : (decode cc (pc + 4) = .ok (.ldc is, 2) ∧ w = 6) ∨ (decode cc (pc + 4) = .ok (.ldc_w is, 3) ∧ w = 7)) (d7 : decode cc (pc + w) = .ok (.invokespecial ic, 3)) (d10 : decode cc (pc + w + 3) = .ok (.athrow, 1))
    (hout : ∀ x ∈ c.exceptionTable.toList, covers x (pc + w + 3) = false)
    (hRframes : names.length + 3 < R.frames) (hRlocals : (rest.map fun v => v.category).sum + (13 * (names.length + 1) + 43) ≤ R.locals) (hRcells : cells + 1 ≤ R.cells) (hRslots : slots + 6 ≤ R.slots) (hlocks : meth.locks = false)
    (hx : ∀ t : State, s.vm.Alike t.vm → H.size ≤ t.heap.size → (∀ q : Nat, q < H.size → t.heap[q]? = H[q]?) → XC cls s t)
    (hf : ∀ z ∈ locs, free z.base) (hc : cells + 1 ≤ mc) (hs : slots + 6 ≤ ms) :
    W p l e R s m args below meth c H locs cells slots (vx_MQ below Qc XC args s mc ms free) (F0 m pc ls rest) := by
  intro T hT X
  have htr : e.platform.stackTraces = false := (show e.platform.stackTraces = l.stackTraces by rw [X.admits.platform]).trans hl
  have Y := vx_rebase X (R' := { frames := R.frames, locals := R.locals, cells := 1, slots := 6 }) (Nat.le_refl _) (Nat.le_refl _) hRcells hRslots
  obtain ⟨s', hA⟩ : ∃ z, z = (T.setVm s.vm).setFrames (.invoking m args :: below) := ⟨_, rfl⟩
  rw [← hA] at Y
  have hvm : s'.vm = s.vm := by rw [hA]; rfl
  have hhp : s'.heap = H := by rw [hA]; exact hT
  have hW0 : s.WarmedH s'.vm := by rw [hvm]; exact State.WarmedH.refl s
  have hat' : ∀ w ∈ tx_at own ic cls ix rx names, w.before args s' = true := fun w hw => vx_ot_at hW0 hvm.symm (hgood w (List.mem_cons_of_mem _ (List.mem_cons_of_mem _ hw))) (hat w hw)
  have hk' : (Cond.classLink own ik cls).before args s' = true := vx_ot_at hW0 hvm.symm (hgood _ List.mem_cons_self) hk
  have hini' : (Cond.initialized cls).before args s' = true := vx_ot_at hW0 hvm.symm (hgood _ (List.mem_cons_of_mem _ List.mem_cons_self)) hini
  have hU' : vx_Zq Bundle.tN "UNASSIGNED_STACK" Bundle.steD A s' s'.heap := by rw [hhp]; exact vx_Zq.moved hW0.alike (hU.kept hS.2.1)
  have hN' : vx_Zq Bundle.tN "SUPPRESSED_SENTINEL" Bundle.listD A s' s'.heap := by rw [hhp]; exact vx_Zq.moved hW0.alike (hN.kept hS.2.1)
  have h : ∀ w ∈ Bundle.ownAtomsX own ic cls ix rx names, w.before args s' = true := vx_own hat' (vx_isRefq hU'.1) (vx_isRefq hN'.1) hU'.2.word hN'.2.word
  have hown' : s'.vm.findClass own = some m.cls := by rw [hvm]; exact hown
  have hins : (Cond.instantiable cls 6).before args s' = true := h _ (by simp [Bundle.ownAtomsX])
  obtain ⟨vm₁, cX, kX, hfX, hkX, -, -, X₁, st1⟩ := Y.newCold hexec (own := own) (C := cls) (index := ik) (n := 6) hown' hk' hins hini'
    (g := F0 m pc ls rest) rfl (by rw [hb]; exact d0) (Nat.le_refl _) (Nat.le_refl _)
  generalize hT1 : (T.setVm vm₁).pushCell { cls := cX, slots := kX.instanceTypes.map defaultValue, vm := .none } = T1 at X₁ st1
  have hcat : (Value.ref T.heap.size).category = 1 := rfl
  have hcellA : T1.heap[T.heap.size]? = some (freshCell cX kX) := by rw [← hT1]; exact State.heap_pushCell_size _ _
  have d3' : decode c.code (pc + 3) = .ok (.dup, 1) := by rw [hb]; exact d3
  have hstr' : vk_R own is text sa s' := vk_R.warm hW0 hstr
  obtain ⟨U, hsteps, hrun, hend, hW, hsame, ce, hce, hcl0, hcv⟩ := tx_ctor X₁ hexec htr x0 x1 x2 x5 (own := own) (cls := cls) (names := names) (ic := ic) hown' hcls hnames h (fun x hx => nomatch hx) hfX hkX hcellA (by rw [hhp, hT]; exact Nat.le_refl _) (msg := .ref sa) rfl
    (g := { method := m, pc := pc + w, locals := ls, stack := .ref sa :: .ref T.heap.size :: .ref T.heap.size :: rest, locked := none }) rfl hsize rfl rfl (rest := rest) rfl
    (by rw [hb]; exact d7) (by rw [hb]; exact d10) hout hRframes (by simp only [List.map_cons, List.sum_cons, hcat]; omega) hlocks
  obtain ⟨f1, f2⟩ := vx_frame hsame
  rw [hhp] at f1 f2
  have hWs : s.WarmedH U.vm := State.WarmedH.trans hW0 hW
  have hcl : s.vm.findClass cls = some ce.cls := by
    rw [hvm] at hcl0
    exact hcl0
  have hall : s.sameButNew ({ U with vm := s.vm } : State) locs mc ms := by
    subst hA
    obtain ⟨e1, e2⟩ := hsame
    rw [State.setFrames_setFrames] at e1
    have h2 : (T.setVm s.vm).sameButNew ({ U with vm := s.vm } : State) [] (0 + 1) (0 + 6) := ⟨e1, e2⟩
    have h3 := X.same.trans h2
    rw [List.append_nil] at h3
    exact h3.mono hc hs
  refine ⟨U, ?_, .threw T.heap.size, hrun, hend, Or.inr ⟨T.heap.size, rfl, cls, ce, locs, hx U hWs.alike f1 (fun q hq => f2 q hq (fun z hz => nomatch hz)), hce, hcv, hcl, hWs, hall, hf⟩⟩
  refine st1 _ ?_
  show Steps p.tables e below (T1.setTop { method := m, pc := pc + 3, locals := ls, stack := .ref T.heap.size :: rest, locked := none }) _
  jvm_step X₁.here [X₁.here.top, hexec, d3', Value.category]
  rcases d4 with ⟨d4, rfl⟩ | ⟨d4, rfl⟩
  · exact X₁.ldcString hexec (own := own) (text := text) (index := is) (a := sa) hown' hstr'.1 hstr'.2
      (g := { method := m, pc := pc + 4, locals := ls, stack := .ref T.heap.size :: .ref T.heap.size :: rest, locked := none }) rfl (by rw [hb]; exact d4) _ hsteps
  · exact X₁.ldcStringW hexec (own := own) (text := text) (index := is) (a := sa) hown' hstr'.1 hstr'.2
      (g := { method := m, pc := pc + 4, locals := ls, stack := .ref T.heap.size :: .ref T.heap.size :: rest, locked := none }) rfl (by rw [hb]; exact d4) _ hsteps
end TY
end
section
section VM
variable {G : GT} {Y Y2 : MT} {pc pc' : Nat} {ls ls' : List (Nat × Value)} {st : List Value} {u : MU} {c0 s0 : Nat} {Q Q1 : Option Value → MU → Prop} {QX QX1 : String → MU → Prop}
variable {I : Nat → Nat → Int32} {L : Nat → Nat → Int64} {R : Nat → Nat → Option Nat} {nx : Nat}
/-! throw new E("text") -/
def throwW (own : String) (ic : Nat) (E : String) : List Cond := vx_atS own ic E ["java/lang/RuntimeException", "java/lang/Exception"]
def TF (own : String) (ik ic : Nat) (E : String) : Prop := Cond.classLink own ik E ∈ GW ∧ Cond.initialized E ∈ GW ∧ Bundle.fit E = true ∧ (∀ w ∈ throwW own ic E, w ∈ GW ∨ w ∈ csts.map (fun q => Cond.castable q.1 q.2) ∨ w ∈ dcls.map Cond.declares) ∧ (∀ w ∈ Cond.classLink own ik E :: Cond.initialized E :: throwW own ic E, vx_ot w = true)
theorem tf_words {p : Program} {s : State} {m : MethodId} {args : Array Value} {meth : Method} {c : Code} (C : CX G Y p s m args meth c) {own E : String} {ik ic : Nat} (h : TF own ik ic E) : ∀ w ∈ throwW own ic E, w.before args s = true := by
  intro w hw
  rcases h.2.2.2.1 w hw with h1 | h1 | h1
  · exact cxw C w h1
  · obtain ⟨q, hq, rfl⟩ := List.mem_map.mp h1
    exact va_Nw.use rfl ((cxk C).2.2.1 q hq)
  · obtain ⟨q, hq, rfl⟩ := List.mem_map.mp h1
    exact va_Nw.use rfl ((cxk C).2.2.2.1 q hq)
theorem names_fit : ∀ n ∈ ["java/lang/RuntimeException", "java/lang/Exception"], Bundle.fit n = true := by decide +kernel
theorem HS.grow {H H1 : Heap} (h : HS G u H) (hq : ∀ q : Nat, q < H.size → H1[q]? = H[q]?) : HS G u H1 := ⟨h.1.kept (fun k x hx => hq x.1 ((h.1 k x hx).lt)), h.2⟩
theorem v_throw (k0 k3 k4 k6 k9 : Nat) {ik is ic pl : Nat} {E tx : String} (hd0 : (yP Y)[k0]? = some (pc, .new ik, 3)) (hd3 : (yP Y)[k3]? = some (pc + 3, .dup, 1)) (hd4 : (yP Y)[k4]? = some (pc + 4, .ldc is, 2)) (hd6 : (yP Y)[k6]? = some (pc + 6, .invokespecial ic, 3)) (hd9 : (yP Y)[k9]? = some (pc + 9, .athrow, 1))
    (hT : TF (yN Y).cls ik ic E) (hs : ((yN Y).cls, is, tx, pl) ∈ strs) (h0 : yH Y = []) (hf : 5 < (yR Y).frames) (hlo : (st.map fun v => v.category).sum + 82 ≤ (yR Y).locals) (hc : c0 + 1 ≤ (yR Y).cells) (hs6 : s0 + 6 ≤ (yR Y).slots) (hq : QX E u) : V G Y pc ls st u c0 s0 Q QX := by
  intro p e s m args below meth c C H locs arr hH hS hl hz
  have hK := cxk C
  refine vx_throwS (text := tx) (sa := gs G pl) (names := ["java/lang/RuntimeException", "java/lang/Exception"]) (A := AA G) (cxx C) (cxb C) hK.2.2.2.2.2.2.2.2.2 (cxo C) hT.2.2.1 names_fit (cxw C _ hT.1) (cxw C _ hT.2.1) (hK.2.2.2.2.2.2.2.1 _ hs) (tf_words C hT) hT.2.2.2.2 (cxs C).2.2.1 (cxs C).2.2.2.1 hS (by rw [cxm C]; exact hl.1) (cxd C hd0) (cxd C hd3) (cxd C hd4) (cxd C hd6) (cxd C hd9) ?_ hf ?_ hc hs6 (cxl C) ?_ hS.2.2 hc hs6
  · intro x hx
    rw [cxt C, h0] at hx
    exact absurd hx List.not_mem_nil
  · rw [List.map_map]
    have e9 : ((fun v : Value => v.category) ∘ cv G) = fun v => v.category := funext fun v => cv_cat G v
    rw [e9]
    exact hlo
  · intro t hal hle hq9
    exact ⟨u, hq, hH.grow hq9, Nat.le_trans hS.1 hle, fun q h1 h2 => (hq9 q (Nat.lt_of_lt_of_le h1 hS.1)).trans (hS.2.1 q h1 h2)⟩
theorem v_throwW (k0 k3 k4 k7 k10 : Nat) {ik is ic pl : Nat} {E tx : String} (hd0 : (yP Y)[k0]? = some (pc, .new ik, 3)) (hd3 : (yP Y)[k3]? = some (pc + 3, .dup, 1)) (hd4 : (yP Y)[k4]? = some (pc + 4, .ldc_w is, 3)) (hd7 : (yP Y)[k7]? = some (pc + 7, .invokespecial ic, 3)) (hd10 : (yP Y)[k10]? = some (pc + 10, .athrow, 1))
    (hT : TF (yN Y).cls ik ic E) (hs : ((yN Y).cls, is, tx, pl) ∈ strs) (h0 : yH Y = []) (hf : 5 < (yR Y).frames) (hlo : (st.map fun v => v.category).sum + 82 ≤ (yR Y).locals) (hc : c0 + 1 ≤ (yR Y).cells) (hs6 : s0 + 6 ≤ (yR Y).slots) (hq : QX E u) : V G Y pc ls st u c0 s0 Q QX := by
  intro p e s m args below meth c C H locs arr hH hS hl hz
  have hK := cxk C
  refine vx_throwSW (text := tx) (sa := gs G pl) (names := ["java/lang/RuntimeException", "java/lang/Exception"]) (A := AA G) (cxx C) (cxb C) hK.2.2.2.2.2.2.2.2.2 (cxo C) hT.2.2.1 names_fit (cxw C _ hT.1) (cxw C _ hT.2.1) (hK.2.2.2.2.2.2.2.1 _ hs) (tf_words C hT) hT.2.2.2.2 (cxs C).2.2.1 (cxs C).2.2.2.1 hS (by rw [cxm C]; exact hl.1) (cxd C hd0) (cxd C hd3) (cxd C hd4) (cxd C hd7) (cxd C hd10) ?_ hf ?_ hc hs6 (cxl C) ?_ hS.2.2 hc hs6
  · intro x hx
    rw [cxt C, h0] at hx
    exact absurd hx List.not_mem_nil
  · rw [List.map_map]
    have e9 : ((fun v : Value => v.category) ∘ cv G) = fun v => v.category := funext fun v => cv_cat G v
    rw [e9]
    exact hlo
  · intro t hal hle hq9
    exact ⟨u, hq, hH.grow hq9, Nat.le_trans hS.1 hle, fun q h1 h2 => (hq9 q (Nat.lt_of_lt_of_le h1 hS.1)).trans (hS.2.1 q h1 h2)⟩
def throwX (own : String) (ic : Nat) : List Cond := tx_at own ic "java/util/NoSuchElementException" 13 prog_29_method_4_code ["java/lang/RuntimeException", "java/lang/Exception"]
def TFX (own : String) (ik ic : Nat) : Prop := Cond.classLink own ik "java/util/NoSuchElementException" ∈ GW ∧ Cond.initialized "java/util/NoSuchElementException" ∈ GW ∧ (∀ w ∈ throwX own ic, w ∈ GW ∨ w ∈ csts.map (fun q => Cond.castable q.1 q.2) ∨ w ∈ dcls.map Cond.declares) ∧ (∀ w ∈ Cond.classLink own ik "java/util/NoSuchElementException" :: Cond.initialized "java/util/NoSuchElementException" :: throwX own ic, vx_ot w = true)
theorem nse_fit : Bundle.fit "java/util/NoSuchElementException" = true := by decide +kernel
theorem nse_0 : decode prog_29_method_4_code 0 = .ok (.aload_n 0, 1) := by decide +kernel
theorem nse_1 : decode prog_29_method_4_code 1 = .ok (.aload_n 1, 1) := by decide +kernel
theorem nse_2 : decode prog_29_method_4_code 2 = .ok (.invokespecial 13, 3) := by decide +kernel
theorem nse_5 : decode prog_29_method_4_code 5 = .ok (.return_, 1) := by decide +kernel
theorem v_throwX (k0 k3 k4 k7 k10 : Nat) {ik is ic pl w : Nat} {tx : String} (hd0 : (yP Y)[k0]? = some (pc, .new ik, 3)) (hd3 : (yP Y)[k3]? = some (pc + 3, .dup, 1)) (hd4 : ((yP Y)[k4]? = some (pc + 4, .ldc is, 2) ∧ w = 6) ∨ ((yP Y)[k4]? = some (pc + 4, .ldc_w is, 3) ∧ w = 7)) (hd7 : (yP Y)[k7]? = some (pc + w, .invokespecial ic, 3)) (hd10 : (yP Y)[k10]? = some (pc + w + 3, .athrow, 1))
    (hT : TFX (yN Y).cls ik ic) (hs : ((yN Y).cls, is, tx, pl) ∈ strs) (h0 : yH Y = []) (hf : 5 < (yR Y).frames) (hlo : (st.map fun v => v.category).sum + 82 ≤ (yR Y).locals) (hc : c0 + 1 ≤ (yR Y).cells) (hs6 : s0 + 6 ≤ (yR Y).slots) (hq : QX "java/util/NoSuchElementException" u) : V G Y pc ls st u c0 s0 Q QX := by
  intro p e s m args below meth c C H locs arr hH hS hl hz
  have hK := cxk C
  have hat : ∀ w ∈ throwX (yN Y).cls ic, w.before args s = true := by
    intro w9 hw
    rcases hT.2.2.1 w9 hw with h1 | h1 | h1
    · exact cxw C w9 h1
    · obtain ⟨q, hq, rfl⟩ := List.mem_map.mp h1
      exact va_Nw.use rfl ((cxk C).2.2.1 q hq)
    · obtain ⟨q, hq, rfl⟩ := List.mem_map.mp h1
      exact va_Nw.use rfl ((cxk C).2.2.2.1 q hq)
  refine tx_throw (text := tx) (sa := gs G pl) (names := ["java/lang/RuntimeException", "java/lang/Exception"]) (A := AA G) (w := w) (cxx C) (cxb C) hK.2.2.2.2.2.2.2.2.2 nse_0 nse_1 nse_2 nse_5 (cxo C) nse_fit names_fit (cxw C _ hT.1) (cxw C _ hT.2.1) (hK.2.2.2.2.2.2.2.1 _ hs) hat hT.2.2.2 (cxs C).2.2.1 (cxs C).2.2.2.1 hS (by rw [cxm C]; exact hl.1) (cxd C hd0) (cxd C hd3) (hd4.imp (fun q => ⟨cxd C q.1, q.2⟩) (fun q => ⟨cxd C q.1, q.2⟩)) (cxd C hd7) (cxd C hd10) ?_ hf ?_ hc hs6 (cxl C) ?_ hS.2.2 hc hs6
  · intro x hx
    rw [cxt C, h0] at hx
    exact absurd hx List.not_mem_nil
  · rw [List.map_map]
    have e9 : ((fun v : Value => v.category) ∘ cv G) = fun v => v.category := funext fun v => cv_cat G v
    rw [e9]
    exact hlo
  · intro t hal hle hq9
    exact ⟨u, hq, hH.grow hq9, Nat.le_trans hS.1 hle, fun q h1 h2 => (hq9 q (Nat.lt_of_lt_of_le h1 hS.1)).trans (hS.2.1 q h1 h2)⟩
/-! a text constant; its id is 458 + its place -/
theorem v_ldcS (k : Nat) {is pl : Nat} {tx : String} (hd : (yP Y)[k]? = some (pc, .ldc is, 2)) (hp : pc + 2 = pc') (hs : ((yN Y).cls, is, tx, pl) ∈ strs) (kk : V G Y pc' ls (.ref (458 + pl) :: st) u c0 s0 Q QX) : V G Y pc ls st u c0 s0 Q QX := by
  subst hp
  intro p e s m args below meth c C H locs arr hH hS hl hz
  have k2 := kk p e s m args below meth c C H locs arr hH hS hl hz
  have hcv : cv G (.ref (458 + pl)) = .ref (gs G pl) := by
    simp only [cv, AD]
    rw [if_neg (by omega), if_neg (by omega), Nat.add_sub_cancel_left]
  rw [List.map_cons, hcv] at k2
  exact va_ldcS (cxx C) (cxb C) (cxo C) ((cxk C).2.2.2.2.2.2.2.1 _ hs) (cxd C hd) k2
/-! System.arraycopy -/
def cpy {α : Type} (f : Nat → Nat → α) (a b sp dp n : Nat) : Nat → Nat → α := fun k j => if k = b then (if dp ≤ j ∧ j < dp + n then f a (sp + (j - dp)) else f b j) else f k j
theorem cpy_row {α : Type} {f : Nat → Nat → α} {a b sp dp n k : Nat} (h : k ≠ b) : cpy f a b sp dp n k = f k := by funext j; simp [cpy, h]
theorem cpy_own {α : Type} {f : Nat → Nat → α} {a b sp dp n : Nat} : cpy f a b sp dp n b = va_cpy (f a) (f b) sp dp n := by funext j; simp [cpy, va_cpy]
def CPF (own : String) (idx : Nat) : Prop := Cond.methodLink own idx arraycopyName ∈ GW ∧ Cond.native arraycopyName ∈ GW ∧ Cond.static arraycopyName ∈ GW ∧ Cond.initialized "java/lang/System" ∈ GW
theorem v_copyi (k : Nat) {idx a b n0 n1 : Nat} {sp dp n : Int32} (hd : (yP Y)[k]? = some (pc, .invokestatic idx, 3)) (hp : pc + 3 = pc') (hF : CPF (yN Y).cls idx) (ha : LAY a = 20) (hb : LAY b = 20) (hla : LEN a = n0) (hlb : LEN b = n1) (hxa : ST a nx) (hxb : ST b nx) (h1 : ¬ sp < 0) (h2 : ¬ dp < 0) (h3 : ¬ n < 0) (h4 : sp.toNatClampNeg + n.toNatClampNeg ≤ n0) (h5 : dp.toNatClampNeg + n.toNatClampNeg ≤ n1)
    (hf : 1 ≤ (yR Y).frames) (hlo : (st.map fun v => v.category).sum + (nativeFrameWords "java/lang/System" "arraycopy" 5 + 11) ≤ (yR Y).locals) (kk : V G Y pc' ls st (cpy I a b sp.toNatClampNeg dp.toNatClampNeg n.toNatClampNeg, L, R, nx) c0 s0 Q QX) : V G Y pc ls (.int n :: .int dp :: .ref b :: .int sp :: .ref a :: st) (I, L, R, nx) c0 s0 Q QX := by
  subst hp
  subst hla
  subst hlb
  intro p e s m args below meth c C H locs arr hH hS hl hz
  show W _ _ _ _ _ _ _ _ _ _ _ _ _ _ _ (F0 m pc arr (.int n :: .int dp :: cv G (.ref b) :: .int sp :: cv G (.ref a) :: st.map (cv G)))
  rw [cv_ref hH hxa, cv_ref hH hxb]
  have hset : (wl G (I, L, R, nx)).set (PO b) (g0 G + PO b, .inl (gA G 0, LEN b, .inl (va_cpy (I a) (I b) sp.toNatClampNeg dp.toNatClampNeg n.toNatClampNeg))) = wl G (cpy I a b sp.toNatClampNeg dp.toNatClampNeg n.toNatClampNeg, L, R, nx) := by
    have e9 : cel G (cpy I a b sp.toNatClampNeg dp.toNatClampNeg n.toNatClampNeg, L, R, nx) b = .inl (gA G 0, LEN b, .inl (va_cpy (I a) (I b) sp.toNatClampNeg dp.toNatClampNeg n.toNatClampNeg)) := by
      rw [cel_arr (t := 0) hb]
      simp only [dta, cpy_own]
    rw [← e9]
    exact wl_set G rfl (fun b9 hb9 => cel_same (cpy_row hb9) rfl rfl)
  refine va_copyi (cxx C) (cxb C) (by rw [cxm C]; exact hl.1.symm) (cxo C) (cxw C _ hF.1) (cxw C _ hF.2.1) (cxw C _ hF.2.2.1) (cxw C _ hF.2.2.2) (cxk C).1 hH.1 (wl_D G _) hS (PO a) (PO b) 0 0 (wl_arr hxa (t := 0) ha) (wl_arr hxb (t := 0) hb) (tys_get G (by decide)) (tys_get G (by decide)) rfl h1 h2 h3 h4 h5 (fun i hi => rfl) hf ?_ (cxd C hd) (fun H1 locs1 hP hD hS1 => ?_)
  · rw [List.map_map]
    have e9 : ((fun v : Value => v.category) ∘ cv G) = fun v => v.category := funext fun v => cv_cat G v
    rw [e9]
    exact hlo
  · have hP := (show va_P (gC G, gI G) clz ((wl G (I, L, R, nx)).set (PO b) (g0 G + PO b, .inl (gA G 0, LEN b, .inl (va_cpy (I a) (I b) sp.toNatClampNeg dp.toNatClampNeg n.toNatClampNeg)))) H1 from hP)
    rw [hset] at hP
    exact kk p e s m args below meth c C H1 locs1 arr ⟨hP, hH.2⟩ hS1 hl hz
theorem v_copyl (k : Nat) {idx a b n0 n1 : Nat} {sp dp n : Int32} (hd : (yP Y)[k]? = some (pc, .invokestatic idx, 3)) (hp : pc + 3 = pc') (hF : CPF (yN Y).cls idx) (ha : LAY a = 21) (hb : LAY b = 21) (hla : LEN a = n0) (hlb : LEN b = n1) (hxa : ST a nx) (hxb : ST b nx) (h1 : ¬ sp < 0) (h2 : ¬ dp < 0) (h3 : ¬ n < 0) (h4 : sp.toNatClampNeg + n.toNatClampNeg ≤ n0) (h5 : dp.toNatClampNeg + n.toNatClampNeg ≤ n1)
    (hf : 1 ≤ (yR Y).frames) (hlo : (st.map fun v => v.category).sum + (nativeFrameWords "java/lang/System" "arraycopy" 5 + 11) ≤ (yR Y).locals) (kk : V G Y pc' ls st (I, cpy L a b sp.toNatClampNeg dp.toNatClampNeg n.toNatClampNeg, R, nx) c0 s0 Q QX) : V G Y pc ls (.int n :: .int dp :: .ref b :: .int sp :: .ref a :: st) (I, L, R, nx) c0 s0 Q QX := by
  subst hp
  subst hla
  subst hlb
  intro p e s m args below meth c C H locs arr hH hS hl hz
  show W _ _ _ _ _ _ _ _ _ _ _ _ _ _ _ (F0 m pc arr (.int n :: .int dp :: cv G (.ref b) :: .int sp :: cv G (.ref a) :: st.map (cv G)))
  rw [cv_ref hH hxa, cv_ref hH hxb]
  have hset : (wl G (I, L, R, nx)).set (PO b) (g0 G + PO b, .inl (gA G 1, LEN b, .inr (.inl (va_cpy (L a) (L b) sp.toNatClampNeg dp.toNatClampNeg n.toNatClampNeg)))) = wl G (I, cpy L a b sp.toNatClampNeg dp.toNatClampNeg n.toNatClampNeg, R, nx) := by
    have e9 : cel G (I, cpy L a b sp.toNatClampNeg dp.toNatClampNeg n.toNatClampNeg, R, nx) b = .inl (gA G 1, LEN b, .inr (.inl (va_cpy (L a) (L b) sp.toNatClampNeg dp.toNatClampNeg n.toNatClampNeg))) := by
      rw [cel_arr (t := 1) hb]
      simp only [dta, cpy_own]
    rw [← e9]
    exact wl_set G rfl (fun b9 hb9 => cel_same rfl (cpy_row hb9) rfl)
  refine va_copyl (cxx C) (cxb C) (by rw [cxm C]; exact hl.1.symm) (cxo C) (cxw C _ hF.1) (cxw C _ hF.2.1) (cxw C _ hF.2.2.1) (cxw C _ hF.2.2.2) (cxk C).1 hH.1 (wl_D G _) hS (PO a) (PO b) 1 1 (wl_arr hxa (t := 1) ha) (wl_arr hxb (t := 1) hb) (tys_get G (by decide)) (tys_get G (by decide)) rfl h1 h2 h3 h4 h5 (fun i hi => rfl) hf ?_ (cxd C hd) (fun H1 locs1 hP hD hS1 => ?_)
  · rw [List.map_map]
    have e9 : ((fun v : Value => v.category) ∘ cv G) = fun v => v.category := funext fun v => cv_cat G v
    rw [e9]
    exact hlo
  · have hP := (show va_P (gC G, gI G) clz ((wl G (I, L, R, nx)).set (PO b) (g0 G + PO b, .inl (gA G 1, LEN b, .inr (.inl (va_cpy (L a) (L b) sp.toNatClampNeg dp.toNatClampNeg n.toNatClampNeg))))) H1 from hP)
    rw [hset] at hP
    exact kk p e s m args below meth c C H1 locs1 arr ⟨hP, hH.2⟩ hS1 hl hz
/-! array lengths -/
theorem v_alen (k : Nat) {a t n : Nat} (hd : (yP Y)[k]? = some (pc, .arraylength, 1)) (hp : pc + 1 = pc') (ha : LAY a = 20 + t) (ht : t < 8) (hn : LEN a = n) (hx : ST a u.2.2.2) (kk : V G Y pc' ls (.int (nI n) :: st) u c0 s0 Q QX) : V G Y pc ls (.ref a :: st) u c0 s0 Q QX := by
  subst hp
  subst hn
  intro p e s m args below meth c C H locs arr hH hS hl hz
  show W _ _ _ _ _ _ _ _ _ _ _ _ _ _ _ (F0 m pc arr (cv G (.ref a) :: st.map (cv G)))
  rw [cv_ref hH hx]
  exact va_alen (cxx C) (cxb C) (cxk C).1 hH.1 (PO a) t (wl_arr hx ha) (tys_get G ht) rfl (cxd C hd) (kk p e s m args below meth c C H locs arr hH hS hl hz)
/-! the script: id 457 -/
theorem AD_scr : AD G 457 = gb G := by simp [AD]
theorem v_slen (k : Nat) (hd : (yP Y)[k]? = some (pc, .arraylength, 1)) (hp : pc + 1 = pc') (kk : V G Y pc' ls (.int (nI (gL G)) :: st) u c0 s0 Q QX) : V G Y pc ls (.ref 457 :: st) u c0 s0 Q QX := by
  subst hp
  intro p e s m args below meth c C H locs arr hH hS hl hz
  show W _ _ _ _ _ _ _ _ _ _ _ _ _ _ _ (F0 m pc arr (.ref (AD G 457) :: st.map (cv G)))
  rw [AD_scr]
  have hX := cxs C
  exact va_slen (cxx C) (cxb C) hX.1 (Nat.lt_of_lt_of_le hX.2.1 (cxn C)) (Nat.not_le.mpr hX.2.1) hS (cxd C hd) (kk p e s m args below meth c C H locs arr hH hS hl hz)
theorem v_sld (k : Nat) {i : Int32} (hd : (yP Y)[k]? = some (pc, .iaload, 1)) (hp : pc + 1 = pc') (hi : vp_in i (gL G)) (kk : V G Y pc' ls (.int (gx G i.toNatClampNeg) :: st) u c0 s0 Q QX) : V G Y pc ls (.int i :: .ref 457 :: st) u c0 s0 Q QX := by
  subst hp
  intro p e s m args below meth c C H locs arr hH hS hl hz
  show W _ _ _ _ _ _ _ _ _ _ _ _ _ _ _ (F0 m pc arr (.int i :: .ref (AD G 457) :: st.map (cv G)))
  rw [AD_scr]
  have hX := cxs C
  exact va_sld (cxx C) (cxb C) hX.1 (Nat.lt_of_lt_of_le hX.2.1 (cxn C)) (Nat.not_le.mpr hX.2.1) hS hi (cxd C hd) (kk p e s m args below meth c C H locs arr hH hS hl hz)
end VM
end
section
section VMM
variable {G : GT} {Y Y2 : MT} {pc pc' : Nat} {ls ls' : List (Nat × Value)} {st : List Value} {u : MU} {c0 s0 : Nat} {Q Q1 : Option Value → MU → Prop} {QX QX1 : String → MU → Prop}
variable {I : Nat → Nat → Int32} {L : Nat → Nat → Int64} {R : Nat → Nat → Option Nat} {nx : Nat}
/-- the world behind new int[3][16] -/
def mnu (I : Nat → Nat → Int32) (L : Nat → Nat → Int64) (R : Nat → Nat → Option Nat) (nx : Nat) : MU :=
  (fun a j => if nx ≤ a ∧ a < nx + 4 then 0 else I a j, fun a j => if nx ≤ a ∧ a < nx + 4 then 0 else L a j, fun a j => if a = nx then (if j < 3 then some (nx + 1 + j) else none) else if nx ≤ a ∧ a < nx + 4 then none else R a j, nx + 4)
theorem mnu_old {k : Nat} (h : k < nx ∨ nx + 4 ≤ k) : cel G (mnu I L R nx) k = cel G (I, L, R, nx) k := by
  have h1 : ¬ (nx ≤ k ∧ k < nx + 4) := by omega
  have h2 : ¬ k = nx := by omega
  exact cel_same (by funext j; simp [mnu, h1]) (by funext j; simp [mnu, h1]) (by funext j; simp [mnu, h1, h2])
theorem v_mna (k : Nat) {idx : Nat} (hd : (yP Y)[k]? = some (pc, .multianewarray idx 2, 4)) (hp : pc + 4 = pc') (hk : Cond.classLink (yN Y).cls idx "[[I" ∈ GW) (har : Cond.arrayClass .int ∈ GW) (hl0 : LAY nx = 26) (hl1 : LAY (nx + 1) = 20) (hl2 : LAY (nx + 2) = 20) (hl3 : LAY (nx + 3) = 20) (hn0 : LEN nx = 3) (hn1 : LEN (nx + 1) = 16) (hn2 : LEN (nx + 2) = 16) (hn3 : LEN (nx + 3) = 16)
    (hx : nx + 4 ≤ 436) (hc : c0 + 4 ≤ (yR Y).cells) (hs : s0 + 51 ≤ (yR Y).slots) (kk : V G Y pc' ls (.ref nx :: st) (mnu I L R nx) (c0 + 4) (s0 + 51) Q QX) : V G Y pc ls (.int 16 :: .int 3 :: st) (I, L, R, nx) c0 s0 Q QX := by
  subst hp
  intro p e s m args below meth c C H locs arr hH hS hl hz
  refine W.le (fun hle => ?_)
  have hz1 : s.heap.size + c0 = g0 G + (nx + 2) := hz (by show nx < 457; omega)
  have hs9 : sc nx = nx + 2 := if_pos (by omega)
  have hsz : H.size = g0 G + (nx + 2) := by
    refine Nat.le_antisymm (by omega) ?_
    have h3 := (hH.1 (nx + 1) _ (wl_at G (I, L, R, nx) (by show nx + 1 < sc nx; omega))).lt
    have h4 : g0 G + (nx + 1) < H.size := h3
    omega
  have hcy : s.vm.findClass (FieldType.array .int).toString = some (gA G 0) := ((cxk C).1.2 0 _ (tys_get G (by decide))).2
  intro T hT X
  obtain ⟨vm₁, cA, comp, -, fA, fC, hO, -, X', step⟩ := X.multianewarray2F (cxx C) (cxo C) (cxw C _ hk) (va_AOA.use (cxk C).2.2.2.2.2.2.1) (cxw C _ har) (g := F0 m pc arr (.int 16 :: .int 3 :: st.map (cv G))) rfl (by rw [cxb C]; exact cxd C hd) rfl (by decide) (by decide) (by decide) (by decide) (by decide) rfl rfl (n := 3) (k := 16) (by show c0 + 4 ≤ _; exact hc) (by show s0 + 51 ≤ _; exact hs)
  have ec : gA G 0 = comp := Option.some.inj (hcy.symm.trans fC)
  subst ec
  have eA : cA = gA G 6 := Option.some.inj (fA.symm.trans ((cxk C).1.2 6 _ (tys_get G (by decide))).2)
  subst eA
  have hN3 : (3 : Int32).toNatClampNeg = 3 := by decide
  have hN16 : (16 : Int32).toNatClampNeg = 16 := by decide
  rw [hN3, hN16] at X' step
  generalize hF : Jvm.Free.Multi.fill (T.setVm vm₁) (gA G 6) (gA G 0) 3 16 (defaultValue .int) 3 = F at X' step
  have hTh : (T.setVm vm₁).heap = H := hT
  obtain ⟨f1, f2, -, -⟩ := Jvm.Free.Multi.fill_facts (T.setVm vm₁) (gA G 6) (gA G 0) 3 16 (defaultValue .int) 3
  rw [hF, hTh] at f1 f2
  have hold : ∀ x : Nat, x < H.size → F.heap[x]? = H[x]? := fun x hx9 => by
    have := Jvm.Free.Multi.fill_old (T.setVm vm₁) (gA G 6) (gA G 0) 3 16 (defaultValue .int) (a := x) (by rw [hTh]; exact hx9) 3
    rw [hF, hTh] at this
    exact this
  have hrow : ∀ j : Nat, j < 3 → F.heap[H.size + 1 + j]? = some (vp_cell (gA G 0) (16, .inl (fun _ => 0))) := fun j hj => by
    have h9 := Jvm.Free.Multi.fill_inner (T.setVm vm₁) (gA G 6) (gA G 0) 3 16 (defaultValue .int) 3 j hj
    rw [hF, hTh] at h9
    rw [h9, vp_cell_i]
    exact congrArg some (arrV_new (gA G 0) 16 (defaultValue .int))
  have hout : F.heap[H.size]? = some (vp_cell (gA G 6) (3, .inr (.inr (.inr (.inr (fun i => if i < 3 then some (H.size + 1 + i) else none)))))) := by
    rw [f2, vp_cell_q]
    exact congrArg some (vr_outer (gA G 6) 3 H.size 3)
  have hP' : va_P (gC G, gI G) clz (wl G (mnu I L R nx)) F.heap := by
    intro k9 q9 hk9
    obtain ⟨hlt, rfl⟩ := wl_getI hk9
    have hlt : k9 < sc (nx + 4) := hlt
    rw [show sc (nx + 4) = nx + 6 from if_pos (by omega)] at hlt
    rcases Nat.lt_or_ge k9 (nx + 2) with h | h
    · have hne : ID k9 < nx ∨ nx + 4 ≤ ID k9 := by
        unfold ID
        split
        · omega
        · rw [if_pos (by omega)]; omega
      rw [mnu_old hne]
      have h8 := hH.1 k9 _ (wl_at G (I, L, R, nx) (by show k9 < sc nx; omega))
      refine h8.kept (hold _ ?_)
      exact h8.lt
    · have hid : ID k9 = k9 - 2 := by unfold ID; rw [if_neg (by omega), if_pos (by omega)]
      rw [hid]
      rcases Nat.eq_or_lt_of_le h with h | h
      · subst h
        rw [show nx + 2 - 2 = nx by omega, cel_arr (t := 6) hl0]
        show F.heap[g0 G + (nx + 2)]? = some (vp_cell (gA G 6) (LEN nx, dta G (mnu I L R nx) nx 6))
        rw [← hsz, hout, hn0]
        congr 2
        simp only [dta, mnu]
        congr 5
        funext j
        by_cases hj : j < 3
        · simp only [hj, if_true, Option.map_some]
          rw [AD_in G (by omega), hsz, po_c (by omega)]
          congr 1
          omega
        · simp [hj]
      · have hm : ∀ j, j < 3 → k9 - 2 = nx + 1 + j → LAY (k9 - 2) = 20 → LEN (k9 - 2) = 16 → va_at (gC G, gI G) clz (g0 G + k9, cel G (mnu I L R nx) (k9 - 2)) F.heap := by
          intro j hj e h1 h2
          rw [cel_arr (t := 0) h1]
          show F.heap[g0 G + k9]? = some (vp_cell (gA G 0) (LEN (k9 - 2), dta G (mnu I L R nx) (k9 - 2) 0))
          rw [show g0 G + k9 = H.size + 1 + j by omega, hrow j hj, h2]
          congr 2
          simp only [dta, mnu]
          congr 2
          funext i
          rw [if_pos (by omega)]
        rcases (show k9 - 2 = nx + 1 ∨ k9 - 2 = nx + 2 ∨ k9 - 2 = nx + 3 by omega) with e | e | e
        · exact hm 0 (by decide) (by omega) (by rw [e]; exact hl1) (by rw [e]; exact hn1)
        · exact hm 1 (by decide) (by omega) (by rw [e]; exact hl2) (by rw [e]; exact hn2)
        · exact hm 2 (by decide) (by omega) (by rw [e]; exact hl3) (by rw [e]; exact hn3)
  have hS' : va_S (AA G) s.heap F.heap locs := ⟨by rw [f1]; have := hS.1; omega, fun x h1 h2 => (hold x (Nat.lt_of_lt_of_le h1 hS.1)).trans (hS.2.1 x h1 h2), hS.2.2⟩
  obtain ⟨t, a1, b1⟩ := kk p e s m args below meth c C F.heap locs arr ⟨hP', Or.inl (show nx + 4 ≤ 455 by omega)⟩ hS' hl (fun _ => by show s.heap.size + (c0 + 4) = g0 G + ((nx + 4) + 2); omega) F rfl X'
  refine ⟨t, step t ?_, b1⟩
  have e1 : T.heap.size = g0 G + (nx + 2) := by rw [hT]; exact hsz
  rw [e1]
  have hc2 : cv G (.ref nx) = .ref (g0 G + (nx + 2)) := by simp [cv, AD_in G (show nx < 457 by omega), po_c (show nx < 436 by omega)]
  rw [show ((Value.ref nx :: st).map (cv G)) = .ref (g0 G + (nx + 2)) :: st.map (cv G) by simp [hc2]] at a1
  exact a1
end VMM
end
section
section VT
variable {G : GT} {Y Y2 : MT} {pc pc' : Nat} {ls ls' : List (Nat × Value)} {st : List Value} {u : MU} {c0 s0 : Nat} {Q Q1 : Option Value → MU → Prop} {QX QX1 : String → MU → Prop}
theorem i32_of {x : Int32} {a : Int} (h : x.toInt = a) : x = Int32.ofInt a := by rw [← h]; exact (Int32.ofInt_toInt x).symm
theorem v_ts (k : Nat) {dflt lo hi : Int} {offs : Array Int} {len : Nat} {x clo chi : Int32} {dt : Nat} (n : Nat) (tg : List Nat) (hd : (yP Y)[k]? = some (pc, .tableswitch dflt lo hi offs, len)) (hn : lo + n = hi + 1) (hclo : clo.toInt = lo) (hchi : chi.toInt = hi)
    (ht : (List.range n).all (fun j => match offs[j]?, tg[j]? with | some o, some t => decide ((pc : Int) + o = (t : Int)) | _, _ => false) = true) (hdt : (pc : Int) + dflt = (dt : Int))
    (kin : ∀ j t : Nat, tg[j]? = some t → j < n → x = Int32.ofInt (lo + j) → V G Y t ls st u c0 s0 Q QX) (kout : (x < clo ∨ chi < x) → V G Y dt ls st u c0 s0 Q QX) : V G Y pc ls (.int x :: st) u c0 s0 Q QX := by
  by_cases h : x.toInt < lo ∨ hi < x.toInt
  · refine v_tsOut k hd h hdt (kout ?_)
    rcases h with h | h
    · exact Or.inl (Int32.lt_iff_toInt_lt.mpr (by rw [hclo]; exact h))
    · exact Or.inr (Int32.lt_iff_toInt_lt.mpr (by rw [hchi]; exact h))
  · have h1 : ¬ x.toInt < lo := fun q => h (Or.inl q)
    have h2 : ¬ hi < x.toInt := fun q => h (Or.inr q)
    have hj : (x.toInt - lo).toNat < n := by omega
    have h3 := List.all_eq_true.mp ht _ (List.mem_range.mpr hj)
    cases ho : offs[(x.toInt - lo).toNat]? with
    | none => simp [ho] at h3
    | some o =>
      cases hg : tg[(x.toInt - lo).toNat]? with
      | none => simp [ho, hg] at h3
      | some t =>
        simp only [ho, hg] at h3
        exact v_tsIn k hd h1 h2 ho (of_decide_eq_true h3) (kin _ t hg hj (i32_of (by omega)))
theorem v_lk2 (k : Nat) {dflt a1 a2 o1 o2 : Int} {len : Nat} {x c1 c2 : Int32} {dt t1 t2 : Nat} (hd : (yP Y)[k]? = some (pc, .lookupswitch dflt #[(a1, o1), (a2, o2)], len)) (hc1 : c1.toInt = a1) (hc2 : c2.toInt = a2) (hs : a1 < a2) (ht1 : (pc : Int) + o1 = (t1 : Int)) (ht2 : (pc : Int) + o2 = (t2 : Int)) (hdt : (pc : Int) + dflt = (dt : Int))
    (k1 : x = c1 → V G Y t1 ls st u c0 s0 Q QX) (k2 : x = c2 → V G Y t2 ls st u c0 s0 Q QX) (k3 : ¬ x = c1 → ¬ x = c2 → V G Y dt ls st u c0 s0 Q QX) : V G Y pc ls (.int x :: st) u c0 s0 Q QX := by
  intro p e s m args below meth c C H locs arr hH hS hl hz
  have hp : ((#[(a1, o1), (a2, o2)] : Array (Int × Int)).toList.zip ((#[(a1, o1), (a2, o2)] : Array (Int × Int)).toList.drop 1)).all (fun (a, next) => a.1 < next.1) = true := by simp [hs]
  by_cases h1 : x = c1
  · refine lv_lookup (cxx C) (cxb C) (cxd C hd) hp ?_ ht1 (k1 h1 p e s m args below meth c C H locs arr hH hS hl hz)
    rw [Op.lookupswitch.offset_cons, if_pos]
    rw [h1, hc1]
  · by_cases h2 : x = c2
    · refine lv_lookup (cxx C) (cxb C) (cxd C hd) hp ?_ ht2 (k2 h2 p e s m args below meth c C H locs arr hH hS hl hz)
      rw [lv_osw h1 hc1, Op.lookupswitch.offset_cons, if_pos]
      rw [h2, hc2]
    · refine lv_lookup (cxx C) (cxb C) (cxd C hd) hp ?_ hdt (k3 h1 h2 p e s m args below meth c C H locs arr hH hS hl hz)
      rw [lv_osw h1 hc1, lv_osw h2 hc2]
      rfl
theorem nm_int {P : Int32 → Prop} {e : Int32} (h : ∀ x, x = e → P x) : P e := h e rfl
end VT
/-! THE REGION: who stands where -/
def stL : List Nat := [3, 34, 65, 96, 127, 158, 189, 220, 251, 282, 313, 358, 400]
def bnOK (b : Nat) : Prop := b = 352 ∨ b = 394
def ckOK (c : Nat) : Prop := c = 353 ∨ c = 395
def stOK (a : Nat) : Prop := a ∈ stL
def txOK (t : Nat) : Prop := t = 345 ∨ t = 350
/-- the references that stand once all is made -/
def RS (k j : Nat) : Option Nat := match LAY k with
  | 0 => (match j with | 0 => some (k + 1) | 1 => some (k + 6) | 2 => some (k + 37) | 3 => some (k + 38) | 4 => some (k + 39) | 5 => some (k + 40) | 6 => some (k + 41) | _ => none)
  | 1 => if j < 4 then some (k + 1 + j) else none
  | 3 => (match j with | 0 => some 2 | 1 => some 3 | _ => none)
  | 4 => if j < 3 then some (347 + j) else none
  | 5 => (match j with | 0 => some (k + 1) | 1 => some (k + 5) | 2 => some (k + 6) | 3 => some (k + 7) | 4 => some (k + 8) | 5 => some (k + 9) | 6 => some (k + 10) | _ => none)
  | 8 => (match j with | 0 => some 437 | _ => none)
  | 24 => if j < 10 then some (34 + 31 * j) else none
  | 25 => if j < 20 then some (k + 1 + j) else none
  | 26 => if j < 3 then some (k + 1 + j) else none
  | _ => none
def RT (b d t : Nat) : Nat → Nat → Option Nat := fun k j => match k with
  | 0 => (match j with | 0 => some 1 | 1 => some 344 | 2 => some 346 | 3 => some 350 | 4 => some 351 | 5 => some b | 6 => some d | _ => none)
  | 344 => (match j with | 0 => some t | _ => none)
  | n => RS n j
theorem lay_457 {k c : Nat} (h : LAY k = c) (hc : c ≠ 99) : k < 457 := by
  rcases Nat.lt_or_ge k 457 with q | q
  · exact q
  · exfalso
    apply hc
    rw [← h]
    simp [LAY, List.getD_eq_getElem?_getD, List.getElem?_eq_none (show lay.length ≤ k by rw [lay_len]; exact q)]
theorem lay_w : ∀ k, k < 457 → 438 ≤ k → LAY k = 27 := by
  intro k h1 h2
  have h : ∀ j, j < 19 → LAY (438 + j) = 27 := by decide +kernel
  have := h (k - 438) (by omega)
  rwa [show 438 + (k - 438) = k by omega] at this
theorem lay_lt {k c : Nat} (h : LAY k = c) (hc : c ≠ 99 ∧ c ≠ 27) : ST k 457 := by
  refine st_a ?_
  have h1 := lay_457 h hc.1
  rcases Nat.lt_or_ge k 438 with q | q
  · exact q
  · exact absurd ((lay_w k h1 q).symm.trans h).symm hc.2
theorem lay_n {k c n : Nat} (h : LAY k = c) (hc : c ≠ 99 ∧ c ≠ 27) (hn : 436 ≤ n) : ST k n := by
  have h1 : PO k < 438 := lay_lt h hc
  show PO k < sc n
  unfold sc
  split <;> omega
def bnE : List Nat := [352, 394]
def ckE : List Nat := [353, 395]
def stE : List Nat := stL
def txE : List Nat := [345, 350]
theorem bn_mem {a : Nat} (h : bnOK a) : a ∈ bnE := by rcases h with rfl | rfl <;> decide
theorem ck_mem {a : Nat} (h : ckOK a) : a ∈ ckE := by rcases h with rfl | rfl <;> decide
theorem st_mem {a : Nat} (h : stOK a) : a ∈ stE := h
theorem tx_mem {a : Nat} (h : txOK a) : a ∈ txE := by rcases h with rfl | rfl <;> decide
theorem bn0l {a : Nat} (h : bnOK a) : LAY (a) = 0 := (show ∀ x ∈ bnE, LAY (x + 0) = 0 by decide +kernel) a (bn_mem h)
theorem bn0n {a : Nat} (h : bnOK a) : LEN (a) = 7 := (show ∀ x ∈ bnE, LEN (x + 0) = 7 by decide +kernel) a (bn_mem h)
theorem bn1l {a : Nat} (h : bnOK a) : LAY (a + 1) = 1 := (show ∀ x ∈ bnE, LAY (x + 1) = 1 by decide +kernel) a (bn_mem h)
theorem bn1n {a : Nat} (h : bnOK a) : LEN (a + 1) = 9 := (show ∀ x ∈ bnE, LEN (x + 1) = 9 by decide +kernel) a (bn_mem h)
theorem bn2l {a : Nat} (h : bnOK a) : LAY (a + 2) = 20 := (show ∀ x ∈ bnE, LAY (x + 2) = 20 by decide +kernel) a (bn_mem h)
theorem bn2n {a : Nat} (h : bnOK a) : LEN (a + 2) = 16 := (show ∀ x ∈ bnE, LEN (x + 2) = 16 by decide +kernel) a (bn_mem h)
theorem bn3l {a : Nat} (h : bnOK a) : LAY (a + 3) = 20 := (show ∀ x ∈ bnE, LAY (x + 3) = 20 by decide +kernel) a (bn_mem h)
theorem bn3n {a : Nat} (h : bnOK a) : LEN (a + 3) = 16 := (show ∀ x ∈ bnE, LEN (x + 3) = 16 by decide +kernel) a (bn_mem h)
theorem bn4l {a : Nat} (h : bnOK a) : LAY (a + 4) = 20 := (show ∀ x ∈ bnE, LAY (x + 4) = 20 by decide +kernel) a (bn_mem h)
theorem bn4n {a : Nat} (h : bnOK a) : LEN (a + 4) = 16 := (show ∀ x ∈ bnE, LEN (x + 4) = 16 by decide +kernel) a (bn_mem h)
theorem bn5l {a : Nat} (h : bnOK a) : LAY (a + 5) = 20 := (show ∀ x ∈ bnE, LAY (x + 5) = 20 by decide +kernel) a (bn_mem h)
theorem bn5n {a : Nat} (h : bnOK a) : LEN (a + 5) = 16 := (show ∀ x ∈ bnE, LEN (x + 5) = 16 by decide +kernel) a (bn_mem h)
theorem bn6l {a : Nat} (h : bnOK a) : LAY (a + 6) = 5 := (show ∀ x ∈ bnE, LAY (x + 6) = 5 by decide +kernel) a (bn_mem h)
theorem bn6n {a : Nat} (h : bnOK a) : LEN (a + 6) = 9 := (show ∀ x ∈ bnE, LEN (x + 6) = 9 by decide +kernel) a (bn_mem h)
theorem bn7l {a : Nat} (h : bnOK a) : LAY (a + 7) = 26 := (show ∀ x ∈ bnE, LAY (x + 7) = 26 by decide +kernel) a (bn_mem h)
theorem bn7n {a : Nat} (h : bnOK a) : LEN (a + 7) = 3 := (show ∀ x ∈ bnE, LEN (x + 7) = 3 by decide +kernel) a (bn_mem h)
theorem bn8l {a : Nat} (h : bnOK a) : LAY (a + 8) = 20 := (show ∀ x ∈ bnE, LAY (x + 8) = 20 by decide +kernel) a (bn_mem h)
theorem bn8n {a : Nat} (h : bnOK a) : LEN (a + 8) = 16 := (show ∀ x ∈ bnE, LEN (x + 8) = 16 by decide +kernel) a (bn_mem h)
theorem bn9l {a : Nat} (h : bnOK a) : LAY (a + 9) = 20 := (show ∀ x ∈ bnE, LAY (x + 9) = 20 by decide +kernel) a (bn_mem h)
theorem bn9n {a : Nat} (h : bnOK a) : LEN (a + 9) = 16 := (show ∀ x ∈ bnE, LEN (x + 9) = 16 by decide +kernel) a (bn_mem h)
theorem bn10l {a : Nat} (h : bnOK a) : LAY (a + 10) = 20 := (show ∀ x ∈ bnE, LAY (x + 10) = 20 by decide +kernel) a (bn_mem h)
theorem bn10n {a : Nat} (h : bnOK a) : LEN (a + 10) = 16 := (show ∀ x ∈ bnE, LEN (x + 10) = 16 by decide +kernel) a (bn_mem h)
theorem bn11l {a : Nat} (h : bnOK a) : LAY (a + 11) = 21 := (show ∀ x ∈ bnE, LAY (x + 11) = 21 by decide +kernel) a (bn_mem h)
theorem bn11n {a : Nat} (h : bnOK a) : LEN (a + 11) = 4 := (show ∀ x ∈ bnE, LEN (x + 11) = 4 by decide +kernel) a (bn_mem h)
theorem bn12l {a : Nat} (h : bnOK a) : LAY (a + 12) = 21 := (show ∀ x ∈ bnE, LAY (x + 12) = 21 by decide +kernel) a (bn_mem h)
theorem bn12n {a : Nat} (h : bnOK a) : LEN (a + 12) = 16 := (show ∀ x ∈ bnE, LEN (x + 12) = 16 by decide +kernel) a (bn_mem h)
theorem bn13l {a : Nat} (h : bnOK a) : LAY (a + 13) = 21 := (show ∀ x ∈ bnE, LAY (x + 13) = 21 by decide +kernel) a (bn_mem h)
theorem bn13n {a : Nat} (h : bnOK a) : LEN (a + 13) = 16 := (show ∀ x ∈ bnE, LEN (x + 13) = 16 by decide +kernel) a (bn_mem h)
theorem bn14l {a : Nat} (h : bnOK a) : LAY (a + 14) = 21 := (show ∀ x ∈ bnE, LAY (x + 14) = 21 by decide +kernel) a (bn_mem h)
theorem bn14n {a : Nat} (h : bnOK a) : LEN (a + 14) = 16 := (show ∀ x ∈ bnE, LEN (x + 14) = 16 by decide +kernel) a (bn_mem h)
theorem bn15l {a : Nat} (h : bnOK a) : LAY (a + 15) = 20 := (show ∀ x ∈ bnE, LAY (x + 15) = 20 by decide +kernel) a (bn_mem h)
theorem bn15n {a : Nat} (h : bnOK a) : LEN (a + 15) = 3 := (show ∀ x ∈ bnE, LEN (x + 15) = 3 by decide +kernel) a (bn_mem h)
theorem bn16l {a : Nat} (h : bnOK a) : LAY (a + 16) = 25 := (show ∀ x ∈ bnE, LAY (x + 16) = 25 by decide +kernel) a (bn_mem h)
theorem bn16n {a : Nat} (h : bnOK a) : LEN (a + 16) = 20 := (show ∀ x ∈ bnE, LEN (x + 16) = 20 by decide +kernel) a (bn_mem h)
theorem bn37l {a : Nat} (h : bnOK a) : LAY (a + 37) = 21 := (show ∀ x ∈ bnE, LAY (x + 37) = 21 by decide +kernel) a (bn_mem h)
theorem bn37n {a : Nat} (h : bnOK a) : LEN (a + 37) = 16 := (show ∀ x ∈ bnE, LEN (x + 37) = 16 by decide +kernel) a (bn_mem h)
theorem bn38l {a : Nat} (h : bnOK a) : LAY (a + 38) = 21 := (show ∀ x ∈ bnE, LAY (x + 38) = 21 by decide +kernel) a (bn_mem h)
theorem bn38n {a : Nat} (h : bnOK a) : LEN (a + 38) = 16 := (show ∀ x ∈ bnE, LEN (x + 38) = 16 by decide +kernel) a (bn_mem h)
theorem bn39l {a : Nat} (h : bnOK a) : LAY (a + 39) = 21 := (show ∀ x ∈ bnE, LAY (x + 39) = 21 by decide +kernel) a (bn_mem h)
theorem bn39n {a : Nat} (h : bnOK a) : LEN (a + 39) = 16 := (show ∀ x ∈ bnE, LEN (x + 39) = 16 by decide +kernel) a (bn_mem h)
theorem bn40l {a : Nat} (h : bnOK a) : LAY (a + 40) = 21 := (show ∀ x ∈ bnE, LAY (x + 40) = 21 by decide +kernel) a (bn_mem h)
theorem bn40n {a : Nat} (h : bnOK a) : LEN (a + 40) = 16 := (show ∀ x ∈ bnE, LEN (x + 40) = 16 by decide +kernel) a (bn_mem h)
theorem bn41l {a : Nat} (h : bnOK a) : LAY (a + 41) = 20 := (show ∀ x ∈ bnE, LAY (x + 41) = 20 by decide +kernel) a (bn_mem h)
theorem bn41n {a : Nat} (h : bnOK a) : LEN (a + 41) = 16 := (show ∀ x ∈ bnE, LEN (x + 41) = 16 by decide +kernel) a (bn_mem h)
theorem ck0l {a : Nat} (h : ckOK a) : LAY (a) = 1 := (show ∀ x ∈ ckE, LAY (x + 0) = 1 by decide +kernel) a (ck_mem h)
theorem ck0n {a : Nat} (h : ckOK a) : LEN (a) = 9 := (show ∀ x ∈ ckE, LEN (x + 0) = 9 by decide +kernel) a (ck_mem h)
theorem ck1l {a : Nat} (h : ckOK a) : LAY (a + 1) = 20 := (show ∀ x ∈ ckE, LAY (x + 1) = 20 by decide +kernel) a (ck_mem h)
theorem ck1n {a : Nat} (h : ckOK a) : LEN (a + 1) = 16 := (show ∀ x ∈ ckE, LEN (x + 1) = 16 by decide +kernel) a (ck_mem h)
theorem ck2l {a : Nat} (h : ckOK a) : LAY (a + 2) = 20 := (show ∀ x ∈ ckE, LAY (x + 2) = 20 by decide +kernel) a (ck_mem h)
theorem ck2n {a : Nat} (h : ckOK a) : LEN (a + 2) = 16 := (show ∀ x ∈ ckE, LEN (x + 2) = 16 by decide +kernel) a (ck_mem h)
theorem ck3l {a : Nat} (h : ckOK a) : LAY (a + 3) = 20 := (show ∀ x ∈ ckE, LAY (x + 3) = 20 by decide +kernel) a (ck_mem h)
theorem ck3n {a : Nat} (h : ckOK a) : LEN (a + 3) = 16 := (show ∀ x ∈ ckE, LEN (x + 3) = 16 by decide +kernel) a (ck_mem h)
theorem ck4l {a : Nat} (h : ckOK a) : LAY (a + 4) = 20 := (show ∀ x ∈ ckE, LAY (x + 4) = 20 by decide +kernel) a (ck_mem h)
theorem ck4n {a : Nat} (h : ckOK a) : LEN (a + 4) = 16 := (show ∀ x ∈ ckE, LEN (x + 4) = 16 by decide +kernel) a (ck_mem h)
theorem st0l {a : Nat} (h : stOK a) : LAY (a) = 5 := (show ∀ x ∈ stE, LAY (x + 0) = 5 by decide +kernel) a (st_mem h)
theorem st0n {a : Nat} (h : stOK a) : LEN (a) = 9 := (show ∀ x ∈ stE, LEN (x + 0) = 9 by decide +kernel) a (st_mem h)
theorem st1l {a : Nat} (h : stOK a) : LAY (a + 1) = 26 := (show ∀ x ∈ stE, LAY (x + 1) = 26 by decide +kernel) a (st_mem h)
theorem st1n {a : Nat} (h : stOK a) : LEN (a + 1) = 3 := (show ∀ x ∈ stE, LEN (x + 1) = 3 by decide +kernel) a (st_mem h)
theorem st2l {a : Nat} (h : stOK a) : LAY (a + 2) = 20 := (show ∀ x ∈ stE, LAY (x + 2) = 20 by decide +kernel) a (st_mem h)
theorem st2n {a : Nat} (h : stOK a) : LEN (a + 2) = 16 := (show ∀ x ∈ stE, LEN (x + 2) = 16 by decide +kernel) a (st_mem h)
theorem st3l {a : Nat} (h : stOK a) : LAY (a + 3) = 20 := (show ∀ x ∈ stE, LAY (x + 3) = 20 by decide +kernel) a (st_mem h)
theorem st3n {a : Nat} (h : stOK a) : LEN (a + 3) = 16 := (show ∀ x ∈ stE, LEN (x + 3) = 16 by decide +kernel) a (st_mem h)
theorem st4l {a : Nat} (h : stOK a) : LAY (a + 4) = 20 := (show ∀ x ∈ stE, LAY (x + 4) = 20 by decide +kernel) a (st_mem h)
theorem st4n {a : Nat} (h : stOK a) : LEN (a + 4) = 16 := (show ∀ x ∈ stE, LEN (x + 4) = 16 by decide +kernel) a (st_mem h)
theorem st5l {a : Nat} (h : stOK a) : LAY (a + 5) = 21 := (show ∀ x ∈ stE, LAY (x + 5) = 21 by decide +kernel) a (st_mem h)
theorem st5n {a : Nat} (h : stOK a) : LEN (a + 5) = 4 := (show ∀ x ∈ stE, LEN (x + 5) = 4 by decide +kernel) a (st_mem h)
theorem st6l {a : Nat} (h : stOK a) : LAY (a + 6) = 21 := (show ∀ x ∈ stE, LAY (x + 6) = 21 by decide +kernel) a (st_mem h)
theorem st6n {a : Nat} (h : stOK a) : LEN (a + 6) = 16 := (show ∀ x ∈ stE, LEN (x + 6) = 16 by decide +kernel) a (st_mem h)
theorem st7l {a : Nat} (h : stOK a) : LAY (a + 7) = 21 := (show ∀ x ∈ stE, LAY (x + 7) = 21 by decide +kernel) a (st_mem h)
theorem st7n {a : Nat} (h : stOK a) : LEN (a + 7) = 16 := (show ∀ x ∈ stE, LEN (x + 7) = 16 by decide +kernel) a (st_mem h)
theorem st8l {a : Nat} (h : stOK a) : LAY (a + 8) = 21 := (show ∀ x ∈ stE, LAY (x + 8) = 21 by decide +kernel) a (st_mem h)
theorem st8n {a : Nat} (h : stOK a) : LEN (a + 8) = 16 := (show ∀ x ∈ stE, LEN (x + 8) = 16 by decide +kernel) a (st_mem h)
theorem st9l {a : Nat} (h : stOK a) : LAY (a + 9) = 20 := (show ∀ x ∈ stE, LAY (x + 9) = 20 by decide +kernel) a (st_mem h)
theorem st9n {a : Nat} (h : stOK a) : LEN (a + 9) = 3 := (show ∀ x ∈ stE, LEN (x + 9) = 3 by decide +kernel) a (st_mem h)
theorem st10l {a : Nat} (h : stOK a) : LAY (a + 10) = 25 := (show ∀ x ∈ stE, LAY (x + 10) = 25 by decide +kernel) a (st_mem h)
theorem st10n {a : Nat} (h : stOK a) : LEN (a + 10) = 20 := (show ∀ x ∈ stE, LEN (x + 10) = 20 by decide +kernel) a (st_mem h)
theorem tx0l {a : Nat} (h : txOK a) : LAY a = 22 := by rcases h with rfl | rfl <;> decide +kernel
theorem tx0n {a : Nat} (h : txOK a) : LEN a = LEN a := rfl
theorem bn_ck {a : Nat} (h : bnOK a) : ckOK (a + 1) := by rcases h with rfl | rfl; exact Or.inl rfl; exact Or.inr rfl
theorem bn_st {a : Nat} (h : bnOK a) : stOK (a + 6) := by rcases h with rfl | rfl <;> (show _ ∈ stL; decide)
theorem st_disl {a : Nat} (h : stOK a) {i : Nat} (hi : i < 20) : LAY (a + 11 + i) = 2 := (show ∀ x ∈ stE, ∀ j, j < 20 → LAY (x + 11 + j) = 2 by decide +kernel) a h i hi
theorem st_rowl {a : Nat} (h : stOK a) {i : Nat} (hi : i < 3) : LAY (a + 2 + i) = 20 := (show ∀ x ∈ stE, ∀ j, j < 3 → LAY (x + 2 + j) = 20 by decide +kernel) a h i hi
theorem st_rown {a : Nat} (h : stOK a) {i : Nat} (hi : i < 3) : LEN (a + 2 + i) = 16 := (show ∀ x ∈ stE, ∀ j, j < 3 → LEN (x + 2 + j) = 16 by decide +kernel) a h i hi
theorem hs_row {i : Nat} (hi : i < 10) : stOK (34 + 31 * i) := (show ∀ j, j < 10 → 34 + 31 * j ∈ stL by decide +kernel) i hi
theorem st_lt {a : Nat} (h : stOK a) : a + 31 ≤ 457 := (show ∀ x ∈ stE, x + 31 ≤ 457 by decide +kernel) a h
theorem st_3 : stOK 3 := (by decide : 3 ∈ stL)
theorem st_34 : stOK 34 := (by decide : 34 ∈ stL)
theorem st_65 : stOK 65 := (by decide : 65 ∈ stL)
theorem st_96 : stOK 96 := (by decide : 96 ∈ stL)
theorem st_127 : stOK 127 := (by decide : 127 ∈ stL)
theorem st_158 : stOK 158 := (by decide : 158 ∈ stL)
theorem st_189 : stOK 189 := (by decide : 189 ∈ stL)
theorem st_220 : stOK 220 := (by decide : 220 ∈ stL)
theorem st_251 : stOK 251 := (by decide : 251 ∈ stL)
theorem st_282 : stOK 282 := (by decide : 282 ∈ stL)
theorem st_313 : stOK 313 := (by decide : 313 ∈ stL)
theorem st_358 : stOK 358 := (by decide : 358 ∈ stL)
theorem st_400 : stOK 400 := (by decide : 400 ∈ stL)
theorem vp_nat {i : Int32} {n : Nat} (h : vp_in i n) : i.toNatClampNeg < n := Nat.not_le.mp fun q => h (Or.inr q)
section RTL
variable {b d t : Nat}
theorem rt_rs {a j : Nat} {v : Option Nat} (h : a ≠ 0 ∧ a ≠ 344 ∧ RS a j = v) : RT b d t a j = v := by
  obtain ⟨h1, h2, h3⟩ := h
  unfold RT
  split
  · exact absurd rfl h1
  · exact absurd rfl h2
  · exact h3
theorem rt_bn_0 {a : Nat} (h : bnOK a) : RT b d t a 0 = some (a + 1) := (show ∀ x ∈ bnE, x ≠ 0 ∧ x ≠ 344 ∧ RS x 0 = some (x + 1) by decide +kernel) a (bn_mem h) |> rt_rs
theorem rt_bn_1 {a : Nat} (h : bnOK a) : RT b d t a 1 = some (a + 6) := (show ∀ x ∈ bnE, x ≠ 0 ∧ x ≠ 344 ∧ RS x 1 = some (x + 6) by decide +kernel) a (bn_mem h) |> rt_rs
theorem rt_bn_2 {a : Nat} (h : bnOK a) : RT b d t a 2 = some (a + 37) := (show ∀ x ∈ bnE, x ≠ 0 ∧ x ≠ 344 ∧ RS x 2 = some (x + 37) by decide +kernel) a (bn_mem h) |> rt_rs
theorem rt_bn_3 {a : Nat} (h : bnOK a) : RT b d t a 3 = some (a + 38) := (show ∀ x ∈ bnE, x ≠ 0 ∧ x ≠ 344 ∧ RS x 3 = some (x + 38) by decide +kernel) a (bn_mem h) |> rt_rs
theorem rt_bn_4 {a : Nat} (h : bnOK a) : RT b d t a 4 = some (a + 39) := (show ∀ x ∈ bnE, x ≠ 0 ∧ x ≠ 344 ∧ RS x 4 = some (x + 39) by decide +kernel) a (bn_mem h) |> rt_rs
theorem rt_bn_5 {a : Nat} (h : bnOK a) : RT b d t a 5 = some (a + 40) := (show ∀ x ∈ bnE, x ≠ 0 ∧ x ≠ 344 ∧ RS x 5 = some (x + 40) by decide +kernel) a (bn_mem h) |> rt_rs
theorem rt_bn_6 {a : Nat} (h : bnOK a) : RT b d t a 6 = some (a + 41) := (show ∀ x ∈ bnE, x ≠ 0 ∧ x ≠ 344 ∧ RS x 6 = some (x + 41) by decide +kernel) a (bn_mem h) |> rt_rs
theorem rt_ck_0 {a : Nat} (h : ckOK a) : RT b d t a 0 = some (a + 1) := (show ∀ x ∈ ckE, x ≠ 0 ∧ x ≠ 344 ∧ RS x 0 = some (x + 1) by decide +kernel) a (ck_mem h) |> rt_rs
theorem rt_ck_1 {a : Nat} (h : ckOK a) : RT b d t a 1 = some (a + 2) := (show ∀ x ∈ ckE, x ≠ 0 ∧ x ≠ 344 ∧ RS x 1 = some (x + 2) by decide +kernel) a (ck_mem h) |> rt_rs
theorem rt_ck_2 {a : Nat} (h : ckOK a) : RT b d t a 2 = some (a + 3) := (show ∀ x ∈ ckE, x ≠ 0 ∧ x ≠ 344 ∧ RS x 2 = some (x + 3) by decide +kernel) a (ck_mem h) |> rt_rs
theorem rt_ck_3 {a : Nat} (h : ckOK a) : RT b d t a 3 = some (a + 4) := (show ∀ x ∈ ckE, x ≠ 0 ∧ x ≠ 344 ∧ RS x 3 = some (x + 4) by decide +kernel) a (ck_mem h) |> rt_rs
theorem rt_st_0 {a : Nat} (h : stOK a) : RT b d t a 0 = some (a + 1) := (show ∀ x ∈ stE, x ≠ 0 ∧ x ≠ 344 ∧ RS x 0 = some (x + 1) by decide +kernel) a (st_mem h) |> rt_rs
theorem rt_st_1 {a : Nat} (h : stOK a) : RT b d t a 1 = some (a + 5) := (show ∀ x ∈ stE, x ≠ 0 ∧ x ≠ 344 ∧ RS x 1 = some (x + 5) by decide +kernel) a (st_mem h) |> rt_rs
theorem rt_st_2 {a : Nat} (h : stOK a) : RT b d t a 2 = some (a + 6) := (show ∀ x ∈ stE, x ≠ 0 ∧ x ≠ 344 ∧ RS x 2 = some (x + 6) by decide +kernel) a (st_mem h) |> rt_rs
theorem rt_st_3 {a : Nat} (h : stOK a) : RT b d t a 3 = some (a + 7) := (show ∀ x ∈ stE, x ≠ 0 ∧ x ≠ 344 ∧ RS x 3 = some (x + 7) by decide +kernel) a (st_mem h) |> rt_rs
theorem rt_st_4 {a : Nat} (h : stOK a) : RT b d t a 4 = some (a + 8) := (show ∀ x ∈ stE, x ≠ 0 ∧ x ≠ 344 ∧ RS x 4 = some (x + 8) by decide +kernel) a (st_mem h) |> rt_rs
theorem rt_st_5 {a : Nat} (h : stOK a) : RT b d t a 5 = some (a + 9) := (show ∀ x ∈ stE, x ≠ 0 ∧ x ≠ 344 ∧ RS x 5 = some (x + 9) by decide +kernel) a (st_mem h) |> rt_rs
theorem rt_st_6 {a : Nat} (h : stOK a) : RT b d t a 6 = some (a + 10) := (show ∀ x ∈ stE, x ≠ 0 ∧ x ≠ 344 ∧ RS x 6 = some (x + 10) by decide +kernel) a (st_mem h) |> rt_rs
theorem rt_dis {a : Nat} (h : stOK a) {i : Nat} (hi : i < 20) : RT b d t (a + 10) i = some (a + 11 + i) := (show ∀ x ∈ stE, ∀ j, j < 20 → x + 10 ≠ 0 ∧ x + 10 ≠ 344 ∧ RS (x + 10) j = some (x + 11 + j) by decide +kernel) a h i hi |> rt_rs
theorem rt_row {a : Nat} (h : stOK a) {i : Nat} (hi : i < 3) : RT b d t (a + 1) i = some (a + 2 + i) := (show ∀ x ∈ stE, ∀ j, j < 3 → x + 1 ≠ 0 ∧ x + 1 ≠ 344 ∧ RS (x + 1) j = some (x + 2 + j) by decide +kernel) a h i hi |> rt_rs
theorem rt_hs {i : Nat} (hi : i < 10) : RT b d t 2 i = some (34 + 31 * i) := (show ∀ j, j < 10 → RS 2 j = some (34 + 31 * j) by decide +kernel) i hi
theorem rt_0_0 : RT b d t 0 0 = some 1 := rfl
theorem rt_0_1 : RT b d t 0 1 = some 344 := rfl
theorem rt_0_2 : RT b d t 0 2 = some 346 := rfl
theorem rt_0_3 : RT b d t 0 3 = some 350 := rfl
theorem rt_0_4 : RT b d t 0 4 = some 351 := rfl
theorem rt_0_5 : RT b d t 0 5 = some b := rfl
theorem rt_0_6 : RT b d t 0 6 = some d := rfl
theorem rt_344_0 : RT b d t 344 0 = some t := rfl
theorem rt_1_0 : RT b d t 1 0 = some 2 := (by decide +kernel : RS 1 0 = some 2)
theorem rt_1_1 : RT b d t 1 1 = some 3 := (by decide +kernel : RS 1 1 = some 3)
theorem rt_346_0 : RT b d t 346 0 = some 347 := (by decide +kernel : RS 346 0 = some 347)
theorem rt_346_1 : RT b d t 346 1 = some 348 := (by decide +kernel : RS 346 1 = some 348)
theorem rt_436_0 : RT b d t 436 0 = some 437 := (by decide +kernel : RS 436 0 = some 437)
theorem rt_346_2 : RT b d t 346 2 = some 349 := (by decide +kernel : RS 346 2 = some 349)
end RTL
theorem ly_0 : LAY 0 = 7 := by decide +kernel
theorem ln_0 : LEN 0 = 10 := by decide +kernel
theorem ly_1 : LAY 1 = 3 := by decide +kernel
theorem ln_1 : LEN 1 = 5 := by decide +kernel
theorem ly_2 : LAY 2 = 24 := by decide +kernel
theorem ln_2 : LEN 2 = 10 := by decide +kernel
theorem ly_3 : LAY 3 = 5 := by decide +kernel
theorem ln_3 : LEN 3 = 9 := by decide +kernel
theorem ly_344 : LAY 344 = 6 := by decide +kernel
theorem ln_344 : LEN 344 = 8 := by decide +kernel
theorem ly_346 : LAY 346 = 4 := by decide +kernel
theorem ln_346 : LEN 346 = 7 := by decide +kernel
theorem ly_347 : LAY 347 = 23 := by decide +kernel
theorem ln_347 : LEN 347 = 6 := by decide +kernel
theorem ly_348 : LAY 348 = 20 := by decide +kernel
theorem ln_348 : LEN 348 = 6 := by decide +kernel
theorem ly_349 : LAY 349 = 20 := by decide +kernel
theorem ln_349 : LEN 349 = 6 := by decide +kernel
theorem ly_350 : LAY 350 = 22 := by decide +kernel
theorem ln_350 : LEN 350 = 600 := by decide +kernel
theorem ly_351 : LAY 351 = 22 := by decide +kernel
theorem ln_351 : LEN 351 = 61 := by decide +kernel
theorem ly_436 : LAY 436 = 8 := by decide +kernel
theorem ln_436 : LEN 436 = 7 := by decide +kernel
theorem ly_437 : LAY 437 = 20 := by decide +kernel
theorem ln_437 : LEN 437 = 600 := by decide +kernel
end
section
section VZ
variable {G : GT} {Y Y2 : MT} {pc pc' : Nat} {ls ls' : List (Nat × Value)} {st : List Value} {u : MU} {c0 s0 : Nat} {Q Q1 : Option Value → MU → Prop} {QX QX1 : String → MU → Prop}
variable {b d t x : Nat}
abbrev TI : Type := Nat → Nat → Int32
abbrev TL : Type := Nat → Nat → Int64
theorem nm_I {e : Int32} (h : ∀ x, x = e → V G Y pc ls (.int x :: st) u c0 s0 Q QX) : V G Y pc ls (.int e :: st) u c0 s0 Q QX := h e rfl
theorem nm_J {e : Int64} (h : ∀ x, x = e → V G Y pc ls (.long x :: st) u c0 s0 Q QX) : V G Y pc ls (.long e :: st) u c0 s0 Q QX := h e rfl
theorem nm_M {e : TI} {L : TL} {R : Nat → Nat → Option Nat} {nx : Nat} (h : ∀ x, x = e → V G Y pc ls st (x, L, R, nx) c0 s0 Q QX) : V G Y pc ls st (e, L, R, nx) c0 s0 Q QX := h e rfl
theorem nm_N {e : TL} {I : TI} {R : Nat → Nat → Option Nat} {nx : Nat} (h : ∀ x, x = e → V G Y pc ls st (I, x, R, nx) c0 s0 Q QX) : V G Y pc ls st (I, e, R, nx) c0 s0 Q QX := h e rfl
theorem v_ldcSW (k : Nat) {is pl : Nat} {tx : String} (hd : (yP Y)[k]? = some (pc, .ldc_w is, 3)) (hp : pc + 3 = pc') (hs : ((yN Y).cls, is, tx, pl) ∈ strs) (kk : V G Y pc' ls (.ref (458 + pl) :: st) u c0 s0 Q QX) : V G Y pc ls st u c0 s0 Q QX := by
  subst hp
  intro p e s m args below meth c C H locs arr hH hS hl hz
  have k2 := kk p e s m args below meth c C H locs arr hH hS hl hz
  have hcv : cv G (.ref (458 + pl)) = .ref (gs G pl) := by
    simp only [cv, AD]
    rw [if_neg (by omega), if_neg (by omega), Nat.add_sub_cancel_left]
  rw [List.map_cons, hcv] at k2
  have hZ := (cxk C).2.2.2.2.2.2.2.1 _ hs
  intro T hT X
  obtain ⟨t, a1, b1⟩ := k2 T hT X
  exact ⟨t, X.ldcStringW (cxx C) (cxo C) (text := tx) (a := gs G pl) hZ.1 hZ.2 (g := F0 m pc arr (st.map (cv G))) rfl (by rw [cxb C]; exact cxd C hd) t a1, b1⟩
theorem rt_ubench : up2 (RT b d t) 0 5 (some x) = RT x d t := by
  funext k j
  by_cases h : k = 0 ∧ j = 5
  · obtain ⟨rfl, rfl⟩ := h
    exact up2_s
  · have h2 : k ≠ 0 ∨ j ≠ 5 := by omega
    rw [up2_n h2]
    match k, j with
    | 0, 0 => rfl
    | 0, 1 => rfl
    | 0, 2 => rfl
    | 0, 3 => rfl
    | 0, 4 => rfl
    | 0, 5 => exact absurd ⟨rfl, rfl⟩ h
    | 0, 6 => rfl
    | 0, n + 7 => rfl
    | k + 1, j => unfold RT; split <;> first | rfl | (split <;> rfl) | simp_all
theorem rt_udraft : up2 (RT b d t) 0 6 (some x) = RT b x t := by
  funext k j
  by_cases h : k = 0 ∧ j = 6
  · obtain ⟨rfl, rfl⟩ := h
    exact up2_s
  · have h2 : k ≠ 0 ∨ j ≠ 6 := by omega
    rw [up2_n h2]
    match k, j with
    | 0, 0 => rfl
    | 0, 1 => rfl
    | 0, 2 => rfl
    | 0, 3 => rfl
    | 0, 4 => rfl
    | 0, 5 => rfl
    | 0, 6 => exact absurd ⟨rfl, rfl⟩ h
    | 0, n + 7 => rfl
    | k + 1, j => unfold RT; split <;> first | rfl | (split <;> rfl) | simp_all
theorem rt_utext : up2 (RT b d t) 344 0 (some x) = RT b d x := by
  funext k j
  by_cases h : k = 344 ∧ j = 0
  · obtain ⟨rfl, rfl⟩ := h
    exact up2_s
  · have h2 : k ≠ 344 ∨ j ≠ 0 := by omega
    rw [up2_n h2]
    unfold RT
    split
    · rfl
    · match j with
      | 0 => exact absurd ⟨rfl, rfl⟩ h
      | n + 1 => rfl
    · rfl
def mxI (x y : Int32) : Int32 := if x < y then y else x
def mnI (x y : Int32) : Int32 := if y < x then y else x
def MXF (own : String) (idx : Nat) : Prop := Cond.methodLink own idx Lib.Math.max.name ∈ GW ∧ Cond.static Lib.Math.max.name ∈ GW ∧ Cond.initialized "java/lang/Math" ∈ GW ∧ Cond.code Lib.Math.max.name Lib.Math.max.code 2 (some .int) ∈ GW
def MNF (own : String) (idx : Nat) : Prop := Cond.methodLink own idx Lib.Math.min.name ∈ GW ∧ Cond.static Lib.Math.min.name ∈ GW ∧ Cond.initialized "java/lang/Math" ∈ GW ∧ Cond.code Lib.Math.min.name Lib.Math.min.code 2 (some .int) ∈ GW
theorem v_mmax (k : Nat) {idx : Nat} {x y : Int32} (hd : (yP Y)[k]? = some (pc, .invokestatic idx, 3)) (hp : pc + 3 = pc') (hM : MXF (yN Y).cls idx) (hst : (st.map fun v => v.category).sum ≤ 8) (hf : 1 ≤ (yR Y).frames) (hlo : 21 ≤ (yR Y).locals) (hc : c0 ≤ (yR Y).cells ∧ s0 ≤ (yR Y).slots) (kk : V G Y pc' ls (.int (mxI x y) :: st) u c0 s0 Q QX) : V G Y pc ls (.int y :: .int x :: st) u c0 s0 Q QX := by
  subst hp
  obtain ⟨m1, m2, m3, m4⟩ := hM
  intro p e s m args below meth c C H locs arr hH hS hl hz
  have r := st_room (G := G) hst
  exact va_mmax (cxx C) (cxb C) ((cxm C).trans hl.1.symm) (cxo C) (cxw C _ m1) (cxw C _ m2) (cxw C _ m3) (cxw C _ m4) hf (by omega) hc.1 hc.2 (cxd C hd) (kk p e s m args below meth c C H locs arr hH hS hl hz)
theorem v_mmin (k : Nat) {idx : Nat} {x y : Int32} (hd : (yP Y)[k]? = some (pc, .invokestatic idx, 3)) (hp : pc + 3 = pc') (hM : MNF (yN Y).cls idx) (hst : (st.map fun v => v.category).sum ≤ 8) (hf : 1 ≤ (yR Y).frames) (hlo : 21 ≤ (yR Y).locals) (hc : c0 ≤ (yR Y).cells ∧ s0 ≤ (yR Y).slots) (kk : V G Y pc' ls (.int (mnI x y) :: st) u c0 s0 Q QX) : V G Y pc ls (.int y :: .int x :: st) u c0 s0 Q QX := by
  subst hp
  obtain ⟨m1, m2, m3, m4⟩ := hM
  intro p e s m args below meth c C H locs arr hH hS hl hz
  have r := st_room (G := G) hst
  exact va_mmin (cxx C) (cxb C) ((cxm C).trans hl.1.symm) (cxo C) (cxw C _ m1) (cxw C _ m2) (cxw C _ m3) (cxw C _ m4) hf (by omega) hc.1 hc.2 (cxd C hd) (kk p e s m args below meth c C H locs arr hH hS hl hz)
end VZ
theorem cp_X6_57 : CPF "GlitchCourt$State" 57 := ⟨gw_in 837 (by decide +kernel) (by decide +kernel), gw_in 839 (by decide +kernel) (by decide +kernel), gw_in 838 (by decide +kernel) (by decide +kernel), gw_in 50 (by decide +kernel) (by decide +kernel)⟩
theorem ki_X1_138 : Cond.constant "GlitchCourt$BenchText" 138 (99999) ∈ GW := gw_in 696 (by decide +kernel) (by decide +kernel)
theorem ki_X7_56 : Cond.constant "GlitchCourt$Tokens" 56 (1000000) ∈ GW := gw_in 584 (by decide +kernel) (by decide +kernel)
theorem ki_X8_358 : Cond.constant "GlitchCourt" 358 (99999) ∈ GW := gw_in 864 (by decide +kernel) (by decide +kernel)
theorem ki_X8_361 : Cond.constant "GlitchCourt" 361 (1000000) ∈ GW := gw_in 866 (by decide +kernel) (by decide +kernel)
theorem ki_L_33 : Cond.constant "GlitchCourtLaw" 33 (1073741823) ∈ GW := gw_in 402 (by decide +kernel) (by decide +kernel)
theorem ki_L_93 : Cond.constant "GlitchCourtLaw" 93 (90000) ∈ GW := gw_in 478 (by decide +kernel) (by decide +kernel)
theorem ki_J6_265 : Cond.constant "java/lang/Integer" 265 (1431655765) ∈ GW := gw_in 822 (by decide +kernel) (by decide +kernel)
theorem ki_J6_266 : Cond.constant "java/lang/Integer" 266 (858993459) ∈ GW := gw_in 823 (by decide +kernel) (by decide +kernel)
theorem ki_J6_267 : Cond.constant "java/lang/Integer" 267 (252645135) ∈ GW := gw_in 824 (by decide +kernel) (by decide +kernel)
theorem kl_X0_112 : Cond.constantLong "GlitchCourt$Bench" 112 (-1) ∈ GW := gw_in 740 (by decide +kernel) (by decide +kernel)
theorem kl_X2_67 : Cond.constantLong "GlitchCourt$Circuit" 67 (-1) ∈ GW := gw_in 716 (by decide +kernel) (by decide +kernel)
theorem kl_X6_73 : Cond.constantLong "GlitchCourt$State" 73 (-1) ∈ GW := gw_in 919 (by decide +kernel) (by decide +kernel)
theorem kl_X8_406 : Cond.constantLong "GlitchCourt" 406 (2) ∈ GW := gw_in 659 (by decide +kernel) (by decide +kernel)
theorem kl_J13_314 : Cond.constantLong "java/lang/Long" 314 (6148914691236517205) ∈ GW := gw_in 857 (by decide +kernel) (by decide +kernel)
theorem kl_J13_316 : Cond.constantLong "java/lang/Long" 316 (3689348814741910323) ∈ GW := gw_in 858 (by decide +kernel) (by decide +kernel)
theorem kl_J13_318 : Cond.constantLong "java/lang/Long" 318 (1085102592571150095) ∈ GW := gw_in 859 (by decide +kernel) (by decide +kernel)
theorem mi_X0_cheapVerdict : Cond.instanceMethod (⟨"GlitchCourt$Bench", "cheapVerdict", "(III)I"⟩ : MethodName) ∈ GW := gw_in 966 (by decide +kernel) (by decide +kernel)
theorem mi_X0_clear : Cond.instanceMethod (⟨"GlitchCourt$Bench", "clear", "()V"⟩ : MethodName) ∈ GW := gw_in 586 (by decide +kernel) (by decide +kernel)
theorem mi_X0_dearVerdict : Cond.instanceMethod (⟨"GlitchCourt$Bench", "dearVerdict", "(LGlitchCourt$Dispute;)I"⟩ : MethodName) ∈ GW := gw_in 990 (by decide +kernel) (by decide +kernel)
theorem mi_X0_dearWave : Cond.instanceMethod (⟨"GlitchCourt$Bench", "dearWave", "(I)J"⟩ : MethodName) ∈ GW := gw_in 723 (by decide +kernel) (by decide +kernel)
theorem mi_X0_lateWave : Cond.instanceMethod (⟨"GlitchCourt$Bench", "lateWave", "(I[J)J"⟩ : MethodName) ∈ GW := gw_in 709 (by decide +kernel) (by decide +kernel)
theorem mi_X0_longestPath : Cond.instanceMethod (⟨"GlitchCourt$Bench", "longestPath", "(I)I"⟩ : MethodName) ∈ GW := gw_in 731 (by decide +kernel) (by decide +kernel)
theorem mi_X0_price : Cond.instanceMethod (⟨"GlitchCourt$Bench", "price", "(III)I"⟩ : MethodName) ∈ GW := gw_in 812 (by decide +kernel) (by decide +kernel)
theorem mi_X0_pulseStart : Cond.instanceMethod (⟨"GlitchCourt$Bench", "pulseStart", "(II)I"⟩ : MethodName) ∈ GW := gw_in 937 (by decide +kernel) (by decide +kernel)
theorem mi_X0_pulseStarts : Cond.instanceMethod (⟨"GlitchCourt$Bench", "pulseStarts", "(I)J"⟩ : MethodName) ∈ GW := gw_in 926 (by decide +kernel) (by decide +kernel)
theorem mi_X0_pulses : Cond.instanceMethod (⟨"GlitchCourt$Bench", "pulses", "(I)I"⟩ : MethodName) ∈ GW := gw_in 921 (by decide +kernel) (by decide +kernel)
theorem mi_X0_refresh : Cond.instanceMethod (⟨"GlitchCourt$Bench", "refresh", "()V"⟩ : MethodName) ∈ GW := gw_in 703 (by decide +kernel) (by decide +kernel)
theorem mi_X0_rule : Cond.instanceMethod (⟨"GlitchCourt$Bench", "rule", "(LGlitchCourt$Dispute;)I"⟩ : MethodName) ∈ GW := gw_in 982 (by decide +kernel) (by decide +kernel)
theorem mi_X0_runEnd : Cond.instanceMethod (⟨"GlitchCourt$Bench", "runEnd", "(II)I"⟩ : MethodName) ∈ GW := gw_in 943 (by decide +kernel) (by decide +kernel)
theorem mi_X0_settle : Cond.instanceMethod (⟨"GlitchCourt$Bench", "settle", "(III)I"⟩ : MethodName) ∈ GW := gw_in 850 (by decide +kernel) (by decide +kernel)
theorem mi_X0_showInto : Cond.instanceMethod (⟨"GlitchCourt$Bench", "showInto", "([JIJ)V"⟩ : MethodName) ∈ GW := gw_in 738 (by decide +kernel) (by decide +kernel)
theorem mi_X0_swing : Cond.instanceMethod (⟨"GlitchCourt$Bench", "swing", "(II)I"⟩ : MethodName) ∈ GW := gw_in 727 (by decide +kernel) (by decide +kernel)
theorem mi_X0_unsettle : Cond.instanceMethod (⟨"GlitchCourt$Bench", "unsettle", "(I)I"⟩ : MethodName) ∈ GW := gw_in 873 (by decide +kernel) (by decide +kernel)
theorem mi_X2_addGate : Cond.instanceMethod (⟨"GlitchCourt$Circuit", "addGate", "(III)V"⟩ : MethodName) ∈ GW := gw_in 688 (by decide +kernel) (by decide +kernel)
theorem mi_X2_clear : Cond.instanceMethod (⟨"GlitchCourt$Circuit", "clear", "()V"⟩ : MethodName) ∈ GW := gw_in 590 (by decide +kernel) (by decide +kernel)
theorem mi_X2_cone : Cond.instanceMethod (⟨"GlitchCourt$Circuit", "cone", "(I)I"⟩ : MethodName) ∈ GW := gw_in 816 (by decide +kernel) (by decide +kernel)
theorem mi_X2_hasGate : Cond.instanceMethod (⟨"GlitchCourt$Circuit", "hasGate", "(I)Z"⟩ : MethodName) ∈ GW := gw_in 798 (by decide +kernel) (by decide +kernel)
theorem mi_X2_hasNet : Cond.instanceMethod (⟨"GlitchCourt$Circuit", "hasNet", "(I)Z"⟩ : MethodName) ∈ GW := gw_in 1011 (by decide +kernel) (by decide +kernel)
theorem mi_X2_hasTime : Cond.instanceMethod (⟨"GlitchCourt$Circuit", "hasTime", "(I)Z"⟩ : MethodName) ∈ GW := gw_in 807 (by decide +kernel) (by decide +kernel)
theorem mi_X2_idealOf : Cond.instanceMethod (⟨"GlitchCourt$Circuit", "idealOf", "(I[J)J"⟩ : MethodName) ∈ GW := gw_in 712 (by decide +kernel) (by decide +kernel)
theorem mi_X2_nets : Cond.instanceMethod (⟨"GlitchCourt$Circuit", "nets", "()I"⟩ : MethodName) ∈ GW := gw_in 670 (by decide +kernel) (by decide +kernel)
theorem mi_X2_readersOf : Cond.instanceMethod (⟨"GlitchCourt$Circuit", "readersOf", "(I)I"⟩ : MethodName) ∈ GW := gw_in 883 (by decide +kernel) (by decide +kernel)
theorem mi_X2_touchedBy : Cond.instanceMethod (⟨"GlitchCourt$Circuit", "touchedBy", "(I)I"⟩ : MethodName) ∈ GW := gw_in 877 (by decide +kernel) (by decide +kernel)
theorem mi_X3_copyFrom : Cond.instanceMethod (⟨"GlitchCourt$Dispute", "copyFrom", "(LGlitchCourt$Dispute;)V"⟩ : MethodName) ∈ GW := gw_in 841 (by decide +kernel) (by decide +kernel)
theorem mi_X3_isPending : Cond.instanceMethod (⟨"GlitchCourt$Dispute", "isPending", "()Z"⟩ : MethodName) ∈ GW := gw_in 891 (by decide +kernel) (by decide +kernel)
theorem mi_X3_loserBy : Cond.instanceMethod (⟨"GlitchCourt$Dispute", "loserBy", "(I)I"⟩ : MethodName) ∈ GW := gw_in 970 (by decide +kernel) (by decide +kernel)
theorem mi_X3_start : Cond.instanceMethod (⟨"GlitchCourt$Dispute", "start", "(IIIIIZ)V"⟩ : MethodName) ∈ GW := gw_in 845 (by decide +kernel) (by decide +kernel)
theorem mi_X3_times : Cond.instanceMethod (⟨"GlitchCourt$Dispute", "times", "()I"⟩ : MethodName) ∈ GW := gw_in 962 (by decide +kernel) (by decide +kernel)
theorem mi_X4_discardAll : Cond.instanceMethod (⟨"GlitchCourt$History", "discardAll", "()V"⟩ : MethodName) ∈ GW := gw_in 742 (by decide +kernel) (by decide +kernel)
theorem mi_X4_record : Cond.instanceMethod (⟨"GlitchCourt$History", "record", "(LGlitchCourt$State;)V"⟩ : MethodName) ∈ GW := gw_in 830 (by decide +kernel) (by decide +kernel)
theorem mi_X6_clear : Cond.instanceMethod (⟨"GlitchCourt$State", "clear", "()V"⟩ : MethodName) ∈ GW := gw_in 597 (by decide +kernel) (by decide +kernel)
theorem mi_X6_copyFrom : Cond.instanceMethod (⟨"GlitchCourt$State", "copyFrom", "(LGlitchCourt$State;)V"⟩ : MethodName) ∈ GW := gw_in 834 (by decide +kernel) (by decide +kernel)
theorem mi_X6_dropPending : Cond.instanceMethod (⟨"GlitchCourt$State", "dropPending", "(I)I"⟩ : MethodName) ∈ GW := gw_in 887 (by decide +kernel) (by decide +kernel)
theorem mi_X6_forget : Cond.instanceMethod (⟨"GlitchCourt$State", "forget", "(I)V"⟩ : MethodName) ∈ GW := gw_in 601 (by decide +kernel) (by decide +kernel)
theorem mi_X6_hasPending : Cond.instanceMethod (⟨"GlitchCourt$State", "hasPending", "(III)Z"⟩ : MethodName) ∈ GW := gw_in 947 (by decide +kernel) (by decide +kernel)
theorem mi_X6_payCourt : Cond.instanceMethod (⟨"GlitchCourt$State", "payCourt", "(II)V"⟩ : MethodName) ∈ GW := gw_in 974 (by decide +kernel) (by decide +kernel)
theorem mi_X6_ruledTimes : Cond.instanceMethod (⟨"GlitchCourt$State", "ruledTimes", "(I)I"⟩ : MethodName) ∈ GW := gw_in 916 (by decide +kernel) (by decide +kernel)
theorem mi_X6_settledTimes : Cond.instanceMethod (⟨"GlitchCourt$State", "settledTimes", "(I)I"⟩ : MethodName) ∈ GW := gw_in 911 (by decide +kernel) (by decide +kernel)
theorem mi_X6_timeState : Cond.instanceMethod (⟨"GlitchCourt$State", "timeState", "(II)I"⟩ : MethodName) ∈ GW := gw_in 1021 (by decide +kernel) (by decide +kernel)
theorem mi_X7_advance : Cond.instanceMethod (⟨"GlitchCourt$Tokens", "advance", "()V"⟩ : MethodName) ∈ GW := gw_in 569 (by decide +kernel) (by decide +kernel)
theorem mi_X7_begin : Cond.instanceMethod (⟨"GlitchCourt$Tokens", "begin", "([BI)V"⟩ : MethodName) ∈ GW := gw_in 562 (by decide +kernel) (by decide +kernel)
theorem mi_X7_fail : Cond.instanceMethod (⟨"GlitchCourt$Tokens", "fail", "(I)V"⟩ : MethodName) ∈ GW := gw_in 623 (by decide +kernel) (by decide +kernel)
theorem mi_X7_failed : Cond.instanceMethod (⟨"GlitchCourt$Tokens", "failed", "()Z"⟩ : MethodName) ∈ GW := gw_in 573 (by decide +kernel) (by decide +kernel)
theorem mi_X7_isEnd : Cond.instanceMethod (⟨"GlitchCourt$Tokens", "isEnd", "()Z"⟩ : MethodName) ∈ GW := gw_in 698 (by decide +kernel) (by decide +kernel)
theorem mi_X7_isNumber : Cond.instanceMethod (⟨"GlitchCourt$Tokens", "isNumber", "()Z"⟩ : MethodName) ∈ GW := gw_in 635 (by decide +kernel) (by decide +kernel)
theorem mi_X7_isSign : Cond.instanceMethod (⟨"GlitchCourt$Tokens", "isSign", "(C)Z"⟩ : MethodName) ∈ GW := gw_in 643 (by decide +kernel) (by decide +kernel)
theorem mi_X7_isWord : Cond.instanceMethod (⟨"GlitchCourt$Tokens", "isWord", "(Ljava/lang/String;)Z"⟩ : MethodName) ∈ GW := gw_in 617 (by decide +kernel) (by decide +kernel)
theorem mi_X7_peekNumber : Cond.instanceMethod (⟨"GlitchCourt$Tokens", "peekNumber", "(II)I"⟩ : MethodName) ∈ GW := gw_in 631 (by decide +kernel) (by decide +kernel)
theorem mi_X7_scanNumber : Cond.instanceMethod (⟨"GlitchCourt$Tokens", "scanNumber", "()V"⟩ : MethodName) ∈ GW := gw_in 582 (by decide +kernel) (by decide +kernel)
theorem mi_X7_scanWord : Cond.instanceMethod (⟨"GlitchCourt$Tokens", "scanWord", "()V"⟩ : MethodName) ∈ GW := gw_in 578 (by decide +kernel) (by decide +kernel)
theorem mi_X7_takeNumber : Cond.instanceMethod (⟨"GlitchCourt$Tokens", "takeNumber", "(II)I"⟩ : MethodName) ∈ GW := gw_in 627 (by decide +kernel) (by decide +kernel)
theorem mi_X7_takeSign : Cond.instanceMethod (⟨"GlitchCourt$Tokens", "takeSign", "(C)V"⟩ : MethodName) ∈ GW := gw_in 639 (by decide +kernel) (by decide +kernel)
theorem mi_X7_takeWord : Cond.instanceMethod (⟨"GlitchCourt$Tokens", "takeWord", "(Ljava/lang/String;)V"⟩ : MethodName) ∈ GW := gw_in 613 (by decide +kernel) (by decide +kernel)
theorem mi_X8_accept : Cond.instanceMethod (⟨"GlitchCourt", "accept", "(I)I"⟩ : MethodName) ∈ GW := gw_in 978 (by decide +kernel) (by decide +kernel)
theorem mi_X8_appeal : Cond.instanceMethod (⟨"GlitchCourt", "appeal", "(I)I"⟩ : MethodName) ∈ GW := gw_in 986 (by decide +kernel) (by decide +kernel)
theorem mi_X8_cost : Cond.instanceMethod (⟨"GlitchCourt", "cost", "(III)I"⟩ : MethodName) ∈ GW := gw_in 790 (by decide +kernel) (by decide +kernel)
theorem mi_X8_dependsOn : Cond.instanceMethod (⟨"GlitchCourt", "dependsOn", "(I)I"⟩ : MethodName) ∈ GW := gw_in 1026 (by decide +kernel) (by decide +kernel)
theorem mi_X8_deposit : Cond.instanceMethod (⟨"GlitchCourt", "deposit", "(II)I"⟩ : MethodName) ∈ GW := gw_in 861 (by decide +kernel) (by decide +kernel)
theorem mi_X8_errorPosition : Cond.instanceMethod (⟨"GlitchCourt", "errorPosition", "()I"⟩ : MethodName) ∈ GW := gw_in 771 (by decide +kernel) (by decide +kernel)
theorem mi_X8_gate : Cond.instanceMethod (⟨"GlitchCourt", "gate", "(II)I"⟩ : MethodName) ∈ GW := gw_in 906 (by decide +kernel) (by decide +kernel)
theorem mi_X8_judge : Cond.instanceMethod (⟨"GlitchCourt", "judge", "(I)I"⟩ : MethodName) ∈ GW := gw_in 953 (by decide +kernel) (by decide +kernel)
theorem mi_X8_load : Cond.instanceMethod (⟨"GlitchCourt", "load", "(I)I"⟩ : MethodName) ∈ GW := gw_in 492 (by decide +kernel) (by decide +kernel)
theorem mi_X8_open : Cond.instanceMethod (⟨"GlitchCourt", "open", "(IIIZ)I"⟩ : MethodName) ∈ GW := gw_in 929 (by decide +kernel) (by decide +kernel)
theorem mi_X8_putBytes : Cond.instanceMethod (⟨"GlitchCourt", "putBytes", "(I)V"⟩ : MethodName) ∈ GW := gw_in 489 (by decide +kernel) (by decide +kernel)
theorem mi_X8_replay : Cond.instanceMethod (⟨"GlitchCourt", "replay", "(III)I"⟩ : MethodName) ∈ GW := gw_in 826 (by decide +kernel) (by decide +kernel)
theorem mi_X8_requireDispute : Cond.instanceMethod (⟨"GlitchCourt", "requireDispute", "(I)LGlitchCourt$Dispute;"⟩ : MethodName) ∈ GW := gw_in 958 (by decide +kernel) (by decide +kernel)
theorem mi_X8_requireGate : Cond.instanceMethod (⟨"GlitchCourt", "requireGate", "(I)V"⟩ : MethodName) ∈ GW := gw_in 795 (by decide +kernel) (by decide +kernel)
theorem mi_X8_requireNet : Cond.instanceMethod (⟨"GlitchCourt", "requireNet", "(I)V"⟩ : MethodName) ∈ GW := gw_in 1008 (by decide +kernel) (by decide +kernel)
theorem mi_X8_requirePulse : Cond.instanceMethod (⟨"GlitchCourt", "requirePulse", "(II)I"⟩ : MethodName) ∈ GW := gw_in 934 (by decide +kernel) (by decide +kernel)
theorem mi_X8_requireTimes : Cond.instanceMethod (⟨"GlitchCourt", "requireTimes", "(II)V"⟩ : MethodName) ∈ GW := gw_in 804 (by decide +kernel) (by decide +kernel)
theorem mi_X8_requireWave : Cond.instanceMethod (⟨"GlitchCourt", "requireWave", "(II)J"⟩ : MethodName) ∈ GW := gw_in 1004 (by decide +kernel) (by decide +kernel)
theorem mi_X8_setDelay : Cond.instanceMethod (⟨"GlitchCourt", "setDelay", "(III)I"⟩ : MethodName) ∈ GW := gw_in 868 (by decide +kernel) (by decide +kernel)
theorem mi_X8_size : Cond.instanceMethod (⟨"GlitchCourt", "size", "(I)I"⟩ : MethodName) ∈ GW := gw_in 751 (by decide +kernel) (by decide +kernel)
theorem mi_X8_stateAt : Cond.instanceMethod (⟨"GlitchCourt", "stateAt", "(II)I"⟩ : MethodName) ∈ GW := gw_in 1017 (by decide +kernel) (by decide +kernel)
theorem mi_X8_toggle : Cond.instanceMethod (⟨"GlitchCourt", "toggle", "(II)I"⟩ : MethodName) ∈ GW := gw_in 895 (by decide +kernel) (by decide +kernel)
theorem mi_X8_wave : Cond.instanceMethod (⟨"GlitchCourt", "wave", "(II)J"⟩ : MethodName) ∈ GW := gw_in 999 (by decide +kernel) (by decide +kernel)
theorem mi_L_acts : Cond.instanceMethod (⟨"GlitchCourtLaw", "acts", "(LGlitchCourt;I)I"⟩ : MethodName) ∈ GW := gw_in 783 (by decide +kernel) (by decide +kernel)
theorem mi_L_disputes : Cond.instanceMethod (⟨"GlitchCourtLaw", "disputes", "(LGlitchCourt;I)V"⟩ : MethodName) ∈ GW := gw_in 903 (by decide +kernel) (by decide +kernel)
theorem mi_L_feeds : Cond.instanceMethod (⟨"GlitchCourtLaw", "feeds", "(LGlitchCourt;)I"⟩ : MethodName) ∈ GW := gw_in 481 (by decide +kernel) (by decide +kernel)
theorem mi_L_gate : Cond.instanceMethod (⟨"GlitchCourtLaw", "gate", "(II)V"⟩ : MethodName) ∈ GW := gw_in 465 (by decide +kernel) (by decide +kernel)
theorem mi_L_isShown : Cond.instanceMethod (⟨"GlitchCourtLaw", "isShown", "(LGlitchCourt;I)Z"⟩ : MethodName) ∈ GW := gw_in 996 (by decide +kernel) (by decide +kernel)
theorem mi_L_net : Cond.instanceMethod (⟨"GlitchCourtLaw", "net", "(I)I"⟩ : MethodName) ∈ GW := gw_in 787 (by decide +kernel) (by decide +kernel)
theorem mi_L_nets : Cond.instanceMethod (⟨"GlitchCourtLaw", "nets", "()I"⟩ : MethodName) ∈ GW := gw_in 748 (by decide +kernel) (by decide +kernel)
theorem mi_L_spaced : Cond.instanceMethod (⟨"GlitchCourtLaw", "spaced", "(I)V"⟩ : MethodName) ∈ GW := gw_in 458 (by decide +kernel) (by decide +kernel)
theorem mi_L_writes : Cond.instanceMethod (⟨"GlitchCourtLaw", "writes", "(Ljava/lang/String;)V"⟩ : MethodName) ∈ GW := gw_in 406 (by decide +kernel) (by decide +kernel)
theorem ml_X0_117 : Cond.methodLink "GlitchCourt$Bench" 117 (⟨"java/lang/Long", "bitCount", "(J)I"⟩ : MethodName) ∈ GW := gw_in 854 (by decide +kernel) (by decide +kernel)
theorem ml_X0_129 : Cond.methodLink "GlitchCourt$Bench" 129 (⟨"GlitchCourt$Circuit", "cone", "(I)I"⟩ : MethodName) ∈ GW := gw_in 815 (by decide +kernel) (by decide +kernel)
theorem ml_X0_139 : Cond.methodLink "GlitchCourt$Bench" 139 (⟨"GlitchCourt$Bench", "pulseStarts", "(I)J"⟩ : MethodName) ∈ GW := gw_in 924 (by decide +kernel) (by decide +kernel)
theorem ml_X0_156 : Cond.methodLink "GlitchCourt$Bench" 156 (⟨"GlitchCourt$Bench", "refresh", "()V"⟩ : MethodName) ∈ GW := gw_in 853 (by decide +kernel) (by decide +kernel)
theorem ml_X0_162 : Cond.methodLink "GlitchCourt$Bench" 162 (⟨"GlitchCourt$Circuit", "touchedBy", "(I)I"⟩ : MethodName) ∈ GW := gw_in 876 (by decide +kernel) (by decide +kernel)
theorem ml_X0_165 : Cond.methodLink "GlitchCourt$Bench" 165 (⟨"GlitchCourt$State", "forget", "(I)V"⟩ : MethodName) ∈ GW := gw_in 885 (by decide +kernel) (by decide +kernel)
theorem ml_X0_169 : Cond.methodLink "GlitchCourt$Bench" 169 (⟨"GlitchCourt$State", "dropPending", "(I)I"⟩ : MethodName) ∈ GW := gw_in 886 (by decide +kernel) (by decide +kernel)
theorem ml_X0_42 : Cond.methodLink "GlitchCourt$Bench" 42 (⟨"GlitchCourt$Circuit", "clear", "()V"⟩ : MethodName) ∈ GW := gw_in 589 (by decide +kernel) (by decide +kernel)
theorem ml_X0_45 : Cond.methodLink "GlitchCourt$Bench" 45 (⟨"GlitchCourt$State", "clear", "()V"⟩ : MethodName) ∈ GW := gw_in 596 (by decide +kernel) (by decide +kernel)
theorem ml_X0_53 : Cond.methodLink "GlitchCourt$Bench" 53 (⟨"GlitchCourt$Circuit", "nets", "()I"⟩ : MethodName) ∈ GW := gw_in 706 (by decide +kernel) (by decide +kernel)
theorem ml_X0_57 : Cond.methodLink "GlitchCourt$Bench" 57 (⟨"GlitchCourt$Bench", "lateWave", "(I[J)J"⟩ : MethodName) ∈ GW := gw_in 707 (by decide +kernel) (by decide +kernel)
theorem ml_X0_61 : Cond.methodLink "GlitchCourt$Bench" 61 (⟨"GlitchCourt$Bench", "dearWave", "(I)J"⟩ : MethodName) ∈ GW := gw_in 721 (by decide +kernel) (by decide +kernel)
theorem ml_X0_65 : Cond.methodLink "GlitchCourt$Bench" 65 (⟨"GlitchCourt$Bench", "longestPath", "(I)I"⟩ : MethodName) ∈ GW := gw_in 729 (by decide +kernel) (by decide +kernel)
theorem ml_X0_69 : Cond.methodLink "GlitchCourt$Bench" 69 (⟨"GlitchCourt$Bench", "showInto", "([JIJ)V"⟩ : MethodName) ∈ GW := gw_in 736 (by decide +kernel) (by decide +kernel)
theorem ml_X0_73 : Cond.methodLink "GlitchCourt$Bench" 73 (⟨"GlitchCourt$Circuit", "idealOf", "(I[J)J"⟩ : MethodName) ∈ GW := gw_in 711 (by decide +kernel) (by decide +kernel)
theorem ml_X0_91 : Cond.methodLink "GlitchCourt$Bench" 91 (⟨"GlitchCourt$Bench", "swing", "(II)I"⟩ : MethodName) ∈ GW := gw_in 725 (by decide +kernel) (by decide +kernel)
theorem ml_X1_102 : Cond.methodLink "GlitchCourt$BenchText" 102 (⟨"GlitchCourt$Tokens", "peekNumber", "(II)I"⟩ : MethodName) ∈ GW := gw_in 661 (by decide +kernel) (by decide +kernel)
theorem ml_X1_107 : Cond.methodLink "GlitchCourt$BenchText" 107 (⟨"GlitchCourt$BenchText", "readGate", "(LGlitchCourt$Tokens;LGlitchCourt$Bench;)V"⟩ : MethodName) ∈ GW := gw_in 666 (by decide +kernel) (by decide +kernel)
theorem ml_X1_110 : Cond.methodLink "GlitchCourt$BenchText" 110 (⟨"GlitchCourt$Circuit", "nets", "()I"⟩ : MethodName) ∈ GW := gw_in 669 (by decide +kernel) (by decide +kernel)
theorem ml_X1_114 : Cond.methodLink "GlitchCourt$BenchText" 114 (⟨"GlitchCourt$BenchText", "readKind", "(LGlitchCourt$Tokens;)I"⟩ : MethodName) ∈ GW := gw_in 673 (by decide +kernel) (by decide +kernel)
theorem ml_X1_118 : Cond.methodLink "GlitchCourt$BenchText" 118 (⟨"GlitchCourt$Tokens", "failed", "()Z"⟩ : MethodName) ∈ GW := gw_in 686 (by decide +kernel) (by decide +kernel)
theorem ml_X1_125 : Cond.methodLink "GlitchCourt$BenchText" 125 (⟨"GlitchCourt$Circuit", "addGate", "(III)V"⟩ : MethodName) ∈ GW := gw_in 687 (by decide +kernel) (by decide +kernel)
theorem ml_X1_15 : Cond.methodLink "GlitchCourt$BenchText" 15 (⟨"GlitchCourt$BenchText", "readInputs", "(LGlitchCourt$Tokens;LGlitchCourt$Bench;)V"⟩ : MethodName) ∈ GW := gw_in 646 (by decide +kernel) (by decide +kernel)
theorem ml_X1_18 : Cond.methodLink "GlitchCourt$BenchText" 18 (⟨"GlitchCourt$BenchText", "readGates", "(LGlitchCourt$Tokens;LGlitchCourt$Bench;)V"⟩ : MethodName) ∈ GW := gw_in 662 (by decide +kernel) (by decide +kernel)
theorem ml_X1_21 : Cond.methodLink "GlitchCourt$BenchText" 21 (⟨"GlitchCourt$BenchText", "readPurses", "(LGlitchCourt$Tokens;LGlitchCourt$Bench;)V"⟩ : MethodName) ∈ GW := gw_in 692 (by decide +kernel) (by decide +kernel)
theorem ml_X1_24 : Cond.methodLink "GlitchCourt$BenchText" 24 (⟨"GlitchCourt$Tokens", "isEnd", "()Z"⟩ : MethodName) ∈ GW := gw_in 697 (by decide +kernel) (by decide +kernel)
theorem ml_X1_30 : Cond.methodLink "GlitchCourt$BenchText" 30 (⟨"GlitchCourt$Tokens", "fail", "(I)V"⟩ : MethodName) ∈ GW := gw_in 651 (by decide +kernel) (by decide +kernel)
theorem ml_X1_36 : Cond.methodLink "GlitchCourt$BenchText" 36 (⟨"GlitchCourt$Tokens", "takeWord", "(Ljava/lang/String;)V"⟩ : MethodName) ∈ GW := gw_in 612 (by decide +kernel) (by decide +kernel)
theorem ml_X1_46 : Cond.methodLink "GlitchCourt$BenchText" 46 (⟨"GlitchCourt$Tokens", "takeNumber", "(II)I"⟩ : MethodName) ∈ GW := gw_in 626 (by decide +kernel) (by decide +kernel)
theorem ml_X1_71 : Cond.methodLink "GlitchCourt$BenchText" 71 (⟨"GlitchCourt$Tokens", "takeSign", "(C)V"⟩ : MethodName) ∈ GW := gw_in 638 (by decide +kernel) (by decide +kernel)
theorem ml_X1_77 : Cond.methodLink "GlitchCourt$BenchText" 77 (⟨"GlitchCourt$Tokens", "isWord", "(Ljava/lang/String;)Z"⟩ : MethodName) ∈ GW := gw_in 650 (by decide +kernel) (by decide +kernel)
theorem ml_X1_81 : Cond.methodLink "GlitchCourt$BenchText" 81 (⟨"GlitchCourt$Tokens", "advance", "()V"⟩ : MethodName) ∈ GW := gw_in 652 (by decide +kernel) (by decide +kernel)
theorem ml_X1_88 : Cond.methodLink "GlitchCourt$BenchText" 88 (⟨"GlitchCourt$BenchText", "readWave", "(LGlitchCourt$Tokens;I)J"⟩ : MethodName) ∈ GW := gw_in 653 (by decide +kernel) (by decide +kernel)
theorem ml_X1_9 : Cond.methodLink "GlitchCourt$BenchText" 9 (⟨"GlitchCourt$BenchText", "readHead", "(LGlitchCourt$Tokens;LGlitchCourt$Bench;)V"⟩ : MethodName) ∈ GW := gw_in 608 (by decide +kernel) (by decide +kernel)
theorem ml_X1_99 : Cond.methodLink "GlitchCourt$BenchText" 99 (⟨"GlitchCourt$Tokens", "isNumber", "()Z"⟩ : MethodName) ∈ GW := gw_in 660 (by decide +kernel) (by decide +kernel)
theorem ml_X2_40 : Cond.methodLink "GlitchCourt$Circuit" 40 (⟨"GlitchCourt$Circuit", "nets", "()I"⟩ : MethodName) ∈ GW := gw_in 691 (by decide +kernel) (by decide +kernel)
theorem ml_X2_44 : Cond.methodLink "GlitchCourt$Circuit" 44 (⟨"java/lang/Integer", "bitCount", "(I)I"⟩ : MethodName) ∈ GW := gw_in 819 (by decide +kernel) (by decide +kernel)
theorem ml_X2_50 : Cond.methodLink "GlitchCourt$Circuit" 50 (⟨"java/util/Arrays", "fill", "([II)V"⟩ : MethodName) ∈ GW := gw_in 593 (by decide +kernel) (by decide +kernel)
theorem ml_X2_56 : Cond.methodLink "GlitchCourt$Circuit" 56 (⟨"GlitchCourt$Circuit", "hasGate", "(I)Z"⟩ : MethodName) ∈ GW := gw_in 880 (by decide +kernel) (by decide +kernel)
theorem ml_X2_60 : Cond.methodLink "GlitchCourt$Circuit" 60 (⟨"GlitchCourt$Circuit", "readersOf", "(I)I"⟩ : MethodName) ∈ GW := gw_in 881 (by decide +kernel) (by decide +kernel)
theorem ml_X3_37 : Cond.methodLink "GlitchCourt$Dispute" 37 (⟨"GlitchCourt$Dispute", "start", "(IIIIIZ)V"⟩ : MethodName) ∈ GW := gw_in 844 (by decide +kernel) (by decide +kernel)
theorem ml_X4_33 : Cond.methodLink "GlitchCourt$History" 33 (⟨"GlitchCourt$State", "copyFrom", "(LGlitchCourt$State;)V"⟩ : MethodName) ∈ GW := gw_in 833 (by decide +kernel) (by decide +kernel)
theorem ml_X6_47 : Cond.methodLink "GlitchCourt$State" 47 (⟨"GlitchCourt$State", "forget", "(I)V"⟩ : MethodName) ∈ GW := gw_in 600 (by decide +kernel) (by decide +kernel)
theorem ml_X6_51 : Cond.methodLink "GlitchCourt$State" 51 (⟨"java/util/Arrays", "fill", "([II)V"⟩ : MethodName) ∈ GW := gw_in 604 (by decide +kernel) (by decide +kernel)
theorem ml_X6_63 : Cond.methodLink "GlitchCourt$State" 63 (⟨"GlitchCourt$Dispute", "copyFrom", "(LGlitchCourt$Dispute;)V"⟩ : MethodName) ∈ GW := gw_in 840 (by decide +kernel) (by decide +kernel)
theorem ml_X6_67 : Cond.methodLink "GlitchCourt$State" 67 (⟨"java/lang/Long", "bitCount", "(J)I"⟩ : MethodName) ∈ GW := gw_in 914 (by decide +kernel) (by decide +kernel)
theorem ml_X6_79 : Cond.methodLink "GlitchCourt$State" 79 (⟨"GlitchCourt$Dispute", "isPending", "()Z"⟩ : MethodName) ∈ GW := gw_in 890 (by decide +kernel) (by decide +kernel)
theorem ml_X7_43 : Cond.methodLink "GlitchCourt$Tokens" 43 (⟨"GlitchCourt$Tokens", "advance", "()V"⟩ : MethodName) ∈ GW := gw_in 568 (by decide +kernel) (by decide +kernel)
theorem ml_X7_46 : Cond.methodLink "GlitchCourt$Tokens" 46 (⟨"GlitchCourt$Tokens", "failed", "()Z"⟩ : MethodName) ∈ GW := gw_in 572 (by decide +kernel) (by decide +kernel)
theorem ml_X7_50 : Cond.methodLink "GlitchCourt$Tokens" 50 (⟨"GlitchCourt$Tokens", "scanWord", "()V"⟩ : MethodName) ∈ GW := gw_in 576 (by decide +kernel) (by decide +kernel)
theorem ml_X7_53 : Cond.methodLink "GlitchCourt$Tokens" 53 (⟨"GlitchCourt$Tokens", "scanNumber", "()V"⟩ : MethodName) ∈ GW := gw_in 580 (by decide +kernel) (by decide +kernel)
theorem ml_X7_66 : Cond.methodLink "GlitchCourt$Tokens" 66 (⟨"GlitchCourt$Tokens", "isNumber", "()Z"⟩ : MethodName) ∈ GW := gw_in 634 (by decide +kernel) (by decide +kernel)
theorem ml_X7_69 : Cond.methodLink "GlitchCourt$Tokens" 69 (⟨"GlitchCourt$Tokens", "fail", "(I)V"⟩ : MethodName) ∈ GW := gw_in 622 (by decide +kernel) (by decide +kernel)
theorem ml_X7_73 : Cond.methodLink "GlitchCourt$Tokens" 73 (⟨"GlitchCourt$Tokens", "peekNumber", "(II)I"⟩ : MethodName) ∈ GW := gw_in 630 (by decide +kernel) (by decide +kernel)
theorem ml_X7_76 : Cond.methodLink "GlitchCourt$Tokens" 76 (⟨"GlitchCourt$Tokens", "isWord", "(Ljava/lang/String;)Z"⟩ : MethodName) ∈ GW := gw_in 616 (by decide +kernel) (by decide +kernel)
theorem ml_X7_80 : Cond.methodLink "GlitchCourt$Tokens" 80 (⟨"GlitchCourt$Tokens", "isSign", "(C)Z"⟩ : MethodName) ∈ GW := gw_in 642 (by decide +kernel) (by decide +kernel)
theorem ml_X8_141 : Cond.methodLink "GlitchCourt" 141 (⟨"GlitchCourt", "requireGate", "(I)V"⟩ : MethodName) ∈ GW := gw_in 793 (by decide +kernel) (by decide +kernel)
theorem ml_X8_157 : Cond.methodLink "GlitchCourt" 157 (⟨"GlitchCourt$Circuit", "cone", "(I)I"⟩ : MethodName) ∈ GW := gw_in 909 (by decide +kernel) (by decide +kernel)
theorem ml_X8_161 : Cond.methodLink "GlitchCourt" 161 (⟨"GlitchCourt$State", "settledTimes", "(I)I"⟩ : MethodName) ∈ GW := gw_in 910 (by decide +kernel) (by decide +kernel)
theorem ml_X8_164 : Cond.methodLink "GlitchCourt" 164 (⟨"GlitchCourt$State", "ruledTimes", "(I)I"⟩ : MethodName) ∈ GW := gw_in 915 (by decide +kernel) (by decide +kernel)
theorem ml_X8_167 : Cond.methodLink "GlitchCourt" 167 (⟨"GlitchCourt$Bench", "pulses", "(I)I"⟩ : MethodName) ∈ GW := gw_in 920 (by decide +kernel) (by decide +kernel)
theorem ml_X8_170 : Cond.methodLink "GlitchCourt" 170 (⟨"GlitchCourt$Circuit", "hasGate", "(I)Z"⟩ : MethodName) ∈ GW := gw_in 797 (by decide +kernel) (by decide +kernel)
theorem ml_X8_176 : Cond.methodLink "GlitchCourt" 176 (⟨"GlitchCourt$Circuit", "hasNet", "(I)Z"⟩ : MethodName) ∈ GW := gw_in 1010 (by decide +kernel) (by decide +kernel)
theorem ml_X8_181 : Cond.methodLink "GlitchCourt" 181 (⟨"GlitchCourt$Circuit", "hasTime", "(I)Z"⟩ : MethodName) ∈ GW := gw_in 806 (by decide +kernel) (by decide +kernel)
theorem ml_X8_186 : Cond.methodLink "GlitchCourt" 186 (⟨"GlitchCourt", "requireNet", "(I)V"⟩ : MethodName) ∈ GW := gw_in 1006 (by decide +kernel) (by decide +kernel)
theorem ml_X8_201 : Cond.methodLink "GlitchCourt" 201 (⟨"GlitchCourt", "requireWave", "(II)J"⟩ : MethodName) ∈ GW := gw_in 1002 (by decide +kernel) (by decide +kernel)
theorem ml_X8_207 : Cond.methodLink "GlitchCourt" 207 (⟨"GlitchCourt", "bitOf", "(JI)I"⟩ : MethodName) ∈ GW := gw_in 950 (by decide +kernel) (by decide +kernel)
theorem ml_X8_211 : Cond.methodLink "GlitchCourt" 211 (⟨"GlitchCourt$State", "timeState", "(II)I"⟩ : MethodName) ∈ GW := gw_in 1020 (by decide +kernel) (by decide +kernel)
theorem ml_X8_244 : Cond.methodLink "GlitchCourt" 244 (⟨"GlitchCourt$Bench", "pulseStart", "(II)I"⟩ : MethodName) ∈ GW := gw_in 936 (by decide +kernel) (by decide +kernel)
theorem ml_X8_255 : Cond.methodLink "GlitchCourt" 255 (⟨"GlitchCourt", "requirePulse", "(II)I"⟩ : MethodName) ∈ GW := gw_in 932 (by decide +kernel) (by decide +kernel)
theorem ml_X8_258 : Cond.methodLink "GlitchCourt" 258 (⟨"GlitchCourt$Bench", "runEnd", "(II)I"⟩ : MethodName) ∈ GW := gw_in 942 (by decide +kernel) (by decide +kernel)
theorem ml_X8_261 : Cond.methodLink "GlitchCourt" 261 (⟨"GlitchCourt$Bench", "price", "(III)I"⟩ : MethodName) ∈ GW := gw_in 811 (by decide +kernel) (by decide +kernel)
theorem ml_X8_265 : Cond.methodLink "GlitchCourt" 265 (⟨"GlitchCourt$Bench", "cheapVerdict", "(III)I"⟩ : MethodName) ∈ GW := gw_in 965 (by decide +kernel) (by decide +kernel)
theorem ml_X8_268 : Cond.methodLink "GlitchCourt" 268 (⟨"GlitchCourt", "requireDispute", "(I)LGlitchCourt$Dispute;"⟩ : MethodName) ∈ GW := gw_in 956 (by decide +kernel) (by decide +kernel)
theorem ml_X8_298 : Cond.methodLink "GlitchCourt" 298 (⟨"GlitchCourt$Dispute", "loserBy", "(I)I"⟩ : MethodName) ∈ GW := gw_in 969 (by decide +kernel) (by decide +kernel)
theorem ml_X8_302 : Cond.methodLink "GlitchCourt" 302 (⟨"GlitchCourt", "requireTimes", "(II)V"⟩ : MethodName) ∈ GW := gw_in 802 (by decide +kernel) (by decide +kernel)
theorem ml_X8_309 : Cond.methodLink "GlitchCourt" 309 (⟨"GlitchCourt$Bench", "dearVerdict", "(LGlitchCourt$Dispute;)I"⟩ : MethodName) ∈ GW := gw_in 989 (by decide +kernel) (by decide +kernel)
theorem ml_X8_317 : Cond.methodLink "GlitchCourt" 317 (⟨"GlitchCourt$State", "hasPending", "(III)Z"⟩ : MethodName) ∈ GW := gw_in 946 (by decide +kernel) (by decide +kernel)
theorem ml_X8_321 : Cond.methodLink "GlitchCourt" 321 (⟨"GlitchCourt$History", "record", "(LGlitchCourt$State;)V"⟩ : MethodName) ∈ GW := gw_in 829 (by decide +kernel) (by decide +kernel)
theorem ml_X8_325 : Cond.methodLink "GlitchCourt" 325 (⟨"GlitchCourt$Dispute", "start", "(IIIIIZ)V"⟩ : MethodName) ∈ GW := gw_in 951 (by decide +kernel) (by decide +kernel)
theorem ml_X8_329 : Cond.methodLink "GlitchCourt" 329 (⟨"GlitchCourt$Dispute", "times", "()I"⟩ : MethodName) ∈ GW := gw_in 961 (by decide +kernel) (by decide +kernel)
theorem ml_X8_331 : Cond.methodLink "GlitchCourt" 331 (⟨"GlitchCourt$State", "payCourt", "(II)V"⟩ : MethodName) ∈ GW := gw_in 973 (by decide +kernel) (by decide +kernel)
theorem ml_X8_339 : Cond.methodLink "GlitchCourt" 339 (⟨"GlitchCourt$Bench", "settle", "(III)I"⟩ : MethodName) ∈ GW := gw_in 849 (by decide +kernel) (by decide +kernel)
theorem ml_X8_342 : Cond.methodLink "GlitchCourt" 342 (⟨"GlitchCourt$Bench", "rule", "(LGlitchCourt$Dispute;)I"⟩ : MethodName) ∈ GW := gw_in 981 (by decide +kernel) (by decide +kernel)
theorem ml_X8_347 : Cond.methodLink "GlitchCourt" 347 (⟨"GlitchCourt$Bench", "unsettle", "(I)I"⟩ : MethodName) ∈ GW := gw_in 872 (by decide +kernel) (by decide +kernel)
theorem ml_X8_355 : Cond.methodLink "GlitchCourt" 355 (⟨"GlitchCourt", "window", "(II)J"⟩ : MethodName) ∈ GW := gw_in 900 (by decide +kernel) (by decide +kernel)
theorem ml_X8_57 : Cond.methodLink "GlitchCourt" 57 (⟨"GlitchCourt", "putBytes", "(I)V"⟩ : MethodName) ∈ GW := gw_in 487 (by decide +kernel) (by decide +kernel)
theorem ml_X8_68 : Cond.methodLink "GlitchCourt" 68 (⟨"GlitchCourt$Tokens", "begin", "([BI)V"⟩ : MethodName) ∈ GW := gw_in 561 (by decide +kernel) (by decide +kernel)
theorem ml_X8_72 : Cond.methodLink "GlitchCourt" 72 (⟨"GlitchCourt$Bench", "clear", "()V"⟩ : MethodName) ∈ GW := gw_in 585 (by decide +kernel) (by decide +kernel)
theorem ml_X8_75 : Cond.methodLink "GlitchCourt" 75 (⟨"GlitchCourt$BenchText", "read", "(LGlitchCourt$Tokens;LGlitchCourt$Bench;)V"⟩ : MethodName) ∈ GW := gw_in 605 (by decide +kernel) (by decide +kernel)
theorem ml_X8_82 : Cond.methodLink "GlitchCourt" 82 (⟨"GlitchCourt$Tokens", "failed", "()Z"⟩ : MethodName) ∈ GW := gw_in 701 (by decide +kernel) (by decide +kernel)
theorem ml_X8_89 : Cond.methodLink "GlitchCourt" 89 (⟨"GlitchCourt$Bench", "refresh", "()V"⟩ : MethodName) ∈ GW := gw_in 702 (by decide +kernel) (by decide +kernel)
theorem ml_X8_92 : Cond.methodLink "GlitchCourt" 92 (⟨"GlitchCourt$History", "discardAll", "()V"⟩ : MethodName) ∈ GW := gw_in 741 (by decide +kernel) (by decide +kernel)
theorem ml_X8_99 : Cond.methodLink "GlitchCourt" 99 (⟨"GlitchCourt$Circuit", "nets", "()I"⟩ : MethodName) ∈ GW := gw_in 745 (by decide +kernel) (by decide +kernel)
theorem ml_L_102 : Cond.methodLink "GlitchCourtLaw" 102 (⟨"GlitchCourtLaw", "nets", "()I"⟩ : MethodName) ∈ GW := gw_in 746 (by decide +kernel) (by decide +kernel)
theorem ml_L_105 : Cond.methodLink "GlitchCourtLaw" 105 (⟨"GlitchCourt", "size", "(I)I"⟩ : MethodName) ∈ GW := gw_in 750 (by decide +kernel) (by decide +kernel)
theorem ml_L_107 : Cond.methodLink "GlitchCourtLaw" 107 (⟨"GlitchCourt", "errorPosition", "()I"⟩ : MethodName) ∈ GW := gw_in 770 (by decide +kernel) (by decide +kernel)
theorem ml_L_110 : Cond.methodLink "GlitchCourtLaw" 110 (⟨"GlitchCourt", "gate", "(II)I"⟩ : MethodName) ∈ GW := gw_in 905 (by decide +kernel) (by decide +kernel)
theorem ml_L_113 : Cond.methodLink "GlitchCourtLaw" 113 (⟨"GlitchCourt", "open", "(IIIZ)I"⟩ : MethodName) ∈ GW := gw_in 928 (by decide +kernel) (by decide +kernel)
theorem ml_L_117 : Cond.methodLink "GlitchCourtLaw" 117 (⟨"GlitchCourt", "judge", "(I)I"⟩ : MethodName) ∈ GW := gw_in 952 (by decide +kernel) (by decide +kernel)
theorem ml_L_120 : Cond.methodLink "GlitchCourtLaw" 120 (⟨"GlitchCourt", "accept", "(I)I"⟩ : MethodName) ∈ GW := gw_in 977 (by decide +kernel) (by decide +kernel)
theorem ml_L_123 : Cond.methodLink "GlitchCourtLaw" 123 (⟨"GlitchCourt", "appeal", "(I)I"⟩ : MethodName) ∈ GW := gw_in 985 (by decide +kernel) (by decide +kernel)
theorem ml_L_135 : Cond.methodLink "GlitchCourtLaw" 135 (⟨"GlitchCourtLaw", "purses", "(LGlitchCourt;)I"⟩ : MethodName) ∈ GW := gw_in 778 (by decide +kernel) (by decide +kernel)
theorem ml_L_137 : Cond.methodLink "GlitchCourtLaw" 137 (⟨"GlitchCourtLaw", "acts", "(LGlitchCourt;I)I"⟩ : MethodName) ∈ GW := gw_in 781 (by decide +kernel) (by decide +kernel)
theorem ml_L_141 : Cond.methodLink "GlitchCourtLaw" 141 (⟨"GlitchCourtLaw", "isShown", "(LGlitchCourt;I)Z"⟩ : MethodName) ∈ GW := gw_in 994 (by decide +kernel) (by decide +kernel)
theorem ml_L_145 : Cond.methodLink "GlitchCourtLaw" 145 (⟨"GlitchCourtLaw", "net", "(I)I"⟩ : MethodName) ∈ GW := gw_in 785 (by decide +kernel) (by decide +kernel)
theorem ml_L_148 : Cond.methodLink "GlitchCourtLaw" 148 (⟨"GlitchCourt", "cost", "(III)I"⟩ : MethodName) ∈ GW := gw_in 789 (by decide +kernel) (by decide +kernel)
theorem ml_L_152 : Cond.methodLink "GlitchCourtLaw" 152 (⟨"GlitchCourt", "replay", "(III)I"⟩ : MethodName) ∈ GW := gw_in 825 (by decide +kernel) (by decide +kernel)
theorem ml_L_155 : Cond.methodLink "GlitchCourtLaw" 155 (⟨"GlitchCourt", "deposit", "(II)I"⟩ : MethodName) ∈ GW := gw_in 860 (by decide +kernel) (by decide +kernel)
theorem ml_L_158 : Cond.methodLink "GlitchCourtLaw" 158 (⟨"GlitchCourt", "setDelay", "(III)I"⟩ : MethodName) ∈ GW := gw_in 867 (by decide +kernel) (by decide +kernel)
theorem ml_L_161 : Cond.methodLink "GlitchCourtLaw" 161 (⟨"GlitchCourt", "toggle", "(II)I"⟩ : MethodName) ∈ GW := gw_in 894 (by decide +kernel) (by decide +kernel)
theorem ml_L_164 : Cond.methodLink "GlitchCourtLaw" 164 (⟨"GlitchCourtLaw", "disputes", "(LGlitchCourt;I)V"⟩ : MethodName) ∈ GW := gw_in 901 (by decide +kernel) (by decide +kernel)
theorem ml_L_168 : Cond.methodLink "GlitchCourtLaw" 168 (⟨"GlitchCourt", "wave", "(II)J"⟩ : MethodName) ∈ GW := gw_in 998 (by decide +kernel) (by decide +kernel)
theorem ml_L_172 : Cond.methodLink "GlitchCourtLaw" 172 (⟨"GlitchCourt", "stateAt", "(II)I"⟩ : MethodName) ∈ GW := gw_in 1016 (by decide +kernel) (by decide +kernel)
theorem ml_L_175 : Cond.methodLink "GlitchCourtLaw" 175 (⟨"GlitchCourt", "dependsOn", "(I)I"⟩ : MethodName) ∈ GW := gw_in 1025 (by decide +kernel) (by decide +kernel)
theorem ml_L_29 : Cond.methodLink "GlitchCourtLaw" 29 (⟨"GlitchCourtLaw", "writes", "(Ljava/lang/String;)V"⟩ : MethodName) ∈ GW := gw_in 404 (by decide +kernel) (by decide +kernel)
theorem ml_L_60 : Cond.methodLink "GlitchCourtLaw" 60 (⟨"GlitchCourtLaw", "word", "(I)Ljava/lang/String;"⟩ : MethodName) ∈ GW := gw_in 467 (by decide +kernel) (by decide +kernel)
theorem ml_L_64 : Cond.methodLink "GlitchCourtLaw" 64 (⟨"GlitchCourtLaw", "spaced", "(I)V"⟩ : MethodName) ∈ GW := gw_in 456 (by decide +kernel) (by decide +kernel)
theorem ml_L_70 : Cond.methodLink "GlitchCourtLaw" 70 (⟨"GlitchCourtLaw", "cell", "([II)I"⟩ : MethodName) ∈ GW := gw_in 399 (by decide +kernel) (by decide +kernel)
theorem ml_L_87 : Cond.methodLink "GlitchCourtLaw" 87 (⟨"GlitchCourtLaw", "gate", "(II)V"⟩ : MethodName) ∈ GW := gw_in 463 (by decide +kernel) (by decide +kernel)
theorem ml_L_94 : Cond.methodLink "GlitchCourtLaw" 94 (⟨"GlitchCourtLaw", "feeds", "(LGlitchCourt;)I"⟩ : MethodName) ∈ GW := gw_in 479 (by decide +kernel) (by decide +kernel)
theorem ml_L_98 : Cond.methodLink "GlitchCourtLaw" 98 (⟨"GlitchCourt", "load", "(I)I"⟩ : MethodName) ∈ GW := gw_in 491 (by decide +kernel) (by decide +kernel)
theorem mm_X0_101 : MXF "GlitchCourt$Bench" 101 := ⟨gw_in 733 (by decide +kernel) (by decide +kernel), gw_in 734 (by decide +kernel) (by decide +kernel), gw_in 45 (by decide +kernel) (by decide +kernel), gw_in 735 (by decide +kernel) (by decide +kernel)⟩
theorem mm_X4_37 : MNF "GlitchCourt$History" 37 := ⟨gw_in 848 (by decide +kernel) (by decide +kernel), gw_in 566 (by decide +kernel) (by decide +kernel), gw_in 45 (by decide +kernel) (by decide +kernel), gw_in 567 (by decide +kernel) (by decide +kernel)⟩
theorem mm_X7_37 : MNF "GlitchCourt$Tokens" 37 := ⟨gw_in 565 (by decide +kernel) (by decide +kernel), gw_in 566 (by decide +kernel) (by decide +kernel), gw_in 45 (by decide +kernel) (by decide +kernel), gw_in 567 (by decide +kernel) (by decide +kernel)⟩
theorem mm_X8_334 : MNF "GlitchCourt" 334 := ⟨gw_in 993 (by decide +kernel) (by decide +kernel), gw_in 566 (by decide +kernel) (by decide +kernel), gw_in 45 (by decide +kernel) (by decide +kernel), gw_in 567 (by decide +kernel) (by decide +kernel)⟩
theorem ms_X1_read : Cond.static (⟨"GlitchCourt$BenchText", "read", "(LGlitchCourt$Tokens;LGlitchCourt$Bench;)V"⟩ : MethodName) ∈ GW := gw_in 606 (by decide +kernel) (by decide +kernel)
theorem ms_X1_readGate : Cond.static (⟨"GlitchCourt$BenchText", "readGate", "(LGlitchCourt$Tokens;LGlitchCourt$Bench;)V"⟩ : MethodName) ∈ GW := gw_in 667 (by decide +kernel) (by decide +kernel)
theorem ms_X1_readGates : Cond.static (⟨"GlitchCourt$BenchText", "readGates", "(LGlitchCourt$Tokens;LGlitchCourt$Bench;)V"⟩ : MethodName) ∈ GW := gw_in 663 (by decide +kernel) (by decide +kernel)
theorem ms_X1_readHead : Cond.static (⟨"GlitchCourt$BenchText", "readHead", "(LGlitchCourt$Tokens;LGlitchCourt$Bench;)V"⟩ : MethodName) ∈ GW := gw_in 609 (by decide +kernel) (by decide +kernel)
theorem ms_X1_readInputs : Cond.static (⟨"GlitchCourt$BenchText", "readInputs", "(LGlitchCourt$Tokens;LGlitchCourt$Bench;)V"⟩ : MethodName) ∈ GW := gw_in 647 (by decide +kernel) (by decide +kernel)
theorem ms_X1_readKind : Cond.static (⟨"GlitchCourt$BenchText", "readKind", "(LGlitchCourt$Tokens;)I"⟩ : MethodName) ∈ GW := gw_in 674 (by decide +kernel) (by decide +kernel)
theorem ms_X1_readPurses : Cond.static (⟨"GlitchCourt$BenchText", "readPurses", "(LGlitchCourt$Tokens;LGlitchCourt$Bench;)V"⟩ : MethodName) ∈ GW := gw_in 693 (by decide +kernel) (by decide +kernel)
theorem ms_X1_readWave : Cond.static (⟨"GlitchCourt$BenchText", "readWave", "(LGlitchCourt$Tokens;I)J"⟩ : MethodName) ∈ GW := gw_in 654 (by decide +kernel) (by decide +kernel)
theorem ms_X8_bitOf : Cond.static (⟨"GlitchCourt", "bitOf", "(JI)I"⟩ : MethodName) ∈ GW := gw_in 718 (by decide +kernel) (by decide +kernel)
theorem ms_X8_kindWord : Cond.static (⟨"GlitchCourt", "kindWord", "(I)Ljava/lang/String;"⟩ : MethodName) ∈ GW := gw_in 677 (by decide +kernel) (by decide +kernel)
theorem ms_X8_window : Cond.static (⟨"GlitchCourt", "window", "(II)J"⟩ : MethodName) ∈ GW := gw_in 657 (by decide +kernel) (by decide +kernel)
theorem ms_L_cell : Cond.static (⟨"GlitchCourtLaw", "cell", "([II)I"⟩ : MethodName) ∈ GW := gw_in 400 (by decide +kernel) (by decide +kernel)
theorem ms_L_purses : Cond.static (⟨"GlitchCourtLaw", "purses", "(LGlitchCourt;)I"⟩ : MethodName) ∈ GW := gw_in 779 (by decide +kernel) (by decide +kernel)
theorem ms_L_word : Cond.static (⟨"GlitchCourtLaw", "word", "(I)Ljava/lang/String;"⟩ : MethodName) ∈ GW := gw_in 468 (by decide +kernel) (by decide +kernel)
theorem ms_J6_bitCount_0f7a4 : Cond.static (⟨"java/lang/Integer", "bitCount", "(I)I"⟩ : MethodName) ∈ GW := gw_in 820 (by decide +kernel) (by decide +kernel)
theorem ms_J13_bitCount_95d88 : Cond.static (⟨"java/lang/Long", "bitCount", "(J)I"⟩ : MethodName) ∈ GW := gw_in 855 (by decide +kernel) (by decide +kernel)
theorem ms_J7_fill_53178 : Cond.static (⟨"java/util/Arrays", "fill", "([II)V"⟩ : MethodName) ∈ GW := gw_in 594 (by decide +kernel) (by decide +kernel)
theorem nt_X0_80 : (("GlitchCourt$Bench", 80, (⟨"GlitchCourt", "bitOf", "(JI)I"⟩ : MethodName), "GlitchCourt") : String × Nat × MethodName × String) ∈ nsts := by decide +kernel
theorem nt_X0_84 : (("GlitchCourt$Bench", 84, (⟨"GlitchCourt", "window", "(II)J"⟩ : MethodName), "GlitchCourt") : String × Nat × MethodName × String) ∈ nsts := by decide +kernel
theorem nt_X1_129 : (("GlitchCourt$BenchText", 129, (⟨"GlitchCourt", "kindWord", "(I)Ljava/lang/String;"⟩ : MethodName), "GlitchCourt") : String × Nat × MethodName × String) ∈ nsts := by decide +kernel
theorem nt_X1_95 : (("GlitchCourt$BenchText", 95, (⟨"GlitchCourt", "window", "(II)J"⟩ : MethodName), "GlitchCourt") : String × Nat × MethodName × String) ∈ nsts := by decide +kernel
theorem nt_X2_63 : (("GlitchCourt$Circuit", 63, (⟨"GlitchCourt", "window", "(II)J"⟩ : MethodName), "GlitchCourt") : String × Nat × MethodName × String) ∈ nsts := by decide +kernel
theorem nt_X6_75 : (("GlitchCourt$State", 75, (⟨"GlitchCourt", "bitOf", "(JI)I"⟩ : MethodName), "GlitchCourt") : String × Nat × MethodName × String) ∈ nsts := by decide +kernel
theorem pf_X0_106 : FL "GlitchCourt$Bench" 106 5 3 3 true := ⟨_, _, _, rfl, by decide, gw_in 135 (by decide +kernel) (by decide +kernel), rfl, rfl⟩
theorem pf_X0_109 : FL "GlitchCourt$Bench" 109 5 2 3 true := ⟨_, _, _, rfl, by decide, gw_in 133 (by decide +kernel) (by decide +kernel), rfl, rfl⟩
theorem pf_X0_114 : FL "GlitchCourt$Bench" 114 5 4 3 true := ⟨_, _, _, rfl, by decide, gw_in 137 (by decide +kernel) (by decide +kernel), rfl, rfl⟩
theorem pf_X0_12 : FL "GlitchCourt$Bench" 12 0 0 3 true := ⟨_, _, _, rfl, by decide, gw_in 307 (by decide +kernel) (by decide +kernel), rfl, rfl⟩
theorem pf_X0_126 : FL "GlitchCourt$Bench" 126 1 7 0 false := ⟨_, _, _, rfl, by decide, gw_in 282 (by decide +kernel) (by decide +kernel), rfl, rfl⟩
theorem pf_X0_136 : FL "GlitchCourt$Bench" 136 5 8 0 false := ⟨_, _, _, rfl, by decide, gw_in 148 (by decide +kernel) (by decide +kernel), rfl, rfl⟩
theorem pf_X0_142 : FL "GlitchCourt$Bench" 142 2 3 0 false := ⟨_, _, _, rfl, by decide, gw_in 95 (by decide +kernel) (by decide +kernel), rfl, rfl⟩
theorem pf_X0_147 : FL "GlitchCourt$Bench" 147 2 0 0 false := ⟨_, _, _, rfl, by decide, gw_in 84 (by decide +kernel) (by decide +kernel), rfl, rfl⟩
theorem pf_X0_150 : FL "GlitchCourt$Bench" 150 2 1 0 false := ⟨_, _, _, rfl, by decide, gw_in 88 (by decide +kernel) (by decide +kernel), rfl, rfl⟩
theorem pf_X0_153 : FL "GlitchCourt$Bench" 153 2 2 0 false := ⟨_, _, _, rfl, by decide, gw_in 92 (by decide +kernel) (by decide +kernel), rfl, rfl⟩
theorem pf_X0_159 : FL "GlitchCourt$Bench" 159 2 7 0 false := ⟨_, _, _, rfl, by decide, gw_in 103 (by decide +kernel) (by decide +kernel), rfl, rfl⟩
theorem pf_X0_21 : FL "GlitchCourt$Bench" 21 0 1 3 true := ⟨_, _, _, rfl, by decide, gw_in 310 (by decide +kernel) (by decide +kernel), rfl, rfl⟩
theorem pf_X0_25 : FL "GlitchCourt$Bench" 25 0 2 3 true := ⟨_, _, _, rfl, by decide, gw_in 313 (by decide +kernel) (by decide +kernel), rfl, rfl⟩
theorem pf_X0_29 : FL "GlitchCourt$Bench" 29 0 3 3 true := ⟨_, _, _, rfl, by decide, gw_in 315 (by decide +kernel) (by decide +kernel), rfl, rfl⟩
theorem pf_X0_32 : FL "GlitchCourt$Bench" 32 0 4 3 true := ⟨_, _, _, rfl, by decide, gw_in 317 (by decide +kernel) (by decide +kernel), rfl, rfl⟩
theorem pf_X0_38 : FL "GlitchCourt$Bench" 38 0 6 3 true := ⟨_, _, _, rfl, by decide, gw_in 320 (by decide +kernel) (by decide +kernel), rfl, rfl⟩
theorem pf_X0_46 : FL "GlitchCourt$Bench" 46 1 4 0 false := ⟨_, _, _, rfl, by decide, gw_in 270 (by decide +kernel) (by decide +kernel), rfl, rfl⟩
theorem pf_X0_50 : FL "GlitchCourt$Bench" 50 5 1 3 true := ⟨_, _, _, rfl, by decide, gw_in 129 (by decide +kernel) (by decide +kernel), rfl, rfl⟩
theorem pf_X0_76 : FL "GlitchCourt$Bench" 76 5 0 3 true := ⟨_, _, _, rfl, by decide, gw_in 125 (by decide +kernel) (by decide +kernel), rfl, rfl⟩
theorem pf_X0_88 : FL "GlitchCourt$Bench" 88 1 6 0 false := ⟨_, _, _, rfl, by decide, gw_in 277 (by decide +kernel) (by decide +kernel), rfl, rfl⟩
theorem pf_X0_95 : FL "GlitchCourt$Bench" 95 1 2 3 true := ⟨_, _, _, rfl, by decide, gw_in 265 (by decide +kernel) (by decide +kernel), rfl, rfl⟩
theorem pf_X0_98 : FL "GlitchCourt$Bench" 98 1 1 3 true := ⟨_, _, _, rfl, by decide, gw_in 262 (by decide +kernel) (by decide +kernel), rfl, rfl⟩
theorem pf_X1_121 : FL "GlitchCourt$BenchText" 121 5 0 3 true := ⟨_, _, _, rfl, by decide, gw_in 126 (by decide +kernel) (by decide +kernel), rfl, rfl⟩
theorem pf_X1_135 : FL "GlitchCourt$BenchText" 135 5 5 3 true := ⟨_, _, _, rfl, by decide, gw_in 140 (by decide +kernel) (by decide +kernel), rfl, rfl⟩
theorem pf_X1_40 : FL "GlitchCourt$BenchText" 40 0 0 3 true := ⟨_, _, _, rfl, by decide, gw_in 308 (by decide +kernel) (by decide +kernel), rfl, rfl⟩
theorem pf_X1_50 : FL "GlitchCourt$BenchText" 50 1 6 0 false := ⟨_, _, _, rfl, by decide, gw_in 276 (by decide +kernel) (by decide +kernel), rfl, rfl⟩
theorem pf_X1_56 : FL "GlitchCourt$BenchText" 56 0 1 3 true := ⟨_, _, _, rfl, by decide, gw_in 311 (by decide +kernel) (by decide +kernel), rfl, rfl⟩
theorem pf_X1_60 : FL "GlitchCourt$BenchText" 60 5 8 0 false := ⟨_, _, _, rfl, by decide, gw_in 146 (by decide +kernel) (by decide +kernel), rfl, rfl⟩
theorem pf_X1_65 : FL "GlitchCourt$BenchText" 65 1 7 0 false := ⟨_, _, _, rfl, by decide, gw_in 280 (by decide +kernel) (by decide +kernel), rfl, rfl⟩
theorem pf_X1_68 : FL "GlitchCourt$BenchText" 68 1 8 0 false := ⟨_, _, _, rfl, by decide, gw_in 284 (by decide +kernel) (by decide +kernel), rfl, rfl⟩
theorem pf_X1_84 : FL "GlitchCourt$BenchText" 84 5 1 3 true := ⟨_, _, _, rfl, by decide, gw_in 130 (by decide +kernel) (by decide +kernel), rfl, rfl⟩
theorem pf_X1_92 : FL "GlitchCourt$BenchText" 92 1 4 0 false := ⟨_, _, _, rfl, by decide, gw_in 271 (by decide +kernel) (by decide +kernel), rfl, rfl⟩
theorem pf_X2_15 : FL "GlitchCourt$Circuit" 15 1 1 3 true := ⟨_, _, _, rfl, by decide, gw_in 261 (by decide +kernel) (by decide +kernel), rfl, rfl⟩
theorem pf_X2_18 : FL "GlitchCourt$Circuit" 18 1 2 3 true := ⟨_, _, _, rfl, by decide, gw_in 264 (by decide +kernel) (by decide +kernel), rfl, rfl⟩
theorem pf_X2_21 : FL "GlitchCourt$Circuit" 21 1 3 3 true := ⟨_, _, _, rfl, by decide, gw_in 267 (by decide +kernel) (by decide +kernel), rfl, rfl⟩
theorem pf_X2_24 : FL "GlitchCourt$Circuit" 24 1 4 0 false := ⟨_, _, _, rfl, by decide, gw_in 269 (by decide +kernel) (by decide +kernel), rfl, rfl⟩
theorem pf_X2_28 : FL "GlitchCourt$Circuit" 28 1 5 0 false := ⟨_, _, _, rfl, by decide, gw_in 273 (by decide +kernel) (by decide +kernel), rfl, rfl⟩
theorem pf_X2_31 : FL "GlitchCourt$Circuit" 31 1 6 0 false := ⟨_, _, _, rfl, by decide, gw_in 275 (by decide +kernel) (by decide +kernel), rfl, rfl⟩
theorem pf_X2_9 : FL "GlitchCourt$Circuit" 9 1 0 3 true := ⟨_, _, _, rfl, by decide, gw_in 259 (by decide +kernel) (by decide +kernel), rfl, rfl⟩
theorem pf_X3_15 : FL "GlitchCourt$Dispute" 15 2 0 0 false := ⟨_, _, _, rfl, by decide, gw_in 82 (by decide +kernel) (by decide +kernel), rfl, rfl⟩
theorem pf_X3_18 : FL "GlitchCourt$Dispute" 18 2 1 0 false := ⟨_, _, _, rfl, by decide, gw_in 86 (by decide +kernel) (by decide +kernel), rfl, rfl⟩
theorem pf_X3_21 : FL "GlitchCourt$Dispute" 21 2 2 0 false := ⟨_, _, _, rfl, by decide, gw_in 90 (by decide +kernel) (by decide +kernel), rfl, rfl⟩
theorem pf_X3_24 : FL "GlitchCourt$Dispute" 24 2 3 0 false := ⟨_, _, _, rfl, by decide, gw_in 94 (by decide +kernel) (by decide +kernel), rfl, rfl⟩
theorem pf_X3_27 : FL "GlitchCourt$Dispute" 27 2 4 0 false := ⟨_, _, _, rfl, by decide, gw_in 97 (by decide +kernel) (by decide +kernel), rfl, rfl⟩
theorem pf_X3_30 : FL "GlitchCourt$Dispute" 30 2 5 2 false := ⟨_, _, _, rfl, by decide, gw_in 98 (by decide +kernel) (by decide +kernel), rfl, rfl⟩
theorem pf_X3_34 : FL "GlitchCourt$Dispute" 34 2 6 0 false := ⟨_, _, _, rfl, by decide, gw_in 99 (by decide +kernel) (by decide +kernel), rfl, rfl⟩
theorem pf_X3_9 : FL "GlitchCourt$Dispute" 9 2 7 0 false := ⟨_, _, _, rfl, by decide, gw_in 102 (by decide +kernel) (by decide +kernel), rfl, rfl⟩
theorem pf_X4_11 : FL "GlitchCourt$History" 11 3 0 3 true := ⟨_, _, _, rfl, by decide, gw_in 168 (by decide +kernel) (by decide +kernel), rfl, rfl⟩
theorem pf_X4_22 : FL "GlitchCourt$History" 22 3 2 2 false := ⟨_, _, _, rfl, by decide, gw_in 170 (by decide +kernel) (by decide +kernel), rfl, rfl⟩
theorem pf_X4_26 : FL "GlitchCourt$History" 26 3 3 0 false := ⟨_, _, _, rfl, by decide, gw_in 171 (by decide +kernel) (by decide +kernel), rfl, rfl⟩
theorem pf_X4_30 : FL "GlitchCourt$History" 30 3 4 0 false := ⟨_, _, _, rfl, by decide, gw_in 172 (by decide +kernel) (by decide +kernel), rfl, rfl⟩
theorem pf_X6_11 : FL "GlitchCourt$State" 11 5 0 3 true := ⟨_, _, _, rfl, by decide, gw_in 124 (by decide +kernel) (by decide +kernel), rfl, rfl⟩
theorem pf_X6_16 : FL "GlitchCourt$State" 16 5 1 3 true := ⟨_, _, _, rfl, by decide, gw_in 128 (by decide +kernel) (by decide +kernel), rfl, rfl⟩
theorem pf_X6_20 : FL "GlitchCourt$State" 20 5 2 3 true := ⟨_, _, _, rfl, by decide, gw_in 132 (by decide +kernel) (by decide +kernel), rfl, rfl⟩
theorem pf_X6_23 : FL "GlitchCourt$State" 23 5 3 3 true := ⟨_, _, _, rfl, by decide, gw_in 134 (by decide +kernel) (by decide +kernel), rfl, rfl⟩
theorem pf_X6_26 : FL "GlitchCourt$State" 26 5 4 3 true := ⟨_, _, _, rfl, by decide, gw_in 136 (by decide +kernel) (by decide +kernel), rfl, rfl⟩
theorem pf_X6_29 : FL "GlitchCourt$State" 29 5 5 3 true := ⟨_, _, _, rfl, by decide, gw_in 138 (by decide +kernel) (by decide +kernel), rfl, rfl⟩
theorem pf_X6_35 : FL "GlitchCourt$State" 35 5 6 3 true := ⟨_, _, _, rfl, by decide, gw_in 141 (by decide +kernel) (by decide +kernel), rfl, rfl⟩
theorem pf_X6_39 : FL "GlitchCourt$State" 39 5 7 0 false := ⟨_, _, _, rfl, by decide, gw_in 143 (by decide +kernel) (by decide +kernel), rfl, rfl⟩
theorem pf_X6_43 : FL "GlitchCourt$State" 43 5 8 0 false := ⟨_, _, _, rfl, by decide, gw_in 145 (by decide +kernel) (by decide +kernel), rfl, rfl⟩
theorem pf_X6_83 : FL "GlitchCourt$State" 83 2 0 0 false := ⟨_, _, _, rfl, by decide, gw_in 83 (by decide +kernel) (by decide +kernel), rfl, rfl⟩
theorem pf_X6_86 : FL "GlitchCourt$State" 86 2 1 0 false := ⟨_, _, _, rfl, by decide, gw_in 87 (by decide +kernel) (by decide +kernel), rfl, rfl⟩
theorem pf_X6_89 : FL "GlitchCourt$State" 89 2 2 0 false := ⟨_, _, _, rfl, by decide, gw_in 91 (by decide +kernel) (by decide +kernel), rfl, rfl⟩
theorem pf_X6_92 : FL "GlitchCourt$State" 92 2 6 0 false := ⟨_, _, _, rfl, by decide, gw_in 100 (by decide +kernel) (by decide +kernel), rfl, rfl⟩
theorem pf_X7_15 : FL "GlitchCourt$Tokens" 15 6 1 0 false := ⟨_, _, _, rfl, by decide, gw_in 191 (by decide +kernel) (by decide +kernel), rfl, rfl⟩
theorem pf_X7_19 : FL "GlitchCourt$Tokens" 19 6 2 0 false := ⟨_, _, _, rfl, by decide, gw_in 192 (by decide +kernel) (by decide +kernel), rfl, rfl⟩
theorem pf_X7_22 : FL "GlitchCourt$Tokens" 22 6 3 0 false := ⟨_, _, _, rfl, by decide, gw_in 193 (by decide +kernel) (by decide +kernel), rfl, rfl⟩
theorem pf_X7_25 : FL "GlitchCourt$Tokens" 25 6 4 0 false := ⟨_, _, _, rfl, by decide, gw_in 194 (by decide +kernel) (by decide +kernel), rfl, rfl⟩
theorem pf_X7_28 : FL "GlitchCourt$Tokens" 28 6 5 0 false := ⟨_, _, _, rfl, by decide, gw_in 195 (by decide +kernel) (by decide +kernel), rfl, rfl⟩
theorem pf_X7_31 : FL "GlitchCourt$Tokens" 31 6 6 0 false := ⟨_, _, _, rfl, by decide, gw_in 196 (by decide +kernel) (by decide +kernel), rfl, rfl⟩
theorem pf_X7_34 : FL "GlitchCourt$Tokens" 34 6 7 0 false := ⟨_, _, _, rfl, by decide, gw_in 198 (by decide +kernel) (by decide +kernel), rfl, rfl⟩
theorem pf_X7_9 : FL "GlitchCourt$Tokens" 9 6 0 3 false := ⟨_, _, _, rfl, by decide, gw_in 190 (by decide +kernel) (by decide +kernel), rfl, rfl⟩
theorem pf_X8_10 : FL "GlitchCourt" 10 7 0 3 true := ⟨_, _, _, rfl, by decide, gw_in 336 (by decide +kernel) (by decide +kernel), rfl, rfl⟩
theorem pf_X8_105 : FL "GlitchCourt" 105 1 4 0 false := ⟨_, _, _, rfl, by decide, gw_in 272 (by decide +kernel) (by decide +kernel), rfl, rfl⟩
theorem pf_X8_108 : FL "GlitchCourt" 108 1 5 0 false := ⟨_, _, _, rfl, by decide, gw_in 274 (by decide +kernel) (by decide +kernel), rfl, rfl⟩
theorem pf_X8_111 : FL "GlitchCourt" 111 1 6 0 false := ⟨_, _, _, rfl, by decide, gw_in 278 (by decide +kernel) (by decide +kernel), rfl, rfl⟩
theorem pf_X8_114 : FL "GlitchCourt" 114 0 1 3 true := ⟨_, _, _, rfl, by decide, gw_in 312 (by decide +kernel) (by decide +kernel), rfl, rfl⟩
theorem pf_X8_118 : FL "GlitchCourt" 118 5 8 0 false := ⟨_, _, _, rfl, by decide, gw_in 147 (by decide +kernel) (by decide +kernel), rfl, rfl⟩
theorem pf_X8_123 : FL "GlitchCourt" 123 1 7 0 false := ⟨_, _, _, rfl, by decide, gw_in 281 (by decide +kernel) (by decide +kernel), rfl, rfl⟩
theorem pf_X8_126 : FL "GlitchCourt" 126 1 8 0 false := ⟨_, _, _, rfl, by decide, gw_in 285 (by decide +kernel) (by decide +kernel), rfl, rfl⟩
theorem pf_X8_129 : FL "GlitchCourt" 129 5 7 0 false := ⟨_, _, _, rfl, by decide, gw_in 144 (by decide +kernel) (by decide +kernel), rfl, rfl⟩
theorem pf_X8_132 : FL "GlitchCourt" 132 5 5 3 true := ⟨_, _, _, rfl, by decide, gw_in 139 (by decide +kernel) (by decide +kernel), rfl, rfl⟩
theorem pf_X8_144 : FL "GlitchCourt" 144 1 0 3 true := ⟨_, _, _, rfl, by decide, gw_in 260 (by decide +kernel) (by decide +kernel), rfl, rfl⟩
theorem pf_X8_147 : FL "GlitchCourt" 147 1 1 3 true := ⟨_, _, _, rfl, by decide, gw_in 263 (by decide +kernel) (by decide +kernel), rfl, rfl⟩
theorem pf_X8_150 : FL "GlitchCourt" 150 1 2 3 true := ⟨_, _, _, rfl, by decide, gw_in 266 (by decide +kernel) (by decide +kernel), rfl, rfl⟩
theorem pf_X8_153 : FL "GlitchCourt" 153 5 0 3 true := ⟨_, _, _, rfl, by decide, gw_in 127 (by decide +kernel) (by decide +kernel), rfl, rfl⟩
theorem pf_X8_189 : FL "GlitchCourt" 189 0 2 3 true := ⟨_, _, _, rfl, by decide, gw_in 314 (by decide +kernel) (by decide +kernel), rfl, rfl⟩
theorem pf_X8_19 : FL "GlitchCourt" 19 7 1 3 true := ⟨_, _, _, rfl, by decide, gw_in 337 (by decide +kernel) (by decide +kernel), rfl, rfl⟩
theorem pf_X8_193 : FL "GlitchCourt" 193 0 3 3 true := ⟨_, _, _, rfl, by decide, gw_in 316 (by decide +kernel) (by decide +kernel), rfl, rfl⟩
theorem pf_X8_196 : FL "GlitchCourt" 196 0 4 3 true := ⟨_, _, _, rfl, by decide, gw_in 318 (by decide +kernel) (by decide +kernel), rfl, rfl⟩
theorem pf_X8_235 : FL "GlitchCourt" 235 1 3 3 true := ⟨_, _, _, rfl, by decide, gw_in 268 (by decide +kernel) (by decide +kernel), rfl, rfl⟩
theorem pf_X8_251 : FL "GlitchCourt" 251 5 6 3 true := ⟨_, _, _, rfl, by decide, gw_in 142 (by decide +kernel) (by decide +kernel), rfl, rfl⟩
theorem pf_X8_272 : FL "GlitchCourt" 272 2 0 0 false := ⟨_, _, _, rfl, by decide, gw_in 85 (by decide +kernel) (by decide +kernel), rfl, rfl⟩
theorem pf_X8_276 : FL "GlitchCourt" 276 2 1 0 false := ⟨_, _, _, rfl, by decide, gw_in 89 (by decide +kernel) (by decide +kernel), rfl, rfl⟩
theorem pf_X8_279 : FL "GlitchCourt" 279 2 2 0 false := ⟨_, _, _, rfl, by decide, gw_in 93 (by decide +kernel) (by decide +kernel), rfl, rfl⟩
theorem pf_X8_282 : FL "GlitchCourt" 282 2 3 0 false := ⟨_, _, _, rfl, by decide, gw_in 96 (by decide +kernel) (by decide +kernel), rfl, rfl⟩
theorem pf_X8_292 : FL "GlitchCourt" 292 2 6 0 false := ⟨_, _, _, rfl, by decide, gw_in 101 (by decide +kernel) (by decide +kernel), rfl, rfl⟩
theorem pf_X8_295 : FL "GlitchCourt" 295 2 7 0 false := ⟨_, _, _, rfl, by decide, gw_in 104 (by decide +kernel) (by decide +kernel), rfl, rfl⟩
theorem pf_X8_30 : FL "GlitchCourt" 30 7 3 3 true := ⟨_, _, _, rfl, by decide, gw_in 339 (by decide +kernel) (by decide +kernel), rfl, rfl⟩
theorem pf_X8_352 : FL "GlitchCourt" 352 5 1 3 true := ⟨_, _, _, rfl, by decide, gw_in 131 (by decide +kernel) (by decide +kernel), rfl, rfl⟩
theorem pf_X8_40 : FL "GlitchCourt" 40 7 5 3 false := ⟨_, _, _, rfl, by decide, gw_in 341 (by decide +kernel) (by decide +kernel), rfl, rfl⟩
theorem pf_X8_44 : FL "GlitchCourt" 44 7 6 3 false := ⟨_, _, _, rfl, by decide, gw_in 342 (by decide +kernel) (by decide +kernel), rfl, rfl⟩
theorem pf_X8_47 : FL "GlitchCourt" 47 7 7 0 false := ⟨_, _, _, rfl, by decide, gw_in 343 (by decide +kernel) (by decide +kernel), rfl, rfl⟩
theorem pf_X8_54 : FL "GlitchCourt" 54 7 9 0 false := ⟨_, _, _, rfl, by decide, gw_in 345 (by decide +kernel) (by decide +kernel), rfl, rfl⟩
theorem pf_X8_81 : FL "GlitchCourt" 81 6 7 0 false := ⟨_, _, _, rfl, by decide, gw_in 199 (by decide +kernel) (by decide +kernel), rfl, rfl⟩
theorem pf_X8_86 : FL "GlitchCourt" 86 6 6 0 false := ⟨_, _, _, rfl, by decide, gw_in 197 (by decide +kernel) (by decide +kernel), rfl, rfl⟩
theorem pf_X8_95 : FL "GlitchCourt" 95 0 0 3 true := ⟨_, _, _, rfl, by decide, gw_in 309 (by decide +kernel) (by decide +kernel), rfl, rfl⟩
theorem pf_L_19 : FL "GlitchCourtLaw" 19 8 1 0 false := ⟨_, _, _, rfl, by decide, gw_in 374 (by decide +kernel) (by decide +kernel), rfl, rfl⟩
theorem pf_L_40 : FL "GlitchCourtLaw" 40 8 3 0 false := ⟨_, _, _, rfl, by decide, gw_in 376 (by decide +kernel) (by decide +kernel), rfl, rfl⟩
theorem pf_L_43 : FL "GlitchCourtLaw" 43 8 4 0 false := ⟨_, _, _, rfl, by decide, gw_in 377 (by decide +kernel) (by decide +kernel), rfl, rfl⟩
theorem pf_L_7 : FL "GlitchCourtLaw" 7 8 0 3 true := ⟨_, _, _, rfl, by decide, gw_in 373 (by decide +kernel) (by decide +kernel), rfl, rfl⟩
theorem pf_L_74 : FL "GlitchCourtLaw" 74 8 2 0 false := ⟨_, _, _, rfl, by decide, gw_in 375 (by decide +kernel) (by decide +kernel), rfl, rfl⟩
theorem pf_L_77 : FL "GlitchCourtLaw" 77 8 5 0 false := ⟨_, _, _, rfl, by decide, gw_in 378 (by decide +kernel) (by decide +kernel), rfl, rfl⟩
theorem pf_L_80 : FL "GlitchCourtLaw" 80 8 6 0 false := ⟨_, _, _, rfl, by decide, gw_in 379 (by decide +kernel) (by decide +kernel), rfl, rfl⟩
theorem se_X0_cheapVerdict : Cond.selects "GlitchCourt$Bench" (⟨"GlitchCourt$Bench", "cheapVerdict", "(III)I"⟩ : MethodName) (⟨"GlitchCourt$Bench", "cheapVerdict", "(III)I"⟩ : MethodName) ∈ GW := gw_in 967 (by decide +kernel) (by decide +kernel)
theorem se_X0_clear : Cond.selects "GlitchCourt$Bench" (⟨"GlitchCourt$Bench", "clear", "()V"⟩ : MethodName) (⟨"GlitchCourt$Bench", "clear", "()V"⟩ : MethodName) ∈ GW := gw_in 587 (by decide +kernel) (by decide +kernel)
theorem se_X0_dearVerdict : Cond.selects "GlitchCourt$Bench" (⟨"GlitchCourt$Bench", "dearVerdict", "(LGlitchCourt$Dispute;)I"⟩ : MethodName) (⟨"GlitchCourt$Bench", "dearVerdict", "(LGlitchCourt$Dispute;)I"⟩ : MethodName) ∈ GW := gw_in 991 (by decide +kernel) (by decide +kernel)
theorem se_X0_dearWave : Cond.selects "GlitchCourt$Bench" (⟨"GlitchCourt$Bench", "dearWave", "(I)J"⟩ : MethodName) (⟨"GlitchCourt$Bench", "dearWave", "(I)J"⟩ : MethodName) ∈ GW := gw_in 10 (by decide +kernel) (by decide +kernel)
theorem se_X0_lateWave : Cond.selects "GlitchCourt$Bench" (⟨"GlitchCourt$Bench", "lateWave", "(I[J)J"⟩ : MethodName) (⟨"GlitchCourt$Bench", "lateWave", "(I[J)J"⟩ : MethodName) ∈ GW := gw_in 9 (by decide +kernel) (by decide +kernel)
theorem se_X0_longestPath : Cond.selects "GlitchCourt$Bench" (⟨"GlitchCourt$Bench", "longestPath", "(I)I"⟩ : MethodName) (⟨"GlitchCourt$Bench", "longestPath", "(I)I"⟩ : MethodName) ∈ GW := gw_in 12 (by decide +kernel) (by decide +kernel)
theorem se_X0_price : Cond.selects "GlitchCourt$Bench" (⟨"GlitchCourt$Bench", "price", "(III)I"⟩ : MethodName) (⟨"GlitchCourt$Bench", "price", "(III)I"⟩ : MethodName) ∈ GW := gw_in 813 (by decide +kernel) (by decide +kernel)
theorem se_X0_pulseStart : Cond.selects "GlitchCourt$Bench" (⟨"GlitchCourt$Bench", "pulseStart", "(II)I"⟩ : MethodName) (⟨"GlitchCourt$Bench", "pulseStart", "(II)I"⟩ : MethodName) ∈ GW := gw_in 938 (by decide +kernel) (by decide +kernel)
theorem se_X0_pulseStarts : Cond.selects "GlitchCourt$Bench" (⟨"GlitchCourt$Bench", "pulseStarts", "(I)J"⟩ : MethodName) (⟨"GlitchCourt$Bench", "pulseStarts", "(I)J"⟩ : MethodName) ∈ GW := gw_in 22 (by decide +kernel) (by decide +kernel)
theorem se_X0_pulses : Cond.selects "GlitchCourt$Bench" (⟨"GlitchCourt$Bench", "pulses", "(I)I"⟩ : MethodName) (⟨"GlitchCourt$Bench", "pulses", "(I)I"⟩ : MethodName) ∈ GW := gw_in 922 (by decide +kernel) (by decide +kernel)
theorem se_X0_refresh : Cond.selects "GlitchCourt$Bench" (⟨"GlitchCourt$Bench", "refresh", "()V"⟩ : MethodName) (⟨"GlitchCourt$Bench", "refresh", "()V"⟩ : MethodName) ∈ GW := gw_in 704 (by decide +kernel) (by decide +kernel)
theorem se_X0_rule : Cond.selects "GlitchCourt$Bench" (⟨"GlitchCourt$Bench", "rule", "(LGlitchCourt$Dispute;)I"⟩ : MethodName) (⟨"GlitchCourt$Bench", "rule", "(LGlitchCourt$Dispute;)I"⟩ : MethodName) ∈ GW := gw_in 983 (by decide +kernel) (by decide +kernel)
theorem se_X0_runEnd : Cond.selects "GlitchCourt$Bench" (⟨"GlitchCourt$Bench", "runEnd", "(II)I"⟩ : MethodName) (⟨"GlitchCourt$Bench", "runEnd", "(II)I"⟩ : MethodName) ∈ GW := gw_in 944 (by decide +kernel) (by decide +kernel)
theorem se_X0_settle : Cond.selects "GlitchCourt$Bench" (⟨"GlitchCourt$Bench", "settle", "(III)I"⟩ : MethodName) (⟨"GlitchCourt$Bench", "settle", "(III)I"⟩ : MethodName) ∈ GW := gw_in 851 (by decide +kernel) (by decide +kernel)
theorem se_X0_showInto : Cond.selects "GlitchCourt$Bench" (⟨"GlitchCourt$Bench", "showInto", "([JIJ)V"⟩ : MethodName) (⟨"GlitchCourt$Bench", "showInto", "([JIJ)V"⟩ : MethodName) ∈ GW := gw_in 13 (by decide +kernel) (by decide +kernel)
theorem se_X0_swing : Cond.selects "GlitchCourt$Bench" (⟨"GlitchCourt$Bench", "swing", "(II)I"⟩ : MethodName) (⟨"GlitchCourt$Bench", "swing", "(II)I"⟩ : MethodName) ∈ GW := gw_in 11 (by decide +kernel) (by decide +kernel)
theorem se_X0_unsettle : Cond.selects "GlitchCourt$Bench" (⟨"GlitchCourt$Bench", "unsettle", "(I)I"⟩ : MethodName) (⟨"GlitchCourt$Bench", "unsettle", "(I)I"⟩ : MethodName) ∈ GW := gw_in 874 (by decide +kernel) (by decide +kernel)
theorem se_X2_addGate : Cond.selects "GlitchCourt$Circuit" (⟨"GlitchCourt$Circuit", "addGate", "(III)V"⟩ : MethodName) (⟨"GlitchCourt$Circuit", "addGate", "(III)V"⟩ : MethodName) ∈ GW := gw_in 689 (by decide +kernel) (by decide +kernel)
theorem se_X2_clear : Cond.selects "GlitchCourt$Circuit" (⟨"GlitchCourt$Circuit", "clear", "()V"⟩ : MethodName) (⟨"GlitchCourt$Circuit", "clear", "()V"⟩ : MethodName) ∈ GW := gw_in 591 (by decide +kernel) (by decide +kernel)
theorem se_X2_cone : Cond.selects "GlitchCourt$Circuit" (⟨"GlitchCourt$Circuit", "cone", "(I)I"⟩ : MethodName) (⟨"GlitchCourt$Circuit", "cone", "(I)I"⟩ : MethodName) ∈ GW := gw_in 817 (by decide +kernel) (by decide +kernel)
theorem se_X2_hasGate : Cond.selects "GlitchCourt$Circuit" (⟨"GlitchCourt$Circuit", "hasGate", "(I)Z"⟩ : MethodName) (⟨"GlitchCourt$Circuit", "hasGate", "(I)Z"⟩ : MethodName) ∈ GW := gw_in 799 (by decide +kernel) (by decide +kernel)
theorem se_X2_hasNet : Cond.selects "GlitchCourt$Circuit" (⟨"GlitchCourt$Circuit", "hasNet", "(I)Z"⟩ : MethodName) (⟨"GlitchCourt$Circuit", "hasNet", "(I)Z"⟩ : MethodName) ∈ GW := gw_in 1012 (by decide +kernel) (by decide +kernel)
theorem se_X2_hasTime : Cond.selects "GlitchCourt$Circuit" (⟨"GlitchCourt$Circuit", "hasTime", "(I)Z"⟩ : MethodName) (⟨"GlitchCourt$Circuit", "hasTime", "(I)Z"⟩ : MethodName) ∈ GW := gw_in 808 (by decide +kernel) (by decide +kernel)
theorem se_X2_idealOf : Cond.selects "GlitchCourt$Circuit" (⟨"GlitchCourt$Circuit", "idealOf", "(I[J)J"⟩ : MethodName) (⟨"GlitchCourt$Circuit", "idealOf", "(I[J)J"⟩ : MethodName) ∈ GW := gw_in 713 (by decide +kernel) (by decide +kernel)
theorem se_X2_nets : Cond.selects "GlitchCourt$Circuit" (⟨"GlitchCourt$Circuit", "nets", "()I"⟩ : MethodName) (⟨"GlitchCourt$Circuit", "nets", "()I"⟩ : MethodName) ∈ GW := gw_in 671 (by decide +kernel) (by decide +kernel)
theorem se_X2_readersOf : Cond.selects "GlitchCourt$Circuit" (⟨"GlitchCourt$Circuit", "readersOf", "(I)I"⟩ : MethodName) (⟨"GlitchCourt$Circuit", "readersOf", "(I)I"⟩ : MethodName) ∈ GW := gw_in 20 (by decide +kernel) (by decide +kernel)
theorem se_X2_touchedBy : Cond.selects "GlitchCourt$Circuit" (⟨"GlitchCourt$Circuit", "touchedBy", "(I)I"⟩ : MethodName) (⟨"GlitchCourt$Circuit", "touchedBy", "(I)I"⟩ : MethodName) ∈ GW := gw_in 878 (by decide +kernel) (by decide +kernel)
theorem se_X3_copyFrom : Cond.selects "GlitchCourt$Dispute" (⟨"GlitchCourt$Dispute", "copyFrom", "(LGlitchCourt$Dispute;)V"⟩ : MethodName) (⟨"GlitchCourt$Dispute", "copyFrom", "(LGlitchCourt$Dispute;)V"⟩ : MethodName) ∈ GW := gw_in 842 (by decide +kernel) (by decide +kernel)
theorem se_X3_isPending : Cond.selects "GlitchCourt$Dispute" (⟨"GlitchCourt$Dispute", "isPending", "()Z"⟩ : MethodName) (⟨"GlitchCourt$Dispute", "isPending", "()Z"⟩ : MethodName) ∈ GW := gw_in 892 (by decide +kernel) (by decide +kernel)
theorem se_X3_loserBy : Cond.selects "GlitchCourt$Dispute" (⟨"GlitchCourt$Dispute", "loserBy", "(I)I"⟩ : MethodName) (⟨"GlitchCourt$Dispute", "loserBy", "(I)I"⟩ : MethodName) ∈ GW := gw_in 971 (by decide +kernel) (by decide +kernel)
theorem se_X3_start : Cond.selects "GlitchCourt$Dispute" (⟨"GlitchCourt$Dispute", "start", "(IIIIIZ)V"⟩ : MethodName) (⟨"GlitchCourt$Dispute", "start", "(IIIIIZ)V"⟩ : MethodName) ∈ GW := gw_in 846 (by decide +kernel) (by decide +kernel)
theorem se_X3_times : Cond.selects "GlitchCourt$Dispute" (⟨"GlitchCourt$Dispute", "times", "()I"⟩ : MethodName) (⟨"GlitchCourt$Dispute", "times", "()I"⟩ : MethodName) ∈ GW := gw_in 963 (by decide +kernel) (by decide +kernel)
theorem se_X4_discardAll : Cond.selects "GlitchCourt$History" (⟨"GlitchCourt$History", "discardAll", "()V"⟩ : MethodName) (⟨"GlitchCourt$History", "discardAll", "()V"⟩ : MethodName) ∈ GW := gw_in 743 (by decide +kernel) (by decide +kernel)
theorem se_X4_record : Cond.selects "GlitchCourt$History" (⟨"GlitchCourt$History", "record", "(LGlitchCourt$State;)V"⟩ : MethodName) (⟨"GlitchCourt$History", "record", "(LGlitchCourt$State;)V"⟩ : MethodName) ∈ GW := gw_in 831 (by decide +kernel) (by decide +kernel)
theorem se_X6_clear : Cond.selects "GlitchCourt$State" (⟨"GlitchCourt$State", "clear", "()V"⟩ : MethodName) (⟨"GlitchCourt$State", "clear", "()V"⟩ : MethodName) ∈ GW := gw_in 598 (by decide +kernel) (by decide +kernel)
theorem se_X6_copyFrom : Cond.selects "GlitchCourt$State" (⟨"GlitchCourt$State", "copyFrom", "(LGlitchCourt$State;)V"⟩ : MethodName) (⟨"GlitchCourt$State", "copyFrom", "(LGlitchCourt$State;)V"⟩ : MethodName) ∈ GW := gw_in 835 (by decide +kernel) (by decide +kernel)
theorem se_X6_dropPending : Cond.selects "GlitchCourt$State" (⟨"GlitchCourt$State", "dropPending", "(I)I"⟩ : MethodName) (⟨"GlitchCourt$State", "dropPending", "(I)I"⟩ : MethodName) ∈ GW := gw_in 888 (by decide +kernel) (by decide +kernel)
theorem se_X6_forget : Cond.selects "GlitchCourt$State" (⟨"GlitchCourt$State", "forget", "(I)V"⟩ : MethodName) (⟨"GlitchCourt$State", "forget", "(I)V"⟩ : MethodName) ∈ GW := gw_in 602 (by decide +kernel) (by decide +kernel)
theorem se_X6_hasPending : Cond.selects "GlitchCourt$State" (⟨"GlitchCourt$State", "hasPending", "(III)Z"⟩ : MethodName) (⟨"GlitchCourt$State", "hasPending", "(III)Z"⟩ : MethodName) ∈ GW := gw_in 948 (by decide +kernel) (by decide +kernel)
theorem se_X6_payCourt : Cond.selects "GlitchCourt$State" (⟨"GlitchCourt$State", "payCourt", "(II)V"⟩ : MethodName) (⟨"GlitchCourt$State", "payCourt", "(II)V"⟩ : MethodName) ∈ GW := gw_in 975 (by decide +kernel) (by decide +kernel)
theorem se_X6_ruledTimes : Cond.selects "GlitchCourt$State" (⟨"GlitchCourt$State", "ruledTimes", "(I)I"⟩ : MethodName) (⟨"GlitchCourt$State", "ruledTimes", "(I)I"⟩ : MethodName) ∈ GW := gw_in 917 (by decide +kernel) (by decide +kernel)
theorem se_X6_settledTimes : Cond.selects "GlitchCourt$State" (⟨"GlitchCourt$State", "settledTimes", "(I)I"⟩ : MethodName) (⟨"GlitchCourt$State", "settledTimes", "(I)I"⟩ : MethodName) ∈ GW := gw_in 912 (by decide +kernel) (by decide +kernel)
theorem se_X6_timeState : Cond.selects "GlitchCourt$State" (⟨"GlitchCourt$State", "timeState", "(II)I"⟩ : MethodName) (⟨"GlitchCourt$State", "timeState", "(II)I"⟩ : MethodName) ∈ GW := gw_in 1022 (by decide +kernel) (by decide +kernel)
theorem se_X7_advance : Cond.selects "GlitchCourt$Tokens" (⟨"GlitchCourt$Tokens", "advance", "()V"⟩ : MethodName) (⟨"GlitchCourt$Tokens", "advance", "()V"⟩ : MethodName) ∈ GW := gw_in 570 (by decide +kernel) (by decide +kernel)
theorem se_X7_begin : Cond.selects "GlitchCourt$Tokens" (⟨"GlitchCourt$Tokens", "begin", "([BI)V"⟩ : MethodName) (⟨"GlitchCourt$Tokens", "begin", "([BI)V"⟩ : MethodName) ∈ GW := gw_in 563 (by decide +kernel) (by decide +kernel)
theorem se_X7_fail : Cond.selects "GlitchCourt$Tokens" (⟨"GlitchCourt$Tokens", "fail", "(I)V"⟩ : MethodName) (⟨"GlitchCourt$Tokens", "fail", "(I)V"⟩ : MethodName) ∈ GW := gw_in 624 (by decide +kernel) (by decide +kernel)
theorem se_X7_failed : Cond.selects "GlitchCourt$Tokens" (⟨"GlitchCourt$Tokens", "failed", "()Z"⟩ : MethodName) (⟨"GlitchCourt$Tokens", "failed", "()Z"⟩ : MethodName) ∈ GW := gw_in 574 (by decide +kernel) (by decide +kernel)
theorem se_X7_isEnd : Cond.selects "GlitchCourt$Tokens" (⟨"GlitchCourt$Tokens", "isEnd", "()Z"⟩ : MethodName) (⟨"GlitchCourt$Tokens", "isEnd", "()Z"⟩ : MethodName) ∈ GW := gw_in 699 (by decide +kernel) (by decide +kernel)
theorem se_X7_isNumber : Cond.selects "GlitchCourt$Tokens" (⟨"GlitchCourt$Tokens", "isNumber", "()Z"⟩ : MethodName) (⟨"GlitchCourt$Tokens", "isNumber", "()Z"⟩ : MethodName) ∈ GW := gw_in 636 (by decide +kernel) (by decide +kernel)
theorem se_X7_isSign : Cond.selects "GlitchCourt$Tokens" (⟨"GlitchCourt$Tokens", "isSign", "(C)Z"⟩ : MethodName) (⟨"GlitchCourt$Tokens", "isSign", "(C)Z"⟩ : MethodName) ∈ GW := gw_in 644 (by decide +kernel) (by decide +kernel)
theorem se_X7_isWord : Cond.selects "GlitchCourt$Tokens" (⟨"GlitchCourt$Tokens", "isWord", "(Ljava/lang/String;)Z"⟩ : MethodName) (⟨"GlitchCourt$Tokens", "isWord", "(Ljava/lang/String;)Z"⟩ : MethodName) ∈ GW := gw_in 618 (by decide +kernel) (by decide +kernel)
theorem se_X7_peekNumber : Cond.selects "GlitchCourt$Tokens" (⟨"GlitchCourt$Tokens", "peekNumber", "(II)I"⟩ : MethodName) (⟨"GlitchCourt$Tokens", "peekNumber", "(II)I"⟩ : MethodName) ∈ GW := gw_in 632 (by decide +kernel) (by decide +kernel)
theorem se_X7_scanNumber : Cond.selects "GlitchCourt$Tokens" (⟨"GlitchCourt$Tokens", "scanNumber", "()V"⟩ : MethodName) (⟨"GlitchCourt$Tokens", "scanNumber", "()V"⟩ : MethodName) ∈ GW := gw_in 8 (by decide +kernel) (by decide +kernel)
theorem se_X7_scanWord : Cond.selects "GlitchCourt$Tokens" (⟨"GlitchCourt$Tokens", "scanWord", "()V"⟩ : MethodName) (⟨"GlitchCourt$Tokens", "scanWord", "()V"⟩ : MethodName) ∈ GW := gw_in 7 (by decide +kernel) (by decide +kernel)
theorem se_X7_takeNumber : Cond.selects "GlitchCourt$Tokens" (⟨"GlitchCourt$Tokens", "takeNumber", "(II)I"⟩ : MethodName) (⟨"GlitchCourt$Tokens", "takeNumber", "(II)I"⟩ : MethodName) ∈ GW := gw_in 628 (by decide +kernel) (by decide +kernel)
theorem se_X7_takeSign : Cond.selects "GlitchCourt$Tokens" (⟨"GlitchCourt$Tokens", "takeSign", "(C)V"⟩ : MethodName) (⟨"GlitchCourt$Tokens", "takeSign", "(C)V"⟩ : MethodName) ∈ GW := gw_in 640 (by decide +kernel) (by decide +kernel)
theorem se_X7_takeWord : Cond.selects "GlitchCourt$Tokens" (⟨"GlitchCourt$Tokens", "takeWord", "(Ljava/lang/String;)V"⟩ : MethodName) (⟨"GlitchCourt$Tokens", "takeWord", "(Ljava/lang/String;)V"⟩ : MethodName) ∈ GW := gw_in 614 (by decide +kernel) (by decide +kernel)
theorem se_X8_accept : Cond.selects "GlitchCourt" (⟨"GlitchCourt", "accept", "(I)I"⟩ : MethodName) (⟨"GlitchCourt", "accept", "(I)I"⟩ : MethodName) ∈ GW := gw_in 979 (by decide +kernel) (by decide +kernel)
theorem se_X8_appeal : Cond.selects "GlitchCourt" (⟨"GlitchCourt", "appeal", "(I)I"⟩ : MethodName) (⟨"GlitchCourt", "appeal", "(I)I"⟩ : MethodName) ∈ GW := gw_in 987 (by decide +kernel) (by decide +kernel)
theorem se_X8_cost : Cond.selects "GlitchCourt" (⟨"GlitchCourt", "cost", "(III)I"⟩ : MethodName) (⟨"GlitchCourt", "cost", "(III)I"⟩ : MethodName) ∈ GW := gw_in 791 (by decide +kernel) (by decide +kernel)
theorem se_X8_dependsOn : Cond.selects "GlitchCourt" (⟨"GlitchCourt", "dependsOn", "(I)I"⟩ : MethodName) (⟨"GlitchCourt", "dependsOn", "(I)I"⟩ : MethodName) ∈ GW := gw_in 1027 (by decide +kernel) (by decide +kernel)
theorem se_X8_deposit : Cond.selects "GlitchCourt" (⟨"GlitchCourt", "deposit", "(II)I"⟩ : MethodName) (⟨"GlitchCourt", "deposit", "(II)I"⟩ : MethodName) ∈ GW := gw_in 862 (by decide +kernel) (by decide +kernel)
theorem se_X8_errorPosition : Cond.selects "GlitchCourt" (⟨"GlitchCourt", "errorPosition", "()I"⟩ : MethodName) (⟨"GlitchCourt", "errorPosition", "()I"⟩ : MethodName) ∈ GW := gw_in 772 (by decide +kernel) (by decide +kernel)
theorem se_X8_gate : Cond.selects "GlitchCourt" (⟨"GlitchCourt", "gate", "(II)I"⟩ : MethodName) (⟨"GlitchCourt", "gate", "(II)I"⟩ : MethodName) ∈ GW := gw_in 907 (by decide +kernel) (by decide +kernel)
theorem se_X8_judge : Cond.selects "GlitchCourt" (⟨"GlitchCourt", "judge", "(I)I"⟩ : MethodName) (⟨"GlitchCourt", "judge", "(I)I"⟩ : MethodName) ∈ GW := gw_in 954 (by decide +kernel) (by decide +kernel)
theorem se_X8_load : Cond.selects "GlitchCourt" (⟨"GlitchCourt", "load", "(I)I"⟩ : MethodName) (⟨"GlitchCourt", "load", "(I)I"⟩ : MethodName) ∈ GW := gw_in 493 (by decide +kernel) (by decide +kernel)
theorem se_X8_open : Cond.selects "GlitchCourt" (⟨"GlitchCourt", "open", "(IIIZ)I"⟩ : MethodName) (⟨"GlitchCourt", "open", "(IIIZ)I"⟩ : MethodName) ∈ GW := gw_in 930 (by decide +kernel) (by decide +kernel)
theorem se_X8_putBytes : Cond.selects "GlitchCourt" (⟨"GlitchCourt", "putBytes", "(I)V"⟩ : MethodName) (⟨"GlitchCourt", "putBytes", "(I)V"⟩ : MethodName) ∈ GW := gw_in 5 (by decide +kernel) (by decide +kernel)
theorem se_X8_replay : Cond.selects "GlitchCourt" (⟨"GlitchCourt", "replay", "(III)I"⟩ : MethodName) (⟨"GlitchCourt", "replay", "(III)I"⟩ : MethodName) ∈ GW := gw_in 827 (by decide +kernel) (by decide +kernel)
theorem se_X8_requireDispute : Cond.selects "GlitchCourt" (⟨"GlitchCourt", "requireDispute", "(I)LGlitchCourt$Dispute;"⟩ : MethodName) (⟨"GlitchCourt", "requireDispute", "(I)LGlitchCourt$Dispute;"⟩ : MethodName) ∈ GW := gw_in 24 (by decide +kernel) (by decide +kernel)
theorem se_X8_requireGate : Cond.selects "GlitchCourt" (⟨"GlitchCourt", "requireGate", "(I)V"⟩ : MethodName) (⟨"GlitchCourt", "requireGate", "(I)V"⟩ : MethodName) ∈ GW := gw_in 18 (by decide +kernel) (by decide +kernel)
theorem se_X8_requireNet : Cond.selects "GlitchCourt" (⟨"GlitchCourt", "requireNet", "(I)V"⟩ : MethodName) (⟨"GlitchCourt", "requireNet", "(I)V"⟩ : MethodName) ∈ GW := gw_in 27 (by decide +kernel) (by decide +kernel)
theorem se_X8_requirePulse : Cond.selects "GlitchCourt" (⟨"GlitchCourt", "requirePulse", "(II)I"⟩ : MethodName) (⟨"GlitchCourt", "requirePulse", "(II)I"⟩ : MethodName) ∈ GW := gw_in 23 (by decide +kernel) (by decide +kernel)
theorem se_X8_requireTimes : Cond.selects "GlitchCourt" (⟨"GlitchCourt", "requireTimes", "(II)V"⟩ : MethodName) (⟨"GlitchCourt", "requireTimes", "(II)V"⟩ : MethodName) ∈ GW := gw_in 19 (by decide +kernel) (by decide +kernel)
theorem se_X8_requireWave : Cond.selects "GlitchCourt" (⟨"GlitchCourt", "requireWave", "(II)J"⟩ : MethodName) (⟨"GlitchCourt", "requireWave", "(II)J"⟩ : MethodName) ∈ GW := gw_in 26 (by decide +kernel) (by decide +kernel)
theorem se_X8_setDelay : Cond.selects "GlitchCourt" (⟨"GlitchCourt", "setDelay", "(III)I"⟩ : MethodName) (⟨"GlitchCourt", "setDelay", "(III)I"⟩ : MethodName) ∈ GW := gw_in 869 (by decide +kernel) (by decide +kernel)
theorem se_X8_size : Cond.selects "GlitchCourt" (⟨"GlitchCourt", "size", "(I)I"⟩ : MethodName) (⟨"GlitchCourt", "size", "(I)I"⟩ : MethodName) ∈ GW := gw_in 752 (by decide +kernel) (by decide +kernel)
theorem se_X8_stateAt : Cond.selects "GlitchCourt" (⟨"GlitchCourt", "stateAt", "(II)I"⟩ : MethodName) (⟨"GlitchCourt", "stateAt", "(II)I"⟩ : MethodName) ∈ GW := gw_in 1018 (by decide +kernel) (by decide +kernel)
theorem se_X8_toggle : Cond.selects "GlitchCourt" (⟨"GlitchCourt", "toggle", "(II)I"⟩ : MethodName) (⟨"GlitchCourt", "toggle", "(II)I"⟩ : MethodName) ∈ GW := gw_in 896 (by decide +kernel) (by decide +kernel)
theorem se_X8_wave : Cond.selects "GlitchCourt" (⟨"GlitchCourt", "wave", "(II)J"⟩ : MethodName) (⟨"GlitchCourt", "wave", "(II)J"⟩ : MethodName) ∈ GW := gw_in 1000 (by decide +kernel) (by decide +kernel)
theorem se_L_acts : Cond.selects "GlitchCourtLaw" (⟨"GlitchCourtLaw", "acts", "(LGlitchCourt;I)I"⟩ : MethodName) (⟨"GlitchCourtLaw", "acts", "(LGlitchCourt;I)I"⟩ : MethodName) ∈ GW := gw_in 16 (by decide +kernel) (by decide +kernel)
theorem se_L_disputes : Cond.selects "GlitchCourtLaw" (⟨"GlitchCourtLaw", "disputes", "(LGlitchCourt;I)V"⟩ : MethodName) (⟨"GlitchCourtLaw", "disputes", "(LGlitchCourt;I)V"⟩ : MethodName) ∈ GW := gw_in 21 (by decide +kernel) (by decide +kernel)
theorem se_L_feeds : Cond.selects "GlitchCourtLaw" (⟨"GlitchCourtLaw", "feeds", "(LGlitchCourt;)I"⟩ : MethodName) (⟨"GlitchCourtLaw", "feeds", "(LGlitchCourt;)I"⟩ : MethodName) ∈ GW := gw_in 4 (by decide +kernel) (by decide +kernel)
theorem se_L_gate : Cond.selects "GlitchCourtLaw" (⟨"GlitchCourtLaw", "gate", "(II)V"⟩ : MethodName) (⟨"GlitchCourtLaw", "gate", "(II)V"⟩ : MethodName) ∈ GW := gw_in 3 (by decide +kernel) (by decide +kernel)
theorem se_L_isShown : Cond.selects "GlitchCourtLaw" (⟨"GlitchCourtLaw", "isShown", "(LGlitchCourt;I)Z"⟩ : MethodName) (⟨"GlitchCourtLaw", "isShown", "(LGlitchCourt;I)Z"⟩ : MethodName) ∈ GW := gw_in 25 (by decide +kernel) (by decide +kernel)
theorem se_L_net : Cond.selects "GlitchCourtLaw" (⟨"GlitchCourtLaw", "net", "(I)I"⟩ : MethodName) (⟨"GlitchCourtLaw", "net", "(I)I"⟩ : MethodName) ∈ GW := gw_in 17 (by decide +kernel) (by decide +kernel)
theorem se_L_nets : Cond.selects "GlitchCourtLaw" (⟨"GlitchCourtLaw", "nets", "()I"⟩ : MethodName) (⟨"GlitchCourtLaw", "nets", "()I"⟩ : MethodName) ∈ GW := gw_in 14 (by decide +kernel) (by decide +kernel)
theorem se_L_spaced : Cond.selects "GlitchCourtLaw" (⟨"GlitchCourtLaw", "spaced", "(I)V"⟩ : MethodName) (⟨"GlitchCourtLaw", "spaced", "(I)V"⟩ : MethodName) ∈ GW := gw_in 2 (by decide +kernel) (by decide +kernel)
theorem se_L_writes : Cond.selects "GlitchCourtLaw" (⟨"GlitchCourtLaw", "writes", "(Ljava/lang/String;)V"⟩ : MethodName) (⟨"GlitchCourtLaw", "writes", "(Ljava/lang/String;)V"⟩ : MethodName) ∈ GW := gw_in 1 (by decide +kernel) (by decide +kernel)
theorem sr_X1_105 : (("GlitchCourt$BenchText", 105, "gate", 3) : String × Nat × String × Nat) ∈ strs := by decide +kernel
theorem sr_X1_133 : (("GlitchCourt$BenchText", 133, "purses", 11) : String × Nat × String × Nat) ∈ strs := by decide +kernel
theorem sr_X1_34 : (("GlitchCourt$BenchText", 34, "bench", 1) : String × Nat × String × Nat) ∈ strs := by decide +kernel
theorem sr_X1_75 : (("GlitchCourt$BenchText", 75, "input", 2) : String × Nat × String × Nat) ∈ strs := by decide +kernel
theorem sr_X8_408 : (("GlitchCourt", 408, "and", 4) : String × Nat × String × Nat) ∈ strs := by decide +kernel
theorem sr_X8_410 : (("GlitchCourt", 410, "or", 5) : String × Nat × String × Nat) ∈ strs := by decide +kernel
theorem sr_X8_412 : (("GlitchCourt", 412, "xor", 6) : String × Nat × String × Nat) ∈ strs := by decide +kernel
theorem sr_X8_414 : (("GlitchCourt", 414, "nand", 7) : String × Nat × String × Nat) ∈ strs := by decide +kernel
theorem sr_X8_416 : (("GlitchCourt", 416, "nor", 8) : String × Nat × String × Nat) ∈ strs := by decide +kernel
theorem sr_X8_418 : (("GlitchCourt", 418, "not", 9) : String × Nat × String × Nat) ∈ strs := by decide +kernel
theorem sr_X8_420 : (("GlitchCourt", 420, "same", 10) : String × Nat × String × Nat) ∈ strs := by decide +kernel
theorem sr_L_27 : (("GlitchCourtLaw", 27, " ", 12) : String × Nat × String × Nat) ∈ strs := by decide +kernel
theorem sr_L_46 : (("GlitchCourtLaw", 46, "gate and", 14) : String × Nat × String × Nat) ∈ strs := by decide +kernel
theorem sr_L_48 : (("GlitchCourtLaw", 48, "gate or", 15) : String × Nat × String × Nat) ∈ strs := by decide +kernel
theorem sr_L_50 : (("GlitchCourtLaw", 50, "gate xor", 16) : String × Nat × String × Nat) ∈ strs := by decide +kernel
theorem sr_L_52 : (("GlitchCourtLaw", 52, "gate nand", 17) : String × Nat × String × Nat) ∈ strs := by decide +kernel
theorem sr_L_54 : (("GlitchCourtLaw", 54, "gate nor", 18) : String × Nat × String × Nat) ∈ strs := by decide +kernel
theorem sr_L_56 : (("GlitchCourtLaw", 56, "gate not", 19) : String × Nat × String × Nat) ∈ strs := by decide +kernel
theorem sr_L_58 : (("GlitchCourtLaw", 58, "gate same", 20) : String × Nat × String × Nat) ∈ strs := by decide +kernel
theorem sr_L_68 : (("GlitchCourtLaw", 68, ";", 13) : String × Nat × String × Nat) ∈ strs := by decide +kernel
theorem sr_L_83 : (("GlitchCourtLaw", 83, "bench", 1) : String × Nat × String × Nat) ∈ strs := by decide +kernel
theorem sr_L_85 : (("GlitchCourtLaw", 85, "input", 2) : String × Nat × String × Nat) ∈ strs := by decide +kernel
theorem sr_L_91 : (("GlitchCourtLaw", 91, "purses", 11) : String × Nat × String × Nat) ∈ strs := by decide +kernel
end
section
def Y_J7_fill_53178 : MT := (⟨"java/util/Arrays", "fill", "([II)V"⟩, prog_28_method_103_code, 4, none, { frames := 0, cells := 0, slots := 0, locals := 0 }, [(0, .iconst 0, 1), (1, .istore_n 2, 1), (2, .aload_n 0, 1), (3, .arraylength, 1), (4, .istore_n 3, 1), (5, .iload_n 2, 1), (6, .iload_n 3, 1), (7, .if_icmp .ge 13, 3), (10, .aload_n 0, 1), (11, .iload_n 2, 1), (12, .iload_n 1, 1), (13, .iastore, 1), (14, .iinc 2 1, 3), (17, .goto (-12), 3), (20, .return_, 1)], [])
theorem is_J7_fill_53178 : (yP Y_J7_fill_53178).all (okI (yB Y_J7_fill_53178)) = true := by decide +kernel
theorem mf_J7_fill_53178 : MF Y_J7_fill_53178 2 := ⟨gw_in 595 (by decide +kernel) (by decide +kernel), gw_in 46 (by decide +kernel) (by decide +kernel), by decide, by decide +kernel⟩
def Y_X2_clear : MT := (⟨"GlitchCourt$Circuit", "clear", "()V"⟩, prog_4_method_7_code, 1, none, { frames := 1, cells := 0, slots := 0, locals := 23 }, [(0, .aload_n 0, 1), (1, .iconst 0, 1), (2, .putfield 24, 3), (5, .aload_n 0, 1), (6, .iconst 0, 1), (7, .putfield 28, 3), (10, .aload_n 0, 1), (11, .getfield 21, 3), (14, .iconst 0, 1), (15, .invokestatic 50, 3), (18, .return_, 1)], [])
theorem is_X2_clear : (yP Y_X2_clear).all (okI (yB Y_X2_clear)) = true := by decide +kernel
theorem mf_X2_clear : MF Y_X2_clear 0 := ⟨gw_in 592 (by decide +kernel) (by decide +kernel), gw_in 36 (by decide +kernel) (by decide +kernel), by decide, by decide +kernel⟩
def Y_X6_forget : MT := (⟨"GlitchCourt$State", "forget", "(I)V"⟩, prog_8_method_9_code, 2, none, { frames := 0, cells := 0, slots := 0, locals := 0 }, [(0, .aload_n 0, 1), (1, .getfield 20, 3), (4, .iload_n 1, 1), (5, .lconst 0, 1), (6, .lastore, 1), (7, .aload_n 0, 1), (8, .getfield 23, 3), (11, .iload_n 1, 1), (12, .lconst 0, 1), (13, .lastore, 1), (14, .aload_n 0, 1), (15, .getfield 26, 3), (18, .iload_n 1, 1), (19, .lconst 0, 1), (20, .lastore, 1), (21, .return_, 1)], [])
theorem is_X6_forget : (yP Y_X6_forget).all (okI (yB Y_X6_forget)) = true := by decide +kernel
theorem mf_X6_forget : MF Y_X6_forget 1 := ⟨gw_in 603 (by decide +kernel) (by decide +kernel), gw_in 31 (by decide +kernel) (by decide +kernel), by decide, by decide +kernel⟩
def Y_X6_clear : MT := (⟨"GlitchCourt$State", "clear", "()V"⟩, prog_8_method_2_code, 2, none, { frames := 1, cells := 0, slots := 0, locals := 23 }, [(0, .iconst 0, 1), (1, .istore_n 1, 1), (2, .iload_n 1, 1), (3, .bipush 16, 2), (5, .if_icmp .ge 14, 3), (8, .aload_n 0, 1), (9, .iload_n 1, 1), (10, .invokevirtual 47, 3), (13, .iinc 1 1, 3), (16, .goto (-14), 3), (19, .aload_n 0, 1), (20, .getfield 29, 3), (23, .iconst 0, 1), (24, .invokestatic 51, 3), (27, .aload_n 0, 1), (28, .iconst 0, 1), (29, .putfield 39, 3), (32, .return_, 1)], [])
theorem is_X6_clear : (yP Y_X6_clear).all (okI (yB Y_X6_clear)) = true := by decide +kernel
theorem mf_X6_clear : MF Y_X6_clear 0 := ⟨gw_in 599 (by decide +kernel) (by decide +kernel), gw_in 31 (by decide +kernel) (by decide +kernel), by decide, by decide +kernel⟩
def Y_X0_clear : MT := (⟨"GlitchCourt$Bench", "clear", "()V"⟩, prog_2_method_2_code, 1, none, { frames := 2, cells := 0, slots := 0, locals := 44 }, [(0, .aload_n 0, 1), (1, .getfield 12, 3), (4, .invokevirtual 42, 3), (7, .aload_n 0, 1), (8, .getfield 21, 3), (11, .invokevirtual 45, 3), (14, .return_, 1)], [])
theorem is_X0_clear : (yP Y_X0_clear).all (okI (yB Y_X0_clear)) = true := by decide +kernel
theorem mf_X0_clear : MF Y_X0_clear 0 := ⟨gw_in 588 (by decide +kernel) (by decide +kernel), gw_in 35 (by decide +kernel) (by decide +kernel), by decide, by decide +kernel⟩
def Y_X2_nets : MT := (⟨"GlitchCourt$Circuit", "nets", "()I"⟩, prog_4_method_2_code, 1, (Option.some FieldType.int), { frames := 0, cells := 0, slots := 0, locals := 0 }, [(0, .aload_n 0, 1), (1, .getfield 24, 3), (4, .aload_n 0, 1), (5, .getfield 28, 3), (8, .iadd, 1), (9, .ireturn, 1)], [])
theorem is_X2_nets : (yP Y_X2_nets).all (okI (yB Y_X2_nets)) = true := by decide +kernel
theorem mf_X2_nets : MF Y_X2_nets 0 := ⟨gw_in 672 (by decide +kernel) (by decide +kernel), gw_in 36 (by decide +kernel) (by decide +kernel), by decide, by decide +kernel⟩
def Y_X8_window : MT := (⟨"GlitchCourt", "window", "(II)J"⟩, prog_1_method_54_code, 2, (Option.some FieldType.long), { frames := 0, cells := 0, slots := 0, locals := 0 }, [(0, .ldc2_w 406, 3), (3, .iload_n 1, 1), (4, .lshl, 1), (5, .lconst 1, 1), (6, .iload_n 0, 1), (7, .lshl, 1), (8, .lsub, 1), (9, .lreturn, 1)], [])
theorem is_X8_window : (yP Y_X8_window).all (okI (yB Y_X8_window)) = true := by decide +kernel
theorem mf_X8_window : MF Y_X8_window 2 := ⟨gw_in 658 (by decide +kernel) (by decide +kernel), gw_in 29 (by decide +kernel) (by decide +kernel), by decide, by decide +kernel⟩
def Y_X2_idealOf : MT := (⟨"GlitchCourt$Circuit", "idealOf", "(I[J)J"⟩, prog_4_method_11_code, 9, (Option.some FieldType.long), { frames := 1, cells := 0, slots := 0, locals := 21 }, [(0, .aload_n 2, 1), (1, .aload_n 0, 1), (2, .getfield 15, 3), (5, .iload_n 1, 1), (6, .iaload, 1), (7, .laload, 1), (8, .lstore_n 3, 1), (9, .aload_n 0, 1), (10, .getfield 18, 3), (13, .iload_n 1, 1), (14, .iaload, 1), (15, .iconst (-1), 1), (16, .if_icmp .ne 7, 3), (19, .lload_n 3, 1), (20, .goto 11, 3), (23, .aload_n 2, 1), (24, .aload_n 0, 1), (25, .getfield 18, 3), (28, .iload_n 1, 1), (29, .iaload, 1), (30, .laload, 1), (31, .lstore 5, 2), (33, .iconst 0, 1), (34, .aload_n 0, 1), (35, .getfield 31, 3), (38, .invokestatic 63, 3), (41, .lstore 7, 2), (43, .aload_n 0, 1), (44, .getfield 9, 3), (47, .iload_n 1, 1), (48, .iaload, 1), (49, .tableswitch 87 0 5 #[39, 44, 49, 54, 66, 78], 39), (88, .lload_n 3, 1), (89, .lload 5, 2), (91, .land, 1), (92, .lreturn, 1), (93, .lload_n 3, 1), (94, .lload 5, 2), (96, .lor, 1), (97, .lreturn, 1), (98, .lload_n 3, 1), (99, .lload 5, 2), (101, .lxor, 1), (102, .lreturn, 1), (103, .lload 7, 2), (105, .lload_n 3, 1), (106, .lload 5, 2), (108, .land, 1), (109, .ldc2_w 67, 3), (112, .lxor, 1), (113, .land, 1), (114, .lreturn, 1), (115, .lload 7, 2), (117, .lload_n 3, 1), (118, .lload 5, 2), (120, .lor, 1), (121, .ldc2_w 67, 3), (124, .lxor, 1), (125, .land, 1), (126, .lreturn, 1), (127, .lload 7, 2), (129, .lload_n 3, 1), (130, .ldc2_w 67, 3), (133, .lxor, 1), (134, .land, 1), (135, .lreturn, 1), (136, .lload_n 3, 1), (137, .lreturn, 1)], [])
theorem is_X2_idealOf : (yP Y_X2_idealOf).all (okI (yB Y_X2_idealOf)) = true := by decide +kernel
theorem mf_X2_idealOf : MF Y_X2_idealOf 2 := ⟨gw_in 714 (by decide +kernel) (by decide +kernel), gw_in 36 (by decide +kernel) (by decide +kernel), by decide, by decide +kernel⟩
def Y_X8_bitOf : MT := (⟨"GlitchCourt", "bitOf", "(JI)I"⟩, prog_1_method_53_code, 3, (Option.some FieldType.int), { frames := 0, cells := 0, slots := 0, locals := 0 }, [(0, .lload_n 0, 1), (1, .iload_n 2, 1), (2, .lushr, 1), (3, .lconst 1, 1), (4, .land, 1), (5, .l2i, 1), (6, .ireturn, 1)], [])
theorem is_X8_bitOf : (yP Y_X8_bitOf).all (okI (yB Y_X8_bitOf)) = true := by decide +kernel
theorem mf_X8_bitOf : MF Y_X8_bitOf 2 := ⟨gw_in 719 (by decide +kernel) (by decide +kernel), gw_in 29 (by decide +kernel) (by decide +kernel), by decide, by decide +kernel⟩
def Y_X0_lateWave : MT := (⟨"GlitchCourt$Bench", "lateWave", "(I[J)J"⟩, prog_2_method_4_code, 8, (Option.some FieldType.long), { frames := 2, cells := 0, slots := 0, locals := 49 }, [(0, .aload_n 0, 1), (1, .getfield 12, 3), (4, .iload_n 1, 1), (5, .aload_n 2, 1), (6, .invokevirtual 73, 3), (9, .lstore_n 3, 1), (10, .aload_n 0, 1), (11, .getfield 21, 3), (14, .getfield 76, 3), (17, .iconst 2, 1), (18, .aaload, 1), (19, .iload_n 1, 1), (20, .iaload, 1), (21, .istore 5, 2), (23, .lload_n 3, 1), (24, .iconst 0, 1), (25, .invokestatic 80, 3), (28, .ifCond .ne 7, 3), (31, .lconst 0, 1), (32, .goto 11, 3), (35, .iconst 0, 1), (36, .iload 5, 2), (38, .iconst 1, 1), (39, .isub, 1), (40, .invokestatic 84, 3), (43, .lstore 6, 2), (45, .lload_n 3, 1), (46, .iload 5, 2), (48, .lshl, 1), (49, .lload 6, 2), (51, .lor, 1), (52, .iconst 0, 1), (53, .aload_n 0, 1), (54, .getfield 12, 3), (57, .getfield 88, 3), (60, .invokestatic 84, 3), (63, .land, 1), (64, .lreturn, 1)], [])
theorem is_X0_lateWave : (yP Y_X0_lateWave).all (okI (yB Y_X0_lateWave)) = true := by decide +kernel
theorem mf_X0_lateWave : MF Y_X0_lateWave 2 := ⟨gw_in 710 (by decide +kernel) (by decide +kernel), gw_in 35 (by decide +kernel) (by decide +kernel), by decide, by decide +kernel⟩
def Y_X0_swing : MT := (⟨"GlitchCourt$Bench", "swing", "(II)I"⟩, prog_2_method_7_code, 3, (Option.some FieldType.int), { frames := 0, cells := 0, slots := 0, locals := 0 }, [(0, .aload_n 0, 1), (1, .getfield 21, 3), (4, .getfield 76, 3), (7, .iload_n 2, 1), (8, .iconst 1, 1), (9, .if_icmp .ne 7, 3), (12, .iconst 0, 1), (13, .goto 4, 3), (16, .iconst 1, 1), (17, .aaload, 1), (18, .iload_n 1, 1), (19, .iaload, 1), (20, .ireturn, 1)], [])
theorem is_X0_swing : (yP Y_X0_swing).all (okI (yB Y_X0_swing)) = true := by decide +kernel
theorem mf_X0_swing : MF Y_X0_swing 2 := ⟨gw_in 728 (by decide +kernel) (by decide +kernel), gw_in 35 (by decide +kernel) (by decide +kernel), by decide, by decide +kernel⟩
def Y_X0_dearWave : MT := (⟨"GlitchCourt$Bench", "dearWave", "(I)J"⟩, prog_2_method_5_code, 10, (Option.some FieldType.long), { frames := 2, cells := 0, slots := 0, locals := 49 }, [(0, .aload_n 0, 1), (1, .getfield 12, 3), (4, .iload_n 1, 1), (5, .aload_n 0, 1), (6, .getfield 32, 3), (9, .invokevirtual 73, 3), (12, .lstore_n 2, 1), (13, .lload_n 2, 1), (14, .lconst 1, 1), (15, .land, 1), (16, .lstore 4, 2), (18, .lload_n 2, 1), (19, .iconst 0, 1), (20, .invokestatic 80, 3), (23, .istore 6, 2), (25, .iconst 0, 1), (26, .istore 7, 2), (28, .iconst 1, 1), (29, .istore 8, 2), (31, .iload 8, 2), (33, .aload_n 0, 1), (34, .getfield 12, 3), (37, .getfield 88, 3), (40, .if_icmp .gt 64, 3), (43, .lload_n 2, 1), (44, .iload 8, 2), (46, .invokestatic 80, 3), (49, .istore 9, 2), (51, .iload 9, 2), (53, .lload_n 2, 1), (54, .iload 8, 2), (56, .iconst 1, 1), (57, .isub, 1), (58, .invokestatic 80, 3), (61, .if_icmp .eq 7, 3), (64, .iload 8, 2), (66, .istore 7, 2), (68, .iload 8, 2), (70, .aload_n 0, 1), (71, .iload_n 1, 1), (72, .iload 9, 2), (74, .invokevirtual 91, 3), (77, .isub, 1), (78, .iload 7, 2), (80, .if_icmp .lt 7, 3), (83, .iload 9, 2), (85, .istore 6, 2), (87, .lload 4, 2), (89, .iload 6, 2), (91, .i2l, 1), (92, .iload 8, 2), (94, .lshl, 1), (95, .lor, 1), (96, .lstore 4, 2), (98, .iinc 8 1, 3), (101, .goto (-70), 3), (104, .lload 4, 2), (106, .lreturn, 1)], [])
theorem is_X0_dearWave : (yP Y_X0_dearWave).all (okI (yB Y_X0_dearWave)) = true := by decide +kernel
theorem mf_X0_dearWave : MF Y_X0_dearWave 1 := ⟨gw_in 724 (by decide +kernel) (by decide +kernel), gw_in 35 (by decide +kernel) (by decide +kernel), by decide, by decide +kernel⟩
def Y_X0_longestPath : MT := (⟨"GlitchCourt$Bench", "longestPath", "(I)I"⟩, prog_2_method_6_code, 4, (Option.some FieldType.int), { frames := 1, cells := 0, slots := 0, locals := 22 }, [(0, .aload_n 0, 1), (1, .getfield 12, 3), (4, .getfield 95, 3), (7, .iload_n 1, 1), (8, .iaload, 1), (9, .istore_n 2, 1), (10, .aload_n 0, 1), (11, .getfield 38, 3), (14, .aload_n 0, 1), (15, .getfield 12, 3), (18, .getfield 98, 3), (21, .iload_n 1, 1), (22, .iaload, 1), (23, .iaload, 1), (24, .iload_n 2, 1), (25, .iconst (-1), 1), (26, .if_icmp .ne 7, 3), (29, .iconst 0, 1), (30, .goto 9, 3), (33, .aload_n 0, 1), (34, .getfield 38, 3), (37, .iload_n 2, 1), (38, .iaload, 1), (39, .invokestatic 101, 3), (42, .istore_n 3, 1), (43, .iload_n 3, 1), (44, .aload_n 0, 1), (45, .iload_n 1, 1), (46, .iconst 0, 1), (47, .invokevirtual 91, 3), (50, .aload_n 0, 1), (51, .iload_n 1, 1), (52, .iconst 1, 1), (53, .invokevirtual 91, 3), (56, .invokestatic 101, 3), (59, .iadd, 1), (60, .ireturn, 1)], [])
theorem is_X0_longestPath : (yP Y_X0_longestPath).all (okI (yB Y_X0_longestPath)) = true := by decide +kernel
theorem mf_X0_longestPath : MF Y_X0_longestPath 1 := ⟨gw_in 732 (by decide +kernel) (by decide +kernel), gw_in 35 (by decide +kernel) (by decide +kernel), by decide, by decide +kernel⟩
def Y_X0_showInto : MT := (⟨"GlitchCourt$Bench", "showInto", "([JIJ)V"⟩, prog_2_method_8_code, 12, none, { frames := 3, cells := 0, slots := 0, locals := 76 }, [(0, .iconst 0, 1), (1, .istore 5, 2), (3, .iload 5, 2), (5, .aload_n 0, 1), (6, .getfield 12, 3), (9, .getfield 46, 3), (12, .if_icmp .ge 23, 3), (15, .aload_n 1, 1), (16, .iload 5, 2), (18, .aload_n 0, 1), (19, .getfield 21, 3), (22, .getfield 50, 3), (25, .iload 5, 2), (27, .laload, 1), (28, .lastore, 1), (29, .iinc 5 1, 3), (32, .goto (-29), 3), (35, .aload_n 0, 1), (36, .getfield 12, 3), (39, .getfield 46, 3), (42, .istore 5, 2), (44, .iload 5, 2), (46, .aload_n 0, 1), (47, .getfield 12, 3), (50, .invokevirtual 53, 3), (53, .if_icmp .ge 105, 3), (56, .aload_n 0, 1), (57, .getfield 21, 3), (60, .getfield 106, 3), (63, .iload 5, 2), (65, .laload, 1), (66, .lstore 6, 2), (68, .iload 5, 2), (70, .iload_n 2, 1), (71, .if_icmp .ne 18, 3), (74, .aload_n 0, 1), (75, .getfield 21, 3), (78, .getfield 109, 3), (81, .iload 5, 2), (83, .laload, 1), (84, .lload_n 3, 1), (85, .lor, 1), (86, .goto 13, 3), (89, .aload_n 0, 1), (90, .getfield 21, 3), (93, .getfield 109, 3), (96, .iload 5, 2), (98, .laload, 1), (99, .lstore 8, 2), (101, .aload_n 0, 1), (102, .iload 5, 2), (104, .aload_n 1, 1), (105, .invokevirtual 57, 3), (108, .lload 6, 2), (110, .ldc2_w 112, 3), (113, .lxor, 1), (114, .land, 1), (115, .aload_n 0, 1), (116, .getfield 21, 3), (119, .getfield 114, 3), (122, .iload 5, 2), (124, .laload, 1), (125, .lor, 1), (126, .lstore 10, 2), (128, .aload_n 1, 1), (129, .iload 5, 2), (131, .lload 10, 2), (133, .lload 8, 2), (135, .ldc2_w 112, 3), (138, .lxor, 1), (139, .land, 1), (140, .aload_n 0, 1), (141, .getfield 32, 3), (144, .iload 5, 2), (146, .laload, 1), (147, .lload 8, 2), (149, .land, 1), (150, .lor, 1), (151, .lastore, 1), (152, .iinc 5 1, 3), (155, .goto (-111), 3), (158, .return_, 1)], [])
theorem is_X0_showInto : (yP Y_X0_showInto).all (okI (yB Y_X0_showInto)) = true := by decide +kernel
theorem mf_X0_showInto : MF Y_X0_showInto 3 := ⟨gw_in 739 (by decide +kernel) (by decide +kernel), gw_in 35 (by decide +kernel) (by decide +kernel), by decide, by decide +kernel⟩
def Y_X0_refresh : MT := (⟨"GlitchCourt$Bench", "refresh", "()V"⟩, prog_2_method_3_code, 2, none, { frames := 4, cells := 0, slots := 0, locals := 107 }, [(0, .iconst 0, 1), (1, .istore_n 1, 1), (2, .iload_n 1, 1), (3, .aload_n 0, 1), (4, .getfield 12, 3), (7, .getfield 46, 3), (10, .if_icmp .ge 46, 3), (13, .aload_n 0, 1), (14, .getfield 29, 3), (17, .iload_n 1, 1), (18, .aload_n 0, 1), (19, .getfield 21, 3), (22, .getfield 50, 3), (25, .iload_n 1, 1), (26, .laload, 1), (27, .lastore, 1), (28, .aload_n 0, 1), (29, .getfield 32, 3), (32, .iload_n 1, 1), (33, .aload_n 0, 1), (34, .getfield 21, 3), (37, .getfield 50, 3), (40, .iload_n 1, 1), (41, .laload, 1), (42, .lastore, 1), (43, .aload_n 0, 1), (44, .getfield 38, 3), (47, .iload_n 1, 1), (48, .iconst 0, 1), (49, .iastore, 1), (50, .iinc 1 1, 3), (53, .goto (-51), 3), (56, .aload_n 0, 1), (57, .getfield 12, 3), (60, .getfield 46, 3), (63, .istore_n 1, 1), (64, .iload_n 1, 1), (65, .aload_n 0, 1), (66, .getfield 12, 3), (69, .invokevirtual 53, 3), (72, .if_icmp .ge 46, 3), (75, .aload_n 0, 1), (76, .getfield 29, 3), (79, .iload_n 1, 1), (80, .aload_n 0, 1), (81, .iload_n 1, 1), (82, .aload_n 0, 1), (83, .getfield 29, 3), (86, .invokevirtual 57, 3), (89, .lastore, 1), (90, .aload_n 0, 1), (91, .getfield 32, 3), (94, .iload_n 1, 1), (95, .aload_n 0, 1), (96, .iload_n 1, 1), (97, .invokevirtual 61, 3), (100, .lastore, 1), (101, .aload_n 0, 1), (102, .getfield 38, 3), (105, .iload_n 1, 1), (106, .aload_n 0, 1), (107, .iload_n 1, 1), (108, .invokevirtual 65, 3), (111, .iastore, 1), (112, .iinc 1 1, 3), (115, .goto (-51), 3), (118, .aload_n 0, 1), (119, .aload_n 0, 1), (120, .getfield 25, 3), (123, .iconst (-1), 1), (124, .lconst 0, 1), (125, .invokevirtual 69, 3), (128, .return_, 1)], [])
theorem is_X0_refresh : (yP Y_X0_refresh).all (okI (yB Y_X0_refresh)) = true := by decide +kernel
theorem mf_X0_refresh : MF Y_X0_refresh 0 := ⟨gw_in 705 (by decide +kernel) (by decide +kernel), gw_in 35 (by decide +kernel) (by decide +kernel), by decide, by decide +kernel⟩
def Y_J6_bitCount_0f7a4 : MT := (⟨"java/lang/Integer", "bitCount", "(I)I"⟩, prog_17_method_49_code, 1, (Option.some FieldType.int), { frames := 0, cells := 0, slots := 0, locals := 0 }, [(0, .iload_n 0, 1), (1, .iload_n 0, 1), (2, .iconst 1, 1), (3, .iushr, 1), (4, .ldc_w 265, 3), (7, .iand, 1), (8, .isub, 1), (9, .istore_n 0, 1), (10, .iload_n 0, 1), (11, .ldc_w 266, 3), (14, .iand, 1), (15, .iload_n 0, 1), (16, .iconst 2, 1), (17, .iushr, 1), (18, .ldc_w 266, 3), (21, .iand, 1), (22, .iadd, 1), (23, .istore_n 0, 1), (24, .iload_n 0, 1), (25, .iload_n 0, 1), (26, .iconst 4, 1), (27, .iushr, 1), (28, .iadd, 1), (29, .ldc_w 267, 3), (32, .iand, 1), (33, .istore_n 0, 1), (34, .iload_n 0, 1), (35, .iload_n 0, 1), (36, .bipush 8, 2), (38, .iushr, 1), (39, .iadd, 1), (40, .istore_n 0, 1), (41, .iload_n 0, 1), (42, .iload_n 0, 1), (43, .bipush 16, 2), (45, .iushr, 1), (46, .iadd, 1), (47, .istore_n 0, 1), (48, .iload_n 0, 1), (49, .bipush 63, 2), (51, .iand, 1), (52, .ireturn, 1)], [])
theorem is_J6_bitCount_0f7a4 : (yP Y_J6_bitCount_0f7a4).all (okI (yB Y_J6_bitCount_0f7a4)) = true := by decide +kernel
theorem mf_J6_bitCount_0f7a4 : MF Y_J6_bitCount_0f7a4 1 := ⟨gw_in 821 (by decide +kernel) (by decide +kernel), gw_in 49 (by decide +kernel) (by decide +kernel), by decide, by decide +kernel⟩
def Y_X2_cone : MT := (⟨"GlitchCourt$Circuit", "cone", "(I)I"⟩, prog_4_method_6_code, 2, (Option.some FieldType.int), { frames := 1, cells := 0, slots := 0, locals := 20 }, [(0, .aload_n 0, 1), (1, .getfield 21, 3), (4, .iload_n 1, 1), (5, .iaload, 1), (6, .invokestatic 44, 3), (9, .ireturn, 1)], [])
theorem is_X2_cone : (yP Y_X2_cone).all (okI (yB Y_X2_cone)) = true := by decide +kernel
theorem mf_X2_cone : MF Y_X2_cone 1 := ⟨gw_in 818 (by decide +kernel) (by decide +kernel), gw_in 36 (by decide +kernel) (by decide +kernel), by decide, by decide +kernel⟩
def Y_X0_price : MT := (⟨"GlitchCourt$Bench", "price", "(III)I"⟩, prog_2_method_12_code, 4, (Option.some FieldType.int), { frames := 2, cells := 0, slots := 0, locals := 41 }, [(0, .aload_n 0, 1), (1, .getfield 12, 3), (4, .getfield 126, 3), (7, .iload_n 3, 1), (8, .iload_n 2, 1), (9, .isub, 1), (10, .iconst 1, 1), (11, .iadd, 1), (12, .imul, 1), (13, .aload_n 0, 1), (14, .getfield 12, 3), (17, .iload_n 1, 1), (18, .invokevirtual 129, 3), (21, .imul, 1), (22, .ireturn, 1)], [])
theorem is_X0_price : (yP Y_X0_price).all (okI (yB Y_X0_price)) = true := by decide +kernel
theorem mf_X0_price : MF Y_X0_price 3 := ⟨gw_in 814 (by decide +kernel) (by decide +kernel), gw_in 35 (by decide +kernel) (by decide +kernel), by decide, by decide +kernel⟩
def Y_X0_pulseStarts : MT := (⟨"GlitchCourt$Bench", "pulseStarts", "(I)J"⟩, prog_2_method_14_code, 11, (Option.some FieldType.long), { frames := 1, cells := 0, slots := 0, locals := 22 }, [(0, .aload_n 0, 1), (1, .getfield 25, 3), (4, .iload_n 1, 1), (5, .laload, 1), (6, .lstore_n 2, 1), (7, .aload_n 0, 1), (8, .getfield 21, 3), (11, .getfield 106, 3), (14, .iload_n 1, 1), (15, .laload, 1), (16, .aload_n 0, 1), (17, .getfield 21, 3), (20, .getfield 109, 3), (23, .iload_n 1, 1), (24, .laload, 1), (25, .lor, 1), (26, .ldc2_w 112, 3), (29, .lxor, 1), (30, .lstore 4, 2), (32, .lconst 0, 1), (33, .lstore 6, 2), (35, .iconst 0, 1), (36, .istore 8, 2), (38, .iconst 1, 1), (39, .istore 9, 2), (41, .iload 9, 2), (43, .aload_n 0, 1), (44, .getfield 12, 3), (47, .getfield 88, 3), (50, .if_icmp .gt 88, 3), (53, .lload_n 2, 1), (54, .iload 9, 2), (56, .invokestatic 80, 3), (59, .lload_n 2, 1), (60, .iload 9, 2), (62, .iconst 1, 1), (63, .isub, 1), (64, .invokestatic 80, 3), (67, .if_icmp .eq 65, 3), (70, .iload 8, 2), (72, .ifCond .le 22, 3), (75, .iload 9, 2), (77, .iload 8, 2), (79, .isub, 1), (80, .aload_n 0, 1), (81, .getfield 21, 3), (84, .getfield 136, 3), (87, .if_icmp .gt 7, 3), (90, .iconst 1, 1), (91, .goto 4, 3), (94, .iconst 0, 1), (95, .istore 10, 2), (97, .iload 10, 2), (99, .ifCond .eq 29, 3), (102, .iload 8, 2), (104, .iload 9, 2), (106, .iconst 1, 1), (107, .isub, 1), (108, .invokestatic 84, 3), (111, .lload 4, 2), (113, .land, 1), (114, .lconst 0, 1), (115, .lcmp, 1), (116, .ifCond .eq 12, 3), (119, .lload 6, 2), (121, .lconst 1, 1), (122, .iload 8, 2), (124, .lshl, 1), (125, .lor, 1), (126, .lstore 6, 2), (128, .iload 9, 2), (130, .istore 8, 2), (132, .iinc 9 1, 3), (135, .goto (-94), 3), (138, .lload 6, 2), (140, .lreturn, 1)], [])
theorem is_X0_pulseStarts : (yP Y_X0_pulseStarts).all (okI (yB Y_X0_pulseStarts)) = true := by decide +kernel
theorem mf_X0_pulseStarts : MF Y_X0_pulseStarts 1 := ⟨gw_in 927 (by decide +kernel) (by decide +kernel), gw_in 35 (by decide +kernel) (by decide +kernel), by decide, by decide +kernel⟩
def Y_J13_bitCount_95d88 : MT := (⟨"java/lang/Long", "bitCount", "(J)I"⟩, prog_18_method_50_code, 2, (Option.some FieldType.int), { frames := 0, cells := 0, slots := 0, locals := 0 }, [(0, .lload_n 0, 1), (1, .lload_n 0, 1), (2, .iconst 1, 1), (3, .lushr, 1), (4, .ldc2_w 314, 3), (7, .land, 1), (8, .lsub, 1), (9, .lstore_n 0, 1), (10, .lload_n 0, 1), (11, .ldc2_w 316, 3), (14, .land, 1), (15, .lload_n 0, 1), (16, .iconst 2, 1), (17, .lushr, 1), (18, .ldc2_w 316, 3), (21, .land, 1), (22, .ladd, 1), (23, .lstore_n 0, 1), (24, .lload_n 0, 1), (25, .lload_n 0, 1), (26, .iconst 4, 1), (27, .lushr, 1), (28, .ladd, 1), (29, .ldc2_w 318, 3), (32, .land, 1), (33, .lstore_n 0, 1), (34, .lload_n 0, 1), (35, .lload_n 0, 1), (36, .bipush 8, 2), (38, .lushr, 1), (39, .ladd, 1), (40, .lstore_n 0, 1), (41, .lload_n 0, 1), (42, .lload_n 0, 1), (43, .bipush 16, 2), (45, .lushr, 1), (46, .ladd, 1), (47, .lstore_n 0, 1), (48, .lload_n 0, 1), (49, .lload_n 0, 1), (50, .bipush 32, 2), (52, .lushr, 1), (53, .ladd, 1), (54, .lstore_n 0, 1), (55, .lload_n 0, 1), (56, .l2i, 1), (57, .bipush 127, 2), (59, .iand, 1), (60, .ireturn, 1)], [])
theorem is_J13_bitCount_95d88 : (yP Y_J13_bitCount_95d88).all (okI (yB Y_J13_bitCount_95d88)) = true := by decide +kernel
theorem mf_J13_bitCount_95d88 : MF Y_J13_bitCount_95d88 1 := ⟨gw_in 856 (by decide +kernel) (by decide +kernel), gw_in 51 (by decide +kernel) (by decide +kernel), by decide, by decide +kernel⟩
def Y_X0_pulses : MT := (⟨"GlitchCourt$Bench", "pulses", "(I)I"⟩, prog_2_method_15_code, 2, (Option.some FieldType.int), { frames := 2, cells := 0, slots := 0, locals := 52 }, [(0, .aload_n 0, 1), (1, .iload_n 1, 1), (2, .invokevirtual 139, 3), (5, .invokestatic 117, 3), (8, .ireturn, 1)], [])
theorem is_X0_pulses : (yP Y_X0_pulses).all (okI (yB Y_X0_pulses)) = true := by decide +kernel
theorem mf_X0_pulses : MF Y_X0_pulses 1 := ⟨gw_in 923 (by decide +kernel) (by decide +kernel), gw_in 35 (by decide +kernel) (by decide +kernel), by decide, by decide +kernel⟩
def Y_X0_pulseStart : MT := (⟨"GlitchCourt$Bench", "pulseStart", "(II)I"⟩, prog_2_method_16_code, 7, (Option.some FieldType.int), { frames := 2, cells := 0, slots := 0, locals := 52 }, [(0, .aload_n 0, 1), (1, .iload_n 1, 1), (2, .invokevirtual 139, 3), (5, .lstore_n 3, 1), (6, .iconst 0, 1), (7, .istore 5, 2), (9, .iconst 1, 1), (10, .istore 6, 2), (12, .iload 6, 2), (14, .aload_n 0, 1), (15, .getfield 12, 3), (18, .getfield 88, 3), (21, .if_icmp .ge 31, 3), (24, .lload_n 3, 1), (25, .iload 6, 2), (27, .invokestatic 80, 3), (30, .iconst 1, 1), (31, .if_icmp .ne 15, 3), (34, .iload 5, 2), (36, .iload_n 2, 1), (37, .if_icmp .ne 6, 3), (40, .iload 6, 2), (42, .ireturn, 1), (43, .iinc 5 1, 3), (46, .iinc 6 1, 3), (49, .goto (-37), 3), (52, .iconst (-1), 1), (53, .ireturn, 1)], [])
theorem is_X0_pulseStart : (yP Y_X0_pulseStart).all (okI (yB Y_X0_pulseStart)) = true := by decide +kernel
theorem mf_X0_pulseStart : MF Y_X0_pulseStart 2 := ⟨gw_in 939 (by decide +kernel) (by decide +kernel), gw_in 35 (by decide +kernel) (by decide +kernel), by decide, by decide +kernel⟩
def Y_X0_runEnd : MT := (⟨"GlitchCourt$Bench", "runEnd", "(II)I"⟩, prog_2_method_17_code, 4, (Option.some FieldType.int), { frames := 1, cells := 0, slots := 0, locals := 22 }, [(0, .iload_n 2, 1), (1, .istore_n 3, 1), (2, .iload_n 3, 1), (3, .aload_n 0, 1), (4, .getfield 12, 3), (7, .getfield 88, 3), (10, .if_icmp .ge 34, 3), (13, .aload_n 0, 1), (14, .getfield 25, 3), (17, .iload_n 1, 1), (18, .laload, 1), (19, .iload_n 3, 1), (20, .iconst 1, 1), (21, .iadd, 1), (22, .invokestatic 80, 3), (25, .aload_n 0, 1), (26, .getfield 25, 3), (29, .iload_n 1, 1), (30, .laload, 1), (31, .iload_n 2, 1), (32, .invokestatic 80, 3), (35, .if_icmp .ne 9, 3), (38, .iinc 3 1, 3), (41, .goto (-39), 3), (44, .iload_n 3, 1), (45, .ireturn, 1)], [])
theorem is_X0_runEnd : (yP Y_X0_runEnd).all (okI (yB Y_X0_runEnd)) = true := by decide +kernel
theorem mf_X0_runEnd : MF Y_X0_runEnd 2 := ⟨gw_in 945 (by decide +kernel) (by decide +kernel), gw_in 35 (by decide +kernel) (by decide +kernel), by decide, by decide +kernel⟩
def Y_X0_cheapVerdict : MT := (⟨"GlitchCourt$Bench", "cheapVerdict", "(III)I"⟩, prog_2_method_18_code, 4, (Option.some FieldType.int), { frames := 1, cells := 0, slots := 0, locals := 22 }, [(0, .iload_n 2, 1), (1, .aload_n 0, 1), (2, .iload_n 1, 1), (3, .iload_n 3, 1), (4, .invokevirtual 91, 3), (7, .if_icmp .le 7, 3), (10, .iconst 1, 1), (11, .goto 4, 3), (14, .iconst 0, 1), (15, .ireturn, 1)], [])
theorem is_X0_cheapVerdict : (yP Y_X0_cheapVerdict).all (okI (yB Y_X0_cheapVerdict)) = true := by decide +kernel
theorem mf_X0_cheapVerdict : MF Y_X0_cheapVerdict 3 := ⟨gw_in 968 (by decide +kernel) (by decide +kernel), gw_in 35 (by decide +kernel) (by decide +kernel), by decide, by decide +kernel⟩
def Y_X0_dearVerdict : MT := (⟨"GlitchCourt$Bench", "dearVerdict", "(LGlitchCourt$Dispute;)I"⟩, prog_2_method_19_code, 4, (Option.some FieldType.int), { frames := 1, cells := 0, slots := 0, locals := 21 }, [(0, .aload_n 1, 1), (1, .getfield 142, 3), (4, .iconst 1, 1), (5, .if_icmp .ne 15, 3), (8, .aload_n 0, 1), (9, .getfield 32, 3), (12, .aload_n 1, 1), (13, .getfield 147, 3), (16, .laload, 1), (17, .goto 16, 3), (20, .aload_n 0, 1), (21, .getfield 32, 3), (24, .aload_n 1, 1), (25, .getfield 147, 3), (28, .laload, 1), (29, .ldc2_w 112, 3), (32, .lxor, 1), (33, .lstore_n 2, 1), (34, .lload_n 2, 1), (35, .aload_n 1, 1), (36, .getfield 150, 3), (39, .aload_n 1, 1), (40, .getfield 153, 3), (43, .invokestatic 84, 3), (46, .land, 1), (47, .lconst 0, 1), (48, .lcmp, 1), (49, .ifCond .eq 7, 3), (52, .iconst 1, 1), (53, .goto 4, 3), (56, .iconst 0, 1), (57, .ireturn, 1)], [])
theorem is_X0_dearVerdict : (yP Y_X0_dearVerdict).all (okI (yB Y_X0_dearVerdict)) = true := by decide +kernel
theorem mf_X0_dearVerdict : MF Y_X0_dearVerdict 1 := ⟨gw_in 992 (by decide +kernel) (by decide +kernel), gw_in 35 (by decide +kernel) (by decide +kernel), by decide, by decide +kernel⟩
def Y_X0_settle : MT := (⟨"GlitchCourt$Bench", "settle", "(III)I"⟩, prog_2_method_20_code, 6, (Option.some FieldType.int), { frames := 5, cells := 0, slots := 0, locals := 128 }, [(0, .iload_n 2, 1), (1, .iload_n 3, 1), (2, .invokestatic 84, 3), (5, .aload_n 0, 1), (6, .getfield 21, 3), (9, .getfield 109, 3), (12, .iload_n 1, 1), (13, .laload, 1), (14, .ldc2_w 112, 3), (17, .lxor, 1), (18, .land, 1), (19, .lstore 4, 2), (21, .aload_n 0, 1), (22, .getfield 21, 3), (25, .getfield 109, 3), (28, .iload_n 1, 1), (29, .dup2, 1), (30, .laload, 1), (31, .lload 4, 2), (33, .lor, 1), (34, .lastore, 1), (35, .aload_n 0, 1), (36, .invokevirtual 156, 3), (39, .lload 4, 2), (41, .invokestatic 117, 3), (44, .ireturn, 1)], [])
theorem is_X0_settle : (yP Y_X0_settle).all (okI (yB Y_X0_settle)) = true := by decide +kernel
theorem mf_X0_settle : MF Y_X0_settle 3 := ⟨gw_in 852 (by decide +kernel) (by decide +kernel), gw_in 35 (by decide +kernel) (by decide +kernel), by decide, by decide +kernel⟩
def Y_X0_rule : MT := (⟨"GlitchCourt$Bench", "rule", "(LGlitchCourt$Dispute;)I"⟩, prog_2_method_21_code, 8, (Option.some FieldType.int), { frames := 5, cells := 0, slots := 0, locals := 128 }, [(0, .aload_n 1, 1), (1, .getfield 147, 3), (4, .istore_n 2, 1), (5, .aload_n 1, 1), (6, .getfield 150, 3), (9, .aload_n 1, 1), (10, .getfield 153, 3), (13, .invokestatic 84, 3), (16, .lstore_n 3, 1), (17, .lload_n 3, 1), (18, .aload_n 0, 1), (19, .getfield 21, 3), (22, .getfield 106, 3), (25, .iload_n 2, 1), (26, .laload, 1), (27, .ldc2_w 112, 3), (30, .lxor, 1), (31, .land, 1), (32, .aload_n 0, 1), (33, .getfield 21, 3), (36, .getfield 109, 3), (39, .iload_n 2, 1), (40, .laload, 1), (41, .ldc2_w 112, 3), (44, .lxor, 1), (45, .land, 1), (46, .lstore 5, 2), (48, .aload_n 1, 1), (49, .getfield 159, 3), (52, .iconst 1, 1), (53, .if_icmp .ne 7, 3), (56, .iconst 1, 1), (57, .goto 4, 3), (60, .iconst 0, 1), (61, .aload_n 1, 1), (62, .getfield 142, 3), (65, .iconst 1, 1), (66, .if_icmp .ne 7, 3), (69, .iconst 1, 1), (70, .goto 4, 3), (73, .iconst 0, 1), (74, .if_icmp .ne 7, 3), (77, .iconst 1, 1), (78, .goto 4, 3), (81, .iconst 0, 1), (82, .istore 7, 2), (84, .aload_n 0, 1), (85, .getfield 21, 3), (88, .getfield 106, 3), (91, .iload_n 2, 1), (92, .dup2, 1), (93, .laload, 1), (94, .lload_n 3, 1), (95, .lor, 1), (96, .lastore, 1), (97, .aload_n 0, 1), (98, .getfield 21, 3), (101, .getfield 114, 3), (104, .iload_n 2, 1), (105, .iload 7, 2), (107, .ifCond .eq 17, 3), (110, .aload_n 0, 1), (111, .getfield 21, 3), (114, .getfield 114, 3), (117, .iload_n 2, 1), (118, .laload, 1), (119, .lload_n 3, 1), (120, .lor, 1), (121, .goto 18, 3), (124, .aload_n 0, 1), (125, .getfield 21, 3), (128, .getfield 114, 3), (131, .iload_n 2, 1), (132, .laload, 1), (133, .lload_n 3, 1), (134, .ldc2_w 112, 3), (137, .lxor, 1), (138, .land, 1), (139, .lastore, 1), (140, .aload_n 0, 1), (141, .invokevirtual 156, 3), (144, .lload 5, 2), (146, .invokestatic 117, 3), (149, .ireturn, 1)], [])
theorem is_X0_rule : (yP Y_X0_rule).all (okI (yB Y_X0_rule)) = true := by decide +kernel
theorem mf_X0_rule : MF Y_X0_rule 1 := ⟨gw_in 984 (by decide +kernel) (by decide +kernel), gw_in 35 (by decide +kernel) (by decide +kernel), by decide, by decide +kernel⟩
def Y_X2_hasGate : MT := (⟨"GlitchCourt$Circuit", "hasGate", "(I)Z"⟩, prog_4_method_4_code, 2, (Option.some FieldType.boolean), { frames := 1, cells := 0, slots := 0, locals := 20 }, [(0, .iload_n 1, 1), (1, .aload_n 0, 1), (2, .getfield 24, 3), (5, .if_icmp .lt 15, 3), (8, .iload_n 1, 1), (9, .aload_n 0, 1), (10, .invokevirtual 40, 3), (13, .if_icmp .ge 7, 3), (16, .iconst 1, 1), (17, .goto 4, 3), (20, .iconst 0, 1), (21, .ireturn, 1)], [])
theorem is_X2_hasGate : (yP Y_X2_hasGate).all (okI (yB Y_X2_hasGate)) = true := by decide +kernel
theorem mf_X2_hasGate : MF Y_X2_hasGate 1 := ⟨gw_in 800 (by decide +kernel) (by decide +kernel), gw_in 36 (by decide +kernel) (by decide +kernel), by decide, by decide +kernel⟩
def Y_X2_readersOf : MT := (⟨"GlitchCourt$Circuit", "readersOf", "(I)I"⟩, prog_4_method_10_code, 4, (Option.some FieldType.int), { frames := 1, cells := 0, slots := 0, locals := 20 }, [(0, .iconst 0, 1), (1, .istore_n 2, 1), (2, .aload_n 0, 1), (3, .getfield 24, 3), (6, .istore_n 3, 1), (7, .iload_n 3, 1), (8, .aload_n 0, 1), (9, .invokevirtual 40, 3), (12, .if_icmp .ge 35, 3), (15, .aload_n 0, 1), (16, .getfield 15, 3), (19, .iload_n 3, 1), (20, .iaload, 1), (21, .iload_n 1, 1), (22, .if_icmp .eq 13, 3), (25, .aload_n 0, 1), (26, .getfield 18, 3), (29, .iload_n 3, 1), (30, .iaload, 1), (31, .iload_n 1, 1), (32, .if_icmp .ne 9, 3), (35, .iload_n 2, 1), (36, .iconst 1, 1), (37, .iload_n 3, 1), (38, .ishl, 1), (39, .ior, 1), (40, .istore_n 2, 1), (41, .iinc 3 1, 3), (44, .goto (-37), 3), (47, .iload_n 2, 1), (48, .ireturn, 1)], [])
theorem is_X2_readersOf : (yP Y_X2_readersOf).all (okI (yB Y_X2_readersOf)) = true := by decide +kernel
theorem mf_X2_readersOf : MF Y_X2_readersOf 1 := ⟨gw_in 884 (by decide +kernel) (by decide +kernel), gw_in 36 (by decide +kernel) (by decide +kernel), by decide, by decide +kernel⟩
def Y_X2_touchedBy : MT := (⟨"GlitchCourt$Circuit", "touchedBy", "(I)I"⟩, prog_4_method_9_code, 5, (Option.some FieldType.int), { frames := 2, cells := 0, slots := 0, locals := 43 }, [(0, .aload_n 0, 1), (1, .iload_n 1, 1), (2, .invokevirtual 56, 3), (5, .ifCond .eq 9, 3), (8, .iconst 1, 1), (9, .iload_n 1, 1), (10, .ishl, 1), (11, .goto 8, 3), (14, .aload_n 0, 1), (15, .iload_n 1, 1), (16, .invokevirtual 60, 3), (19, .istore_n 2, 1), (20, .iconst 0, 1), (21, .istore_n 3, 1), (22, .aload_n 0, 1), (23, .getfield 24, 3), (26, .istore 4, 2), (28, .iload 4, 2), (30, .aload_n 0, 1), (31, .invokevirtual 40, 3), (34, .if_icmp .ge 28, 3), (37, .aload_n 0, 1), (38, .getfield 21, 3), (41, .iload 4, 2), (43, .iaload, 1), (44, .iload_n 2, 1), (45, .iand, 1), (46, .ifCond .eq 10, 3), (49, .iload_n 3, 1), (50, .iconst 1, 1), (51, .iload 4, 2), (53, .ishl, 1), (54, .ior, 1), (55, .istore_n 3, 1), (56, .iinc 4 1, 3), (59, .goto (-31), 3), (62, .iload_n 3, 1), (63, .ireturn, 1)], [])
theorem is_X2_touchedBy : (yP Y_X2_touchedBy).all (okI (yB Y_X2_touchedBy)) = true := by decide +kernel
theorem mf_X2_touchedBy : MF Y_X2_touchedBy 1 := ⟨gw_in 879 (by decide +kernel) (by decide +kernel), gw_in 36 (by decide +kernel) (by decide +kernel), by decide, by decide +kernel⟩
def Y_X3_isPending : MT := (⟨"GlitchCourt$Dispute", "isPending", "()Z"⟩, prog_5_method_5_code, 1, (Option.some FieldType.boolean), { frames := 0, cells := 0, slots := 0, locals := 0 }, [(0, .aload_n 0, 1), (1, .getfield 34, 3), (4, .ifCond .eq 11, 3), (7, .aload_n 0, 1), (8, .getfield 34, 3), (11, .iconst 1, 1), (12, .if_icmp .ne 7, 3), (15, .iconst 1, 1), (16, .goto 4, 3), (19, .iconst 0, 1), (20, .ireturn, 1)], [])
theorem is_X3_isPending : (yP Y_X3_isPending).all (okI (yB Y_X3_isPending)) = true := by decide +kernel
theorem mf_X3_isPending : MF Y_X3_isPending 0 := ⟨gw_in 893 (by decide +kernel) (by decide +kernel), gw_in 32 (by decide +kernel) (by decide +kernel), by decide, by decide +kernel⟩
def Y_X6_dropPending : MT := (⟨"GlitchCourt$State", "dropPending", "(I)I"⟩, prog_8_method_10_code, 4, (Option.some FieldType.int), { frames := 1, cells := 0, slots := 0, locals := 20 }, [(0, .iconst 0, 1), (1, .istore_n 2, 1), (2, .iconst 0, 1), (3, .istore_n 3, 1), (4, .iload_n 3, 1), (5, .aload_n 0, 1), (6, .getfield 39, 3), (9, .if_icmp .ge 47, 3), (12, .aload_n 0, 1), (13, .getfield 35, 3), (16, .iload_n 3, 1), (17, .aaload, 1), (18, .getfield 83, 3), (21, .iload_n 1, 1), (22, .if_icmp .ne 28, 3), (25, .aload_n 0, 1), (26, .getfield 35, 3), (29, .iload_n 3, 1), (30, .aaload, 1), (31, .invokevirtual 79, 3), (34, .ifCond .eq 16, 3), (37, .aload_n 0, 1), (38, .getfield 35, 3), (41, .iload_n 3, 1), (42, .aaload, 1), (43, .iconst 4, 1), (44, .putfield 92, 3), (47, .iinc 2 1, 3), (50, .iinc 3 1, 3), (53, .goto (-49), 3), (56, .iload_n 2, 1), (57, .ireturn, 1)], [])
theorem is_X6_dropPending : (yP Y_X6_dropPending).all (okI (yB Y_X6_dropPending)) = true := by decide +kernel
theorem mf_X6_dropPending : MF Y_X6_dropPending 1 := ⟨gw_in 889 (by decide +kernel) (by decide +kernel), gw_in 31 (by decide +kernel) (by decide +kernel), by decide, by decide +kernel⟩
def Y_X0_unsettle : MT := (⟨"GlitchCourt$Bench", "unsettle", "(I)I"⟩, prog_2_method_22_code, 5, (Option.some FieldType.int), { frames := 5, cells := 0, slots := 0, locals := 128 }, [(0, .aload_n 0, 1), (1, .getfield 12, 3), (4, .iload_n 1, 1), (5, .invokevirtual 162, 3), (8, .istore_n 2, 1), (9, .iconst 0, 1), (10, .istore_n 3, 1), (11, .aload_n 0, 1), (12, .getfield 12, 3), (15, .getfield 46, 3), (18, .istore 4, 2), (20, .iload 4, 2), (22, .aload_n 0, 1), (23, .getfield 12, 3), (26, .invokevirtual 53, 3), (29, .if_icmp .ge 40, 3), (32, .iload_n 2, 1), (33, .iload 4, 2), (35, .iushr, 1), (36, .iconst 1, 1), (37, .iand, 1), (38, .iconst 1, 1), (39, .if_icmp .ne 24, 3), (42, .aload_n 0, 1), (43, .getfield 21, 3), (46, .iload 4, 2), (48, .invokevirtual 165, 3), (51, .iload_n 3, 1), (52, .aload_n 0, 1), (53, .getfield 21, 3), (56, .iload 4, 2), (58, .invokevirtual 169, 3), (61, .iadd, 1), (62, .istore_n 3, 1), (63, .iinc 4 1, 3), (66, .goto (-46), 3), (69, .aload_n 0, 1), (70, .invokevirtual 156, 3), (73, .iload_n 3, 1), (74, .ireturn, 1)], [])
theorem is_X0_unsettle : (yP Y_X0_unsettle).all (okI (yB Y_X0_unsettle)) = true := by decide +kernel
theorem mf_X0_unsettle : MF Y_X0_unsettle 1 := ⟨gw_in 875 (by decide +kernel) (by decide +kernel), gw_in 35 (by decide +kernel) (by decide +kernel), by decide, by decide +kernel⟩
def Y_X7_failed : MT := (⟨"GlitchCourt$Tokens", "failed", "()Z"⟩, prog_9_method_6_code, 1, (Option.some FieldType.boolean), { frames := 0, cells := 0, slots := 0, locals := 0 }, [(0, .aload_n 0, 1), (1, .getfield 31, 3), (4, .ifCond .eq 7, 3), (7, .iconst 1, 1), (8, .goto 4, 3), (11, .iconst 0, 1), (12, .ireturn, 1)], [])
theorem is_X7_failed : (yP Y_X7_failed).all (okI (yB Y_X7_failed)) = true := by decide +kernel
theorem mf_X7_failed : MF Y_X7_failed 0 := ⟨gw_in 575 (by decide +kernel) (by decide +kernel), gw_in 33 (by decide +kernel) (by decide +kernel), by decide, by decide +kernel⟩
def Y_X7_fail : MT := (⟨"GlitchCourt$Tokens", "fail", "(I)V"⟩, prog_9_method_7_code, 2, none, { frames := 1, cells := 0, slots := 0, locals := 20 }, [(0, .aload_n 0, 1), (1, .invokevirtual 46, 3), (4, .ifCond .ne 16, 3), (7, .aload_n 0, 1), (8, .iload_n 1, 1), (9, .putfield 31, 3), (12, .aload_n 0, 1), (13, .aload_n 0, 1), (14, .getfield 19, 3), (17, .putfield 34, 3), (20, .return_, 1)], [])
theorem is_X7_fail : (yP Y_X7_fail).all (okI (yB Y_X7_fail)) = true := by decide +kernel
theorem mf_X7_fail : MF Y_X7_fail 1 := ⟨gw_in 625 (by decide +kernel) (by decide +kernel), gw_in 33 (by decide +kernel) (by decide +kernel), by decide, by decide +kernel⟩
def Y_X7_scanWord : MT := (⟨"GlitchCourt$Tokens", "scanWord", "()V"⟩, prog_9_method_4_code, 1, none, { frames := 0, cells := 0, slots := 0, locals := 0 }, [(0, .aload_n 0, 1), (1, .iconst 1, 1), (2, .putfield 25, 3), (5, .aload_n 0, 1), (6, .getfield 22, 3), (9, .aload_n 0, 1), (10, .getfield 15, 3), (13, .if_icmp .ge 44, 3), (16, .aload_n 0, 1), (17, .getfield 9, 3), (20, .aload_n 0, 1), (21, .getfield 22, 3), (24, .baload, 1), (25, .bipush 97, 2), (27, .if_icmp .lt 30, 3), (30, .aload_n 0, 1), (31, .getfield 9, 3), (34, .aload_n 0, 1), (35, .getfield 22, 3), (38, .baload, 1), (39, .bipush 122, 2), (41, .if_icmp .gt 16, 3), (44, .aload_n 0, 1), (45, .dup, 1), (46, .getfield 22, 3), (49, .iconst 1, 1), (50, .iadd, 1), (51, .putfield 22, 3), (54, .goto (-49), 3), (57, .return_, 1)], [])
theorem is_X7_scanWord : (yP Y_X7_scanWord).all (okI (yB Y_X7_scanWord)) = true := by decide +kernel
theorem mf_X7_scanWord : MF Y_X7_scanWord 0 := ⟨gw_in 579 (by decide +kernel) (by decide +kernel), gw_in 33 (by decide +kernel) (by decide +kernel), by decide, by decide +kernel⟩
def Y_X7_scanNumber : MT := (⟨"GlitchCourt$Tokens", "scanNumber", "()V"⟩, prog_9_method_5_code, 1, none, { frames := 1, cells := 0, slots := 0, locals := 21 }, [(0, .aload_n 0, 1), (1, .iconst 2, 1), (2, .putfield 25, 3), (5, .aload_n 0, 1), (6, .iconst 0, 1), (7, .putfield 28, 3), (10, .aload_n 0, 1), (11, .getfield 22, 3), (14, .aload_n 0, 1), (15, .getfield 15, 3), (18, .if_icmp .ge 73, 3), (21, .aload_n 0, 1), (22, .getfield 9, 3), (25, .aload_n 0, 1), (26, .getfield 22, 3), (29, .baload, 1), (30, .bipush 48, 2), (32, .if_icmp .lt 59, 3), (35, .aload_n 0, 1), (36, .getfield 9, 3), (39, .aload_n 0, 1), (40, .getfield 22, 3), (43, .baload, 1), (44, .bipush 57, 2), (46, .if_icmp .gt 45, 3), (49, .aload_n 0, 1), (50, .bipush 10, 2), (52, .aload_n 0, 1), (53, .getfield 28, 3), (56, .imul, 1), (57, .aload_n 0, 1), (58, .getfield 9, 3), (61, .aload_n 0, 1), (62, .getfield 22, 3), (65, .baload, 1), (66, .iadd, 1), (67, .bipush 48, 2), (69, .isub, 1), (70, .ldc 56, 2), (72, .invokestatic 37, 3), (75, .putfield 28, 3), (78, .aload_n 0, 1), (79, .dup, 1), (80, .getfield 22, 3), (83, .iconst 1, 1), (84, .iadd, 1), (85, .putfield 22, 3), (88, .goto (-78), 3), (91, .return_, 1)], [])
theorem is_X7_scanNumber : (yP Y_X7_scanNumber).all (okI (yB Y_X7_scanNumber)) = true := by decide +kernel
theorem mf_X7_scanNumber : MF Y_X7_scanNumber 0 := ⟨gw_in 583 (by decide +kernel) (by decide +kernel), gw_in 33 (by decide +kernel) (by decide +kernel), by decide, by decide +kernel⟩
def Y_X7_advance : MT := (⟨"GlitchCourt$Tokens", "advance", "()V"⟩, prog_9_method_3_code, 1, none, { frames := 2, cells := 0, slots := 0, locals := 41 }, [(0, .aload_n 0, 1), (1, .invokevirtual 46, 3), (4, .ifCond .eq 4, 3), (7, .return_, 1), (8, .aload_n 0, 1), (9, .getfield 22, 3), (12, .aload_n 0, 1), (13, .getfield 15, 3), (16, .if_icmp .ge 44, 3), (19, .aload_n 0, 1), (20, .getfield 9, 3), (23, .aload_n 0, 1), (24, .getfield 22, 3), (27, .baload, 1), (28, .bipush 32, 2), (30, .if_icmp .eq 17, 3), (33, .aload_n 0, 1), (34, .getfield 9, 3), (37, .aload_n 0, 1), (38, .getfield 22, 3), (41, .baload, 1), (42, .bipush 10, 2), (44, .if_icmp .ne 16, 3), (47, .aload_n 0, 1), (48, .dup, 1), (49, .getfield 22, 3), (52, .iconst 1, 1), (53, .iadd, 1), (54, .putfield 22, 3), (57, .goto (-49), 3), (60, .aload_n 0, 1), (61, .aload_n 0, 1), (62, .getfield 22, 3), (65, .putfield 19, 3), (68, .aload_n 0, 1), (69, .getfield 19, 3), (72, .aload_n 0, 1), (73, .getfield 15, 3), (76, .if_icmp .lt 11, 3), (79, .aload_n 0, 1), (80, .iconst 0, 1), (81, .putfield 25, 3), (84, .goto 88, 3), (87, .aload_n 0, 1), (88, .getfield 9, 3), (91, .aload_n 0, 1), (92, .getfield 19, 3), (95, .baload, 1), (96, .bipush 97, 2), (98, .if_icmp .lt 24, 3), (101, .aload_n 0, 1), (102, .getfield 9, 3), (105, .aload_n 0, 1), (106, .getfield 19, 3), (109, .baload, 1), (110, .bipush 122, 2), (112, .if_icmp .gt 10, 3), (115, .aload_n 0, 1), (116, .invokevirtual 50, 3), (119, .goto 53, 3), (122, .aload_n 0, 1), (123, .getfield 9, 3), (126, .aload_n 0, 1), (127, .getfield 19, 3), (130, .baload, 1), (131, .bipush 48, 2), (133, .if_icmp .lt 24, 3), (136, .aload_n 0, 1), (137, .getfield 9, 3), (140, .aload_n 0, 1), (141, .getfield 19, 3), (144, .baload, 1), (145, .bipush 57, 2), (147, .if_icmp .gt 10, 3), (150, .aload_n 0, 1), (151, .invokevirtual 53, 3), (154, .goto 18, 3), (157, .aload_n 0, 1), (158, .iconst 3, 1), (159, .putfield 25, 3), (162, .aload_n 0, 1), (163, .dup, 1), (164, .getfield 22, 3), (167, .iconst 1, 1), (168, .iadd, 1), (169, .putfield 22, 3), (172, .return_, 1)], [])
theorem is_X7_advance : (yP Y_X7_advance).all (okI (yB Y_X7_advance)) = true := by decide +kernel
theorem mf_X7_advance : MF Y_X7_advance 0 := ⟨gw_in 571 (by decide +kernel) (by decide +kernel), gw_in 33 (by decide +kernel) (by decide +kernel), by decide, by decide +kernel⟩
def Y_X7_takeWord : MT := (⟨"GlitchCourt$Tokens", "takeWord", "(Ljava/lang/String;)V"⟩, prog_9_method_14_code, 2, none, { frames := 6, cells := 0, slots := 0, locals := 129 }, [(0, .aload_n 0, 1), (1, .aload_n 1, 1), (2, .invokevirtual 76, 3), (5, .ifCond .ne 8, 3), (8, .aload_n 0, 1), (9, .iconst 1, 1), (10, .invokevirtual 69, 3), (13, .aload_n 0, 1), (14, .invokevirtual 43, 3), (17, .return_, 1)], [])
theorem is_X7_takeWord : (yP Y_X7_takeWord).all (okI (yB Y_X7_takeWord)) = true := by decide +kernel
theorem mf_X7_takeWord : MF Y_X7_takeWord 1 := ⟨gw_in 615 (by decide +kernel) (by decide +kernel), gw_in 33 (by decide +kernel) (by decide +kernel), by decide, by decide +kernel⟩
def Y_X7_isNumber : MT := (⟨"GlitchCourt$Tokens", "isNumber", "()Z"⟩, prog_9_method_9_code, 1, (Option.some FieldType.boolean), { frames := 1, cells := 0, slots := 0, locals := 20 }, [(0, .aload_n 0, 1), (1, .invokevirtual 46, 3), (4, .ifCond .ne 15, 3), (7, .aload_n 0, 1), (8, .getfield 25, 3), (11, .iconst 2, 1), (12, .if_icmp .ne 7, 3), (15, .iconst 1, 1), (16, .goto 4, 3), (19, .iconst 0, 1), (20, .ireturn, 1)], [])
theorem is_X7_isNumber : (yP Y_X7_isNumber).all (okI (yB Y_X7_isNumber)) = true := by decide +kernel
theorem mf_X7_isNumber : MF Y_X7_isNumber 0 := ⟨gw_in 637 (by decide +kernel) (by decide +kernel), gw_in 33 (by decide +kernel) (by decide +kernel), by decide, by decide +kernel⟩
def Y_X7_peekNumber : MT := (⟨"GlitchCourt$Tokens", "peekNumber", "(II)I"⟩, prog_9_method_12_code, 3, (Option.some FieldType.int), { frames := 2, cells := 0, slots := 0, locals := 41 }, [(0, .aload_n 0, 1), (1, .invokevirtual 66, 3), (4, .ifCond .ne 11, 3), (7, .aload_n 0, 1), (8, .iconst 1, 1), (9, .invokevirtual 69, 3), (12, .goto 24, 3), (15, .aload_n 0, 1), (16, .getfield 28, 3), (19, .iload_n 1, 1), (20, .if_icmp .lt 11, 3), (23, .aload_n 0, 1), (24, .getfield 28, 3), (27, .iload_n 2, 1), (28, .if_icmp .le 8, 3), (31, .aload_n 0, 1), (32, .iconst 2, 1), (33, .invokevirtual 69, 3), (36, .aload_n 0, 1), (37, .invokevirtual 46, 3), (40, .ifCond .eq 7, 3), (43, .iload_n 1, 1), (44, .goto 7, 3), (47, .aload_n 0, 1), (48, .getfield 28, 3), (51, .ireturn, 1)], [])
theorem is_X7_peekNumber : (yP Y_X7_peekNumber).all (okI (yB Y_X7_peekNumber)) = true := by decide +kernel
theorem mf_X7_peekNumber : MF Y_X7_peekNumber 2 := ⟨gw_in 633 (by decide +kernel) (by decide +kernel), gw_in 33 (by decide +kernel) (by decide +kernel), by decide, by decide +kernel⟩
def Y_X7_takeNumber : MT := (⟨"GlitchCourt$Tokens", "takeNumber", "(II)I"⟩, prog_9_method_13_code, 4, (Option.some FieldType.int), { frames := 3, cells := 0, slots := 0, locals := 63 }, [(0, .aload_n 0, 1), (1, .iload_n 1, 1), (2, .iload_n 2, 1), (3, .invokevirtual 73, 3), (6, .istore_n 3, 1), (7, .aload_n 0, 1), (8, .invokevirtual 43, 3), (11, .iload_n 3, 1), (12, .ireturn, 1)], [])
theorem is_X7_takeNumber : (yP Y_X7_takeNumber).all (okI (yB Y_X7_takeNumber)) = true := by decide +kernel
theorem mf_X7_takeNumber : MF Y_X7_takeNumber 2 := ⟨gw_in 629 (by decide +kernel) (by decide +kernel), gw_in 33 (by decide +kernel) (by decide +kernel), by decide, by decide +kernel⟩
def Y_X7_isSign : MT := (⟨"GlitchCourt$Tokens", "isSign", "(C)Z"⟩, prog_9_method_10_code, 2, (Option.some FieldType.boolean), { frames := 1, cells := 0, slots := 0, locals := 20 }, [(0, .aload_n 0, 1), (1, .invokevirtual 46, 3), (4, .ifCond .ne 39, 3), (7, .aload_n 0, 1), (8, .getfield 25, 3), (11, .iconst 3, 1), (12, .if_icmp .ne 31, 3), (15, .aload_n 0, 1), (16, .getfield 19, 3), (19, .aload_n 0, 1), (20, .getfield 15, 3), (23, .if_icmp .ge 20, 3), (26, .aload_n 0, 1), (27, .getfield 9, 3), (30, .aload_n 0, 1), (31, .getfield 19, 3), (34, .baload, 1), (35, .iload_n 1, 1), (36, .if_icmp .ne 7, 3), (39, .iconst 1, 1), (40, .goto 4, 3), (43, .iconst 0, 1), (44, .ireturn, 1)], [])
theorem is_X7_isSign : (yP Y_X7_isSign).all (okI (yB Y_X7_isSign)) = true := by decide +kernel
theorem mf_X7_isSign : MF Y_X7_isSign 1 := ⟨gw_in 645 (by decide +kernel) (by decide +kernel), gw_in 33 (by decide +kernel) (by decide +kernel), by decide, by decide +kernel⟩
def Y_X7_takeSign : MT := (⟨"GlitchCourt$Tokens", "takeSign", "(C)V"⟩, prog_9_method_15_code, 2, none, { frames := 3, cells := 0, slots := 0, locals := 61 }, [(0, .aload_n 0, 1), (1, .iload_n 1, 1), (2, .invokevirtual 80, 3), (5, .ifCond .ne 8, 3), (8, .aload_n 0, 1), (9, .iconst 1, 1), (10, .invokevirtual 69, 3), (13, .aload_n 0, 1), (14, .invokevirtual 43, 3), (17, .return_, 1)], [])
theorem is_X7_takeSign : (yP Y_X7_takeSign).all (okI (yB Y_X7_takeSign)) = true := by decide +kernel
theorem mf_X7_takeSign : MF Y_X7_takeSign 1 := ⟨gw_in 641 (by decide +kernel) (by decide +kernel), gw_in 33 (by decide +kernel) (by decide +kernel), by decide, by decide +kernel⟩
def Y_X1_readHead : MT := (⟨"GlitchCourt$BenchText", "readHead", "(LGlitchCourt$Tokens;LGlitchCourt$Bench;)V"⟩, prog_3_method_3_code, 2, none, { frames := 7, cells := 0, slots := 0, locals := 150 }, [(0, .aload_n 0, 1), (1, .ldc 34, 2), (3, .invokevirtual 36, 3), (6, .aload_n 1, 1), (7, .getfield 40, 3), (10, .aload_n 0, 1), (11, .iconst 4, 1), (12, .bipush 60, 2), (14, .invokevirtual 46, 3), (17, .putfield 50, 3), (20, .aload_n 1, 1), (21, .getfield 56, 3), (24, .aload_n 0, 1), (25, .iconst 1, 1), (26, .bipush 20, 2), (28, .invokevirtual 46, 3), (31, .putfield 60, 3), (34, .aload_n 1, 1), (35, .getfield 40, 3), (38, .aload_n 0, 1), (39, .iconst 0, 1), (40, .bipush 9, 2), (42, .invokevirtual 46, 3), (45, .putfield 65, 3), (48, .aload_n 1, 1), (49, .getfield 40, 3), (52, .aload_n 0, 1), (53, .iconst 0, 1), (54, .bipush 99, 2), (56, .invokevirtual 46, 3), (59, .putfield 68, 3), (62, .aload_n 0, 1), (63, .bipush 59, 2), (65, .invokevirtual 71, 3), (68, .return_, 1)], [])
theorem is_X1_readHead : (yP Y_X1_readHead).all (okI (yB Y_X1_readHead)) = true := by decide +kernel
theorem mf_X1_readHead : MF Y_X1_readHead 2 := ⟨gw_in 610 (by decide +kernel) (by decide +kernel), gw_in 47 (by decide +kernel) (by decide +kernel), by decide, by decide +kernel⟩
def Y_X1_readWave : MT := (⟨"GlitchCourt$BenchText", "readWave", "(LGlitchCourt$Tokens;I)J"⟩, prog_3_method_5_code, 7, (Option.some FieldType.long), { frames := 4, cells := 0, slots := 0, locals := 86 }, [(0, .aload_n 0, 1), (1, .iconst 0, 1), (2, .iconst 1, 1), (3, .invokevirtual 46, 3), (6, .iconst 1, 1), (7, .if_icmp .ne 11, 3), (10, .iconst 0, 1), (11, .iload_n 1, 1), (12, .invokestatic 95, 3), (15, .goto 4, 3), (18, .lconst 0, 1), (19, .lstore_n 2, 1), (20, .iconst 0, 1), (21, .istore 4, 2), (23, .iconst 0, 1), (24, .istore 5, 2), (26, .iload 5, 2), (28, .bipush 60, 2), (30, .if_icmp .gt 53, 3), (33, .aload_n 0, 1), (34, .invokevirtual 99, 3), (37, .ifCond .eq 46, 3), (40, .aload_n 0, 1), (41, .iconst 1, 1), (42, .iload_n 1, 1), (43, .invokevirtual 102, 3), (46, .istore 6, 2), (48, .iload 6, 2), (50, .iload 4, 2), (52, .if_icmp .gt 8, 3), (55, .aload_n 0, 1), (56, .iconst 4, 1), (57, .invokevirtual 30, 3), (60, .aload_n 0, 1), (61, .invokevirtual 81, 3), (64, .lload_n 2, 1), (65, .iload 6, 2), (67, .iload_n 1, 1), (68, .invokestatic 95, 3), (71, .lxor, 1), (72, .lstore_n 2, 1), (73, .iload 6, 2), (75, .istore 4, 2), (77, .iinc 5 1, 3), (80, .goto (-54), 3), (83, .aload_n 0, 1), (84, .bipush 59, 2), (86, .invokevirtual 71, 3), (89, .lload_n 2, 1), (90, .lreturn, 1)], [])
theorem is_X1_readWave : (yP Y_X1_readWave).all (okI (yB Y_X1_readWave)) = true := by decide +kernel
theorem mf_X1_readWave : MF Y_X1_readWave 2 := ⟨gw_in 655 (by decide +kernel) (by decide +kernel), gw_in 47 (by decide +kernel) (by decide +kernel), by decide, by decide +kernel⟩
def Y_X1_readInputs : MT := (⟨"GlitchCourt$BenchText", "readInputs", "(LGlitchCourt$Tokens;LGlitchCourt$Bench;)V"⟩, prog_3_method_4_code, 3, none, { frames := 6, cells := 0, slots := 0, locals := 129 }, [(0, .aload_n 0, 1), (1, .ldc 75, 2), (3, .invokevirtual 77, 3), (6, .ifCond .ne 8, 3), (9, .aload_n 0, 1), (10, .iconst 1, 1), (11, .invokevirtual 30, 3), (14, .iconst 0, 1), (15, .istore_n 2, 1), (16, .iload_n 2, 1), (17, .iconst 4, 1), (18, .if_icmp .gt 68, 3), (21, .aload_n 0, 1), (22, .ldc 75, 2), (24, .invokevirtual 77, 3), (27, .ifCond .eq 59, 3), (30, .iload_n 2, 1), (31, .iconst 4, 1), (32, .if_icmp .ne 11, 3), (35, .aload_n 0, 1), (36, .iconst 3, 1), (37, .invokevirtual 30, 3), (40, .goto 40, 3), (43, .aload_n 0, 1), (44, .invokevirtual 81, 3), (47, .aload_n 1, 1), (48, .getfield 56, 3), (51, .getfield 84, 3), (54, .iload_n 2, 1), (55, .aload_n 0, 1), (56, .aload_n 1, 1), (57, .getfield 40, 3), (60, .getfield 50, 3), (63, .invokestatic 88, 3), (66, .lastore, 1), (67, .aload_n 1, 1), (68, .getfield 40, 3), (71, .dup, 1), (72, .getfield 92, 3), (75, .iconst 1, 1), (76, .iadd, 1), (77, .putfield 92, 3), (80, .iinc 2 1, 3), (83, .goto (-67), 3), (86, .return_, 1)], [])
theorem is_X1_readInputs : (yP Y_X1_readInputs).all (okI (yB Y_X1_readInputs)) = true := by decide +kernel
theorem mf_X1_readInputs : MF Y_X1_readInputs 2 := ⟨gw_in 648 (by decide +kernel) (by decide +kernel), gw_in 47 (by decide +kernel) (by decide +kernel), by decide, by decide +kernel⟩
def Y_X8_kindWord : MT := (⟨"GlitchCourt", "kindWord", "(I)Ljava/lang/String;"⟩, prog_1_method_56_code, 1, (Option.some (FieldType.object "java/lang/String")), { frames := 0, cells := 0, slots := 0, locals := 0 }, [(0, .iload_n 0, 1), (1, .tableswitch 63 0 5 #[39, 43, 47, 51, 55, 59], 39), (40, .ldc_w 408, 3), (43, .areturn, 1), (44, .ldc_w 410, 3), (47, .areturn, 1), (48, .ldc_w 412, 3), (51, .areturn, 1), (52, .ldc_w 414, 3), (55, .areturn, 1), (56, .ldc_w 416, 3), (59, .areturn, 1), (60, .ldc_w 418, 3), (63, .areturn, 1), (64, .ldc_w 420, 3), (67, .areturn, 1)], [])
theorem is_X8_kindWord : (yP Y_X8_kindWord).all (okI (yB Y_X8_kindWord)) = true := by decide +kernel
theorem mf_X8_kindWord : MF Y_X8_kindWord 1 := ⟨gw_in 678 (by decide +kernel) (by decide +kernel), gw_in 29 (by decide +kernel) (by decide +kernel), by decide, by decide +kernel⟩
def Y_X1_readKind : MT := (⟨"GlitchCourt$BenchText", "readKind", "(LGlitchCourt$Tokens;)I"⟩, prog_3_method_8_code, 2, (Option.some FieldType.int), { frames := 6, cells := 0, slots := 0, locals := 129 }, [(0, .iconst 0, 1), (1, .istore_n 1, 1), (2, .iload_n 1, 1), (3, .bipush 7, 2), (5, .if_icmp .ge 26, 3), (8, .aload_n 0, 1), (9, .iload_n 1, 1), (10, .invokestatic 129, 3), (13, .invokevirtual 77, 3), (16, .ifCond .eq 9, 3), (19, .aload_n 0, 1), (20, .invokevirtual 81, 3), (23, .iload_n 1, 1), (24, .ireturn, 1), (25, .iinc 1 1, 3), (28, .goto (-26), 3), (31, .aload_n 0, 1), (32, .iconst 1, 1), (33, .invokevirtual 30, 3), (36, .iconst 0, 1), (37, .ireturn, 1)], [])
theorem is_X1_readKind : (yP Y_X1_readKind).all (okI (yB Y_X1_readKind)) = true := by decide +kernel
theorem mf_X1_readKind : MF Y_X1_readKind 1 := ⟨gw_in 675 (by decide +kernel) (by decide +kernel), gw_in 47 (by decide +kernel) (by decide +kernel), by decide, by decide +kernel⟩
def Y_X2_addGate : MT := (⟨"GlitchCourt$Circuit", "addGate", "(III)V"⟩, prog_4_method_8_code, 5, none, { frames := 1, cells := 0, slots := 0, locals := 20 }, [(0, .aload_n 0, 1), (1, .invokevirtual 40, 3), (4, .istore 4, 2), (6, .aload_n 0, 1), (7, .getfield 9, 3), (10, .iload 4, 2), (12, .iload_n 1, 1), (13, .iastore, 1), (14, .aload_n 0, 1), (15, .getfield 15, 3), (18, .iload 4, 2), (20, .iload_n 2, 1), (21, .iastore, 1), (22, .aload_n 0, 1), (23, .getfield 18, 3), (26, .iload 4, 2), (28, .iload_n 3, 1), (29, .iastore, 1), (30, .aload_n 0, 1), (31, .getfield 21, 3), (34, .iload 4, 2), (36, .iconst 1, 1), (37, .iload 4, 2), (39, .ishl, 1), (40, .aload_n 0, 1), (41, .getfield 21, 3), (44, .iload_n 2, 1), (45, .iaload, 1), (46, .ior, 1), (47, .iload_n 3, 1), (48, .iconst (-1), 1), (49, .if_icmp .ne 7, 3), (52, .iconst 0, 1), (53, .goto 9, 3), (56, .aload_n 0, 1), (57, .getfield 21, 3), (60, .iload_n 3, 1), (61, .iaload, 1), (62, .ior, 1), (63, .iastore, 1), (64, .aload_n 0, 1), (65, .dup, 1), (66, .getfield 28, 3), (69, .iconst 1, 1), (70, .iadd, 1), (71, .putfield 28, 3), (74, .return_, 1)], [])
theorem is_X2_addGate : (yP Y_X2_addGate).all (okI (yB Y_X2_addGate)) = true := by decide +kernel
theorem mf_X2_addGate : MF Y_X2_addGate 3 := ⟨gw_in 690 (by decide +kernel) (by decide +kernel), gw_in 36 (by decide +kernel) (by decide +kernel), by decide, by decide +kernel⟩
def Y_X1_readGate : MT := (⟨"GlitchCourt$BenchText", "readGate", "(LGlitchCourt$Tokens;LGlitchCourt$Bench;)V"⟩, prog_3_method_7_code, 8, none, { frames := 7, cells := 0, slots := 0, locals := 150 }, [(0, .aload_n 1, 1), (1, .getfield 40, 3), (4, .invokevirtual 110, 3), (7, .istore_n 2, 1), (8, .aload_n 0, 1), (9, .invokestatic 114, 3), (12, .istore_n 3, 1), (13, .aload_n 0, 1), (14, .iconst 0, 1), (15, .iload_n 2, 1), (16, .iconst 1, 1), (17, .isub, 1), (18, .invokevirtual 46, 3), (21, .istore 4, 2), (23, .iload_n 3, 1), (24, .iconst 5, 1), (25, .if_icmp .ge 14, 3), (28, .aload_n 0, 1), (29, .iconst 0, 1), (30, .iload_n 2, 1), (31, .iconst 1, 1), (32, .isub, 1), (33, .invokevirtual 46, 3), (36, .goto 4, 3), (39, .iconst (-1), 1), (40, .istore 5, 2), (42, .iconst 0, 1), (43, .istore 6, 2), (45, .iload 6, 2), (47, .iconst 3, 1), (48, .if_icmp .ge 39, 3), (51, .aload_n 0, 1), (52, .iconst 1, 1), (53, .bipush 9, 2), (55, .invokevirtual 46, 3), (58, .istore 7, 2), (60, .aload_n 0, 1), (61, .invokevirtual 118, 3), (64, .ifCond .ne 17, 3), (67, .aload_n 1, 1), (68, .getfield 56, 3), (71, .getfield 121, 3), (74, .iload 6, 2), (76, .aaload, 1), (77, .iload_n 2, 1), (78, .iload 7, 2), (80, .iastore, 1), (81, .iinc 6 1, 3), (84, .goto (-39), 3), (87, .aload_n 0, 1), (88, .bipush 59, 2), (90, .invokevirtual 71, 3), (93, .aload_n 0, 1), (94, .invokevirtual 118, 3), (97, .ifCond .ne 15, 3), (100, .aload_n 1, 1), (101, .getfield 40, 3), (104, .iload_n 3, 1), (105, .iload 4, 2), (107, .iload 5, 2), (109, .invokevirtual 125, 3), (112, .return_, 1)], [])
theorem is_X1_readGate : (yP Y_X1_readGate).all (okI (yB Y_X1_readGate)) = true := by decide +kernel
theorem mf_X1_readGate : MF Y_X1_readGate 2 := ⟨gw_in 668 (by decide +kernel) (by decide +kernel), gw_in 47 (by decide +kernel) (by decide +kernel), by decide, by decide +kernel⟩
def Y_X1_readGates : MT := (⟨"GlitchCourt$BenchText", "readGates", "(LGlitchCourt$Tokens;LGlitchCourt$Bench;)V"⟩, prog_3_method_6_code, 3, none, { frames := 8, cells := 0, slots := 0, locals := 177 }, [(0, .iconst 0, 1), (1, .istore_n 2, 1), (2, .iload_n 2, 1), (3, .bipush 12, 2), (5, .if_icmp .gt 41, 3), (8, .aload_n 0, 1), (9, .ldc 105, 2), (11, .invokevirtual 77, 3), (14, .ifCond .eq 32, 3), (17, .iload_n 2, 1), (18, .bipush 12, 2), (20, .if_icmp .ne 11, 3), (23, .aload_n 0, 1), (24, .iconst 3, 1), (25, .invokevirtual 30, 3), (28, .goto 12, 3), (31, .aload_n 0, 1), (32, .invokevirtual 81, 3), (35, .aload_n 0, 1), (36, .aload_n 1, 1), (37, .invokestatic 107, 3), (40, .iinc 2 1, 3), (43, .goto (-41), 3), (46, .return_, 1)], [])
theorem is_X1_readGates : (yP Y_X1_readGates).all (okI (yB Y_X1_readGates)) = true := by decide +kernel
theorem mf_X1_readGates : MF Y_X1_readGates 2 := ⟨gw_in 664 (by decide +kernel) (by decide +kernel), gw_in 47 (by decide +kernel) (by decide +kernel), by decide, by decide +kernel⟩
def Y_X1_readPurses : MT := (⟨"GlitchCourt$BenchText", "readPurses", "(LGlitchCourt$Tokens;LGlitchCourt$Bench;)V"⟩, prog_3_method_9_code, 3, none, { frames := 6, cells := 0, slots := 0, locals := 129 }, [(0, .aload_n 0, 1), (1, .ldc 133, 2), (3, .invokevirtual 77, 3), (6, .ifCond .eq 42, 3), (9, .aload_n 0, 1), (10, .invokevirtual 81, 3), (13, .iconst 0, 1), (14, .istore_n 2, 1), (15, .iload_n 2, 1), (16, .iconst 3, 1), (17, .if_icmp .ge 25, 3), (20, .aload_n 1, 1), (21, .getfield 56, 3), (24, .getfield 135, 3), (27, .iload_n 2, 1), (28, .aload_n 0, 1), (29, .iconst 0, 1), (30, .ldc 138, 2), (32, .invokevirtual 46, 3), (35, .iastore, 1), (36, .iinc 2 1, 3), (39, .goto (-24), 3), (42, .aload_n 0, 1), (43, .bipush 59, 2), (45, .invokevirtual 71, 3), (48, .return_, 1)], [])
theorem is_X1_readPurses : (yP Y_X1_readPurses).all (okI (yB Y_X1_readPurses)) = true := by decide +kernel
theorem mf_X1_readPurses : MF Y_X1_readPurses 2 := ⟨gw_in 694 (by decide +kernel) (by decide +kernel), gw_in 47 (by decide +kernel) (by decide +kernel), by decide, by decide +kernel⟩
def Y_X7_isEnd : MT := (⟨"GlitchCourt$Tokens", "isEnd", "()Z"⟩, prog_9_method_8_code, 1, (Option.some FieldType.boolean), { frames := 1, cells := 0, slots := 0, locals := 20 }, [(0, .aload_n 0, 1), (1, .invokevirtual 46, 3), (4, .ifCond .ne 14, 3), (7, .aload_n 0, 1), (8, .getfield 25, 3), (11, .ifCond .ne 7, 3), (14, .iconst 1, 1), (15, .goto 4, 3), (18, .iconst 0, 1), (19, .ireturn, 1)], [])
theorem is_X7_isEnd : (yP Y_X7_isEnd).all (okI (yB Y_X7_isEnd)) = true := by decide +kernel
theorem mf_X7_isEnd : MF Y_X7_isEnd 0 := ⟨gw_in 700 (by decide +kernel) (by decide +kernel), gw_in 33 (by decide +kernel) (by decide +kernel), by decide, by decide +kernel⟩
def Y_X1_read : MT := (⟨"GlitchCourt$BenchText", "read", "(LGlitchCourt$Tokens;LGlitchCourt$Bench;)V"⟩, prog_3_method_2_code, 2, none, { frames := 9, cells := 0, slots := 0, locals := 199 }, [(0, .aload_n 0, 1), (1, .aload_n 1, 1), (2, .invokestatic 9, 3), (5, .aload_n 0, 1), (6, .aload_n 1, 1), (7, .invokestatic 15, 3), (10, .aload_n 0, 1), (11, .aload_n 1, 1), (12, .invokestatic 18, 3), (15, .aload_n 0, 1), (16, .aload_n 1, 1), (17, .invokestatic 21, 3), (20, .aload_n 0, 1), (21, .invokevirtual 24, 3), (24, .ifCond .ne 8, 3), (27, .aload_n 0, 1), (28, .iconst 1, 1), (29, .invokevirtual 30, 3), (32, .return_, 1)], [])
theorem is_X1_read : (yP Y_X1_read).all (okI (yB Y_X1_read)) = true := by decide +kernel
theorem mf_X1_read : MF Y_X1_read 2 := ⟨gw_in 607 (by decide +kernel) (by decide +kernel), gw_in 47 (by decide +kernel) (by decide +kernel), by decide, by decide +kernel⟩
def Y_X2_hasNet : MT := (⟨"GlitchCourt$Circuit", "hasNet", "(I)Z"⟩, prog_4_method_3_code, 2, (Option.some FieldType.boolean), { frames := 1, cells := 0, slots := 0, locals := 20 }, [(0, .iload_n 1, 1), (1, .ifCond .lt 15, 3), (4, .iload_n 1, 1), (5, .aload_n 0, 1), (6, .invokevirtual 40, 3), (9, .if_icmp .ge 7, 3), (12, .iconst 1, 1), (13, .goto 4, 3), (16, .iconst 0, 1), (17, .ireturn, 1)], [])
theorem is_X2_hasNet : (yP Y_X2_hasNet).all (okI (yB Y_X2_hasNet)) = true := by decide +kernel
theorem mf_X2_hasNet : MF Y_X2_hasNet 1 := ⟨gw_in 1013 (by decide +kernel) (by decide +kernel), gw_in 36 (by decide +kernel) (by decide +kernel), by decide, by decide +kernel⟩
def Y_X2_hasTime : MT := (⟨"GlitchCourt$Circuit", "hasTime", "(I)Z"⟩, prog_4_method_5_code, 2, (Option.some FieldType.boolean), { frames := 0, cells := 0, slots := 0, locals := 0 }, [(0, .iload_n 1, 1), (1, .ifCond .lt 15, 3), (4, .iload_n 1, 1), (5, .aload_n 0, 1), (6, .getfield 31, 3), (9, .if_icmp .gt 7, 3), (12, .iconst 1, 1), (13, .goto 4, 3), (16, .iconst 0, 1), (17, .ireturn, 1)], [])
theorem is_X2_hasTime : (yP Y_X2_hasTime).all (okI (yB Y_X2_hasTime)) = true := by decide +kernel
theorem mf_X2_hasTime : MF Y_X2_hasTime 1 := ⟨gw_in 809 (by decide +kernel) (by decide +kernel), gw_in 36 (by decide +kernel) (by decide +kernel), by decide, by decide +kernel⟩
def Y_X3_start : MT := (⟨"GlitchCourt$Dispute", "start", "(IIIIIZ)V"⟩, prog_5_method_2_code, 7, none, { frames := 0, cells := 0, slots := 0, locals := 0 }, [(0, .aload_n 0, 1), (1, .iload_n 1, 1), (2, .putfield 15, 3), (5, .aload_n 0, 1), (6, .iload_n 2, 1), (7, .putfield 18, 3), (10, .aload_n 0, 1), (11, .iload_n 3, 1), (12, .putfield 21, 3), (15, .aload_n 0, 1), (16, .iload 4, 2), (18, .putfield 24, 3), (21, .aload_n 0, 1), (22, .iload 5, 2), (24, .putfield 27, 3), (27, .aload_n 0, 1), (28, .iload 6, 2), (30, .putfield 30, 3), (33, .aload_n 0, 1), (34, .iconst 0, 1), (35, .putfield 34, 3), (38, .aload_n 0, 1), (39, .iconst (-1), 1), (40, .putfield 9, 3), (43, .return_, 1)], [])
theorem is_X3_start : (yP Y_X3_start).all (okI (yB Y_X3_start)) = true := by decide +kernel
theorem mf_X3_start : MF Y_X3_start 6 := ⟨gw_in 847 (by decide +kernel) (by decide +kernel), gw_in 32 (by decide +kernel) (by decide +kernel), by decide, by decide +kernel⟩
def Y_X3_copyFrom : MT := (⟨"GlitchCourt$Dispute", "copyFrom", "(LGlitchCourt$Dispute;)V"⟩, prog_5_method_3_code, 2, none, { frames := 1, cells := 0, slots := 0, locals := 26 }, [(0, .aload_n 0, 1), (1, .aload_n 1, 1), (2, .getfield 15, 3), (5, .aload_n 1, 1), (6, .getfield 18, 3), (9, .aload_n 1, 1), (10, .getfield 21, 3), (13, .aload_n 1, 1), (14, .getfield 24, 3), (17, .aload_n 1, 1), (18, .getfield 27, 3), (21, .aload_n 1, 1), (22, .getfield 30, 3), (25, .invokevirtual 37, 3), (28, .aload_n 0, 1), (29, .aload_n 1, 1), (30, .getfield 34, 3), (33, .putfield 34, 3), (36, .aload_n 0, 1), (37, .aload_n 1, 1), (38, .getfield 9, 3), (41, .putfield 9, 3), (44, .return_, 1)], [])
theorem is_X3_copyFrom : (yP Y_X3_copyFrom).all (okI (yB Y_X3_copyFrom)) = true := by decide +kernel
theorem mf_X3_copyFrom : MF Y_X3_copyFrom 1 := ⟨gw_in 843 (by decide +kernel) (by decide +kernel), gw_in 32 (by decide +kernel) (by decide +kernel), by decide, by decide +kernel⟩
def Y_X3_times : MT := (⟨"GlitchCourt$Dispute", "times", "()I"⟩, prog_5_method_4_code, 1, (Option.some FieldType.int), { frames := 0, cells := 0, slots := 0, locals := 0 }, [(0, .aload_n 0, 1), (1, .getfield 21, 3), (4, .aload_n 0, 1), (5, .getfield 18, 3), (8, .isub, 1), (9, .iconst 1, 1), (10, .iadd, 1), (11, .ireturn, 1)], [])
theorem is_X3_times : (yP Y_X3_times).all (okI (yB Y_X3_times)) = true := by decide +kernel
theorem mf_X3_times : MF Y_X3_times 0 := ⟨gw_in 964 (by decide +kernel) (by decide +kernel), gw_in 32 (by decide +kernel) (by decide +kernel), by decide, by decide +kernel⟩
def Y_X3_loserBy : MT := (⟨"GlitchCourt$Dispute", "loserBy", "(I)I"⟩, prog_5_method_6_code, 2, (Option.some FieldType.int), { frames := 0, cells := 0, slots := 0, locals := 0 }, [(0, .iload_n 1, 1), (1, .iconst (-1), 1), (2, .if_icmp .ne 5, 3), (5, .iconst (-1), 1), (6, .ireturn, 1), (7, .iload_n 1, 1), (8, .iconst 1, 1), (9, .if_icmp .ne 7, 3), (12, .iconst 1, 1), (13, .goto 4, 3), (16, .iconst 0, 1), (17, .aload_n 0, 1), (18, .getfield 30, 3), (21, .if_icmp .ne 12, 3), (24, .iconst 1, 1), (25, .aload_n 0, 1), (26, .getfield 27, 3), (29, .isub, 1), (30, .goto 7, 3), (33, .aload_n 0, 1), (34, .getfield 27, 3), (37, .ireturn, 1)], [])
theorem is_X3_loserBy : (yP Y_X3_loserBy).all (okI (yB Y_X3_loserBy)) = true := by decide +kernel
theorem mf_X3_loserBy : MF Y_X3_loserBy 1 := ⟨gw_in 972 (by decide +kernel) (by decide +kernel), gw_in 32 (by decide +kernel) (by decide +kernel), by decide, by decide +kernel⟩
def Y_X6_copyFrom : MT := (⟨"GlitchCourt$State", "copyFrom", "(LGlitchCourt$State;)V"⟩, prog_8_method_3_code, 3, none, { frames := 2, cells := 0, slots := 0, locals := 50 }, [(0, .iconst 0, 1), (1, .istore_n 2, 1), (2, .iload_n 2, 1), (3, .iconst 3, 1), (4, .if_icmp .ge 28, 3), (7, .aload_n 1, 1), (8, .getfield 11, 3), (11, .iload_n 2, 1), (12, .aaload, 1), (13, .iconst 0, 1), (14, .aload_n 0, 1), (15, .getfield 11, 3), (18, .iload_n 2, 1), (19, .aaload, 1), (20, .iconst 0, 1), (21, .bipush 16, 2), (23, .invokestatic 57, 3), (26, .iinc 2 1, 3), (29, .goto (-27), 3), (32, .aload_n 1, 1), (33, .getfield 16, 3), (36, .iconst 0, 1), (37, .aload_n 0, 1), (38, .getfield 16, 3), (41, .iconst 0, 1), (42, .iconst 4, 1), (43, .invokestatic 57, 3), (46, .aload_n 1, 1), (47, .getfield 20, 3), (50, .iconst 0, 1), (51, .aload_n 0, 1), (52, .getfield 20, 3), (55, .iconst 0, 1), (56, .bipush 16, 2), (58, .invokestatic 57, 3), (61, .aload_n 1, 1), (62, .getfield 23, 3), (65, .iconst 0, 1), (66, .aload_n 0, 1), (67, .getfield 23, 3), (70, .iconst 0, 1), (71, .bipush 16, 2), (73, .invokestatic 57, 3), (76, .aload_n 1, 1), (77, .getfield 26, 3), (80, .iconst 0, 1), (81, .aload_n 0, 1), (82, .getfield 26, 3), (85, .iconst 0, 1), (86, .bipush 16, 2), (88, .invokestatic 57, 3), (91, .aload_n 1, 1), (92, .getfield 29, 3), (95, .iconst 0, 1), (96, .aload_n 0, 1), (97, .getfield 29, 3), (100, .iconst 0, 1), (101, .iconst 3, 1), (102, .invokestatic 57, 3), (105, .aload_n 0, 1), (106, .aload_n 1, 1), (107, .getfield 39, 3), (110, .putfield 39, 3), (113, .iconst 0, 1), (114, .istore_n 2, 1), (115, .iload_n 2, 1), (116, .aload_n 0, 1), (117, .getfield 39, 3), (120, .if_icmp .ge 24, 3), (123, .aload_n 0, 1), (124, .getfield 35, 3), (127, .iload_n 2, 1), (128, .aaload, 1), (129, .aload_n 1, 1), (130, .getfield 35, 3), (133, .iload_n 2, 1), (134, .aaload, 1), (135, .invokevirtual 63, 3), (138, .iinc 2 1, 3), (141, .goto (-26), 3), (144, .aload_n 0, 1), (145, .aload_n 1, 1), (146, .getfield 43, 3), (149, .putfield 43, 3), (152, .return_, 1)], [])
theorem is_X6_copyFrom : (yP Y_X6_copyFrom).all (okI (yB Y_X6_copyFrom)) = true := by decide +kernel
theorem mf_X6_copyFrom : MF Y_X6_copyFrom 1 := ⟨gw_in 836 (by decide +kernel) (by decide +kernel), gw_in 31 (by decide +kernel) (by decide +kernel), by decide, by decide +kernel⟩
def Y_X4_record : MT := (⟨"GlitchCourt$History", "record", "(LGlitchCourt$State;)V"⟩, prog_6_method_2_code, 2, none, { frames := 3, cells := 0, slots := 0, locals := 72 }, [(0, .aload_n 0, 1), (1, .getfield 11, 3), (4, .aload_n 0, 1), (5, .getfield 30, 3), (8, .aaload, 1), (9, .aload_n 1, 1), (10, .invokevirtual 33, 3), (13, .aload_n 0, 1), (14, .aload_n 0, 1), (15, .getfield 30, 3), (18, .bipush 9, 2), (20, .if_icmp .ne 7, 3), (23, .iconst 0, 1), (24, .goto 9, 3), (27, .aload_n 0, 1), (28, .getfield 30, 3), (31, .iconst 1, 1), (32, .iadd, 1), (33, .putfield 30, 3), (36, .aload_n 0, 1), (37, .aload_n 0, 1), (38, .getfield 26, 3), (41, .iconst 1, 1), (42, .iadd, 1), (43, .bipush 10, 2), (45, .invokestatic 37, 3), (48, .putfield 26, 3), (51, .return_, 1)], [])
theorem is_X4_record : (yP Y_X4_record).all (okI (yB Y_X4_record)) = true := by decide +kernel
theorem mf_X4_record : MF Y_X4_record 1 := ⟨gw_in 832 (by decide +kernel) (by decide +kernel), gw_in 30 (by decide +kernel) (by decide +kernel), by decide, by decide +kernel⟩
def Y_X4_discardAll : MT := (⟨"GlitchCourt$History", "discardAll", "()V"⟩, prog_6_method_6_code, 1, none, { frames := 0, cells := 0, slots := 0, locals := 0 }, [(0, .aload_n 0, 1), (1, .iconst 0, 1), (2, .putfield 26, 3), (5, .aload_n 0, 1), (6, .iconst 0, 1), (7, .putfield 22, 3), (10, .return_, 1)], [])
theorem is_X4_discardAll : (yP Y_X4_discardAll).all (okI (yB Y_X4_discardAll)) = true := by decide +kernel
theorem mf_X4_discardAll : MF Y_X4_discardAll 0 := ⟨gw_in 744 (by decide +kernel) (by decide +kernel), gw_in 30 (by decide +kernel) (by decide +kernel), by decide, by decide +kernel⟩
def Y_X6_settledTimes : MT := (⟨"GlitchCourt$State", "settledTimes", "(I)I"⟩, prog_8_method_4_code, 2, (Option.some FieldType.int), { frames := 1, cells := 0, slots := 0, locals := 21 }, [(0, .aload_n 0, 1), (1, .getfield 20, 3), (4, .iload_n 1, 1), (5, .laload, 1), (6, .invokestatic 67, 3), (9, .ireturn, 1)], [])
theorem is_X6_settledTimes : (yP Y_X6_settledTimes).all (okI (yB Y_X6_settledTimes)) = true := by decide +kernel
theorem mf_X6_settledTimes : MF Y_X6_settledTimes 1 := ⟨gw_in 913 (by decide +kernel) (by decide +kernel), gw_in 31 (by decide +kernel) (by decide +kernel), by decide, by decide +kernel⟩
def Y_X6_ruledTimes : MT := (⟨"GlitchCourt$State", "ruledTimes", "(I)I"⟩, prog_8_method_5_code, 2, (Option.some FieldType.int), { frames := 1, cells := 0, slots := 0, locals := 21 }, [(0, .aload_n 0, 1), (1, .getfield 23, 3), (4, .iload_n 1, 1), (5, .laload, 1), (6, .aload_n 0, 1), (7, .getfield 20, 3), (10, .iload_n 1, 1), (11, .laload, 1), (12, .ldc2_w 73, 3), (15, .lxor, 1), (16, .land, 1), (17, .invokestatic 67, 3), (20, .ireturn, 1)], [])
theorem is_X6_ruledTimes : (yP Y_X6_ruledTimes).all (okI (yB Y_X6_ruledTimes)) = true := by decide +kernel
theorem mf_X6_ruledTimes : MF Y_X6_ruledTimes 1 := ⟨gw_in 918 (by decide +kernel) (by decide +kernel), gw_in 31 (by decide +kernel) (by decide +kernel), by decide, by decide +kernel⟩
def Y_X6_timeState : MT := (⟨"GlitchCourt$State", "timeState", "(II)I"⟩, prog_8_method_6_code, 3, (Option.some FieldType.int), { frames := 1, cells := 0, slots := 0, locals := 22 }, [(0, .aload_n 0, 1), (1, .getfield 20, 3), (4, .iload_n 1, 1), (5, .laload, 1), (6, .iload_n 2, 1), (7, .invokestatic 75, 3), (10, .iconst 1, 1), (11, .if_icmp .ne 5, 3), (14, .iconst 2, 1), (15, .ireturn, 1), (16, .aload_n 0, 1), (17, .getfield 23, 3), (20, .iload_n 1, 1), (21, .laload, 1), (22, .iload_n 2, 1), (23, .invokestatic 75, 3), (26, .ireturn, 1)], [])
theorem is_X6_timeState : (yP Y_X6_timeState).all (okI (yB Y_X6_timeState)) = true := by decide +kernel
theorem mf_X6_timeState : MF Y_X6_timeState 2 := ⟨gw_in 1023 (by decide +kernel) (by decide +kernel), gw_in 31 (by decide +kernel) (by decide +kernel), by decide, by decide +kernel⟩
def Y_X6_hasPending : MT := (⟨"GlitchCourt$State", "hasPending", "(III)Z"⟩, prog_8_method_7_code, 7, (Option.some FieldType.boolean), { frames := 1, cells := 0, slots := 0, locals := 20 }, [(0, .iconst 0, 1), (1, .istore 4, 2), (3, .iconst 0, 1), (4, .istore 5, 2), (6, .iload 5, 2), (8, .aload_n 0, 1), (9, .getfield 39, 3), (12, .if_icmp .ge 63, 3), (15, .aload_n 0, 1), (16, .getfield 35, 3), (19, .iload 5, 2), (21, .aaload, 1), (22, .astore 6, 2), (24, .iload 4, 2), (26, .aload 6, 2), (28, .invokevirtual 79, 3), (31, .ifCond .eq 34, 3), (34, .aload 6, 2), (36, .getfield 83, 3), (39, .iload_n 1, 1), (40, .if_icmp .ne 25, 3), (43, .aload 6, 2), (45, .getfield 86, 3), (48, .iload_n 3, 1), (49, .if_icmp .gt 16, 3), (52, .aload 6, 2), (54, .getfield 89, 3), (57, .iload_n 2, 1), (58, .if_icmp .lt 7, 3), (61, .iconst 1, 1), (62, .goto 4, 3), (65, .iconst 0, 1), (66, .ior, 1), (67, .istore 4, 2), (69, .iinc 5 1, 3), (72, .goto (-66), 3), (75, .iload 4, 2), (77, .ireturn, 1)], [])
theorem is_X6_hasPending : (yP Y_X6_hasPending).all (okI (yB Y_X6_hasPending)) = true := by decide +kernel
theorem mf_X6_hasPending : MF Y_X6_hasPending 3 := ⟨gw_in 949 (by decide +kernel) (by decide +kernel), gw_in 31 (by decide +kernel) (by decide +kernel), by decide, by decide +kernel⟩
def Y_X6_payCourt : MT := (⟨"GlitchCourt$State", "payCourt", "(II)V"⟩, prog_8_method_8_code, 3, none, { frames := 0, cells := 0, slots := 0, locals := 0 }, [(0, .aload_n 0, 1), (1, .getfield 29, 3), (4, .iload_n 1, 1), (5, .dup2, 1), (6, .iaload, 1), (7, .iload_n 2, 1), (8, .isub, 1), (9, .iastore, 1), (10, .aload_n 0, 1), (11, .getfield 29, 3), (14, .iconst 2, 1), (15, .dup2, 1), (16, .iaload, 1), (17, .iload_n 2, 1), (18, .iadd, 1), (19, .iastore, 1), (20, .return_, 1)], [])
theorem is_X6_payCourt : (yP Y_X6_payCourt).all (okI (yB Y_X6_payCourt)) = true := by decide +kernel
theorem mf_X6_payCourt : MF Y_X6_payCourt 2 := ⟨gw_in 976 (by decide +kernel) (by decide +kernel), gw_in 31 (by decide +kernel) (by decide +kernel), by decide, by decide +kernel⟩
def Y_X7_begin : MT := (⟨"GlitchCourt$Tokens", "begin", "([BI)V"⟩, prog_9_method_2_code, 3, none, { frames := 3, cells := 0, slots := 0, locals := 61 }, [(0, .aload_n 0, 1), (1, .aload_n 1, 1), (2, .putfield 9, 3), (5, .aload_n 0, 1), (6, .iload_n 2, 1), (7, .aload_n 1, 1), (8, .arraylength, 1), (9, .invokestatic 37, 3), (12, .putfield 15, 3), (15, .aload_n 0, 1), (16, .iconst 0, 1), (17, .putfield 22, 3), (20, .aload_n 0, 1), (21, .iconst 0, 1), (22, .putfield 31, 3), (25, .aload_n 0, 1), (26, .iconst (-1), 1), (27, .putfield 34, 3), (30, .aload_n 0, 1), (31, .invokevirtual 43, 3), (34, .return_, 1)], [])
theorem is_X7_begin : (yP Y_X7_begin).all (okI (yB Y_X7_begin)) = true := by decide +kernel
theorem mf_X7_begin : MF Y_X7_begin 2 := ⟨gw_in 564 (by decide +kernel) (by decide +kernel), gw_in 33 (by decide +kernel) (by decide +kernel), by decide, by decide +kernel⟩
def Y_X8_putBytes : MT := (⟨"GlitchCourt", "putBytes", "(I)V"⟩, prog_1_method_3_code, 3, none, { frames := 0, cells := 0, slots := 0, locals := 0 }, [(0, .bipush 24, 2), (2, .istore_n 2, 1), (3, .iload_n 2, 1), (4, .ifCond .lt 42, 3), (7, .aload_n 0, 1), (8, .getfield 47, 3), (11, .sipush 600, 3), (14, .if_icmp .ge 32, 3), (17, .aload_n 0, 1), (18, .getfield 30, 3), (21, .aload_n 0, 1), (22, .getfield 47, 3), (25, .iload_n 1, 1), (26, .iload_n 2, 1), (27, .iushr, 1), (28, .i2b, 1), (29, .bastore, 1), (30, .aload_n 0, 1), (31, .dup, 1), (32, .getfield 47, 3), (35, .iconst 1, 1), (36, .iadd, 1), (37, .putfield 47, 3), (40, .iinc 2 (-8), 3), (43, .goto (-40), 3), (46, .return_, 1)], [])
theorem is_X8_putBytes : (yP Y_X8_putBytes).all (okI (yB Y_X8_putBytes)) = true := by decide +kernel
theorem mf_X8_putBytes : MF Y_X8_putBytes 1 := ⟨gw_in 490 (by decide +kernel) (by decide +kernel), gw_in 29 (by decide +kernel) (by decide +kernel), by decide, by decide +kernel⟩
def Y_X8_feed : MT := (⟨"GlitchCourt", "feed", "(IIIII)I"⟩, prog_1_method_2_code, 6, (Option.some FieldType.int), { frames := 1, cells := 0, slots := 0, locals := 22 }, [(0, .aload_n 0, 1), (1, .getfield 47, 3), (4, .sipush 580, 3), (7, .if_icmp .le 5, 3), (10, .iconst (-1), 1), (11, .ireturn, 1), (12, .aload_n 0, 1), (13, .iload_n 1, 1), (14, .invokevirtual 57, 3), (17, .aload_n 0, 1), (18, .iload_n 2, 1), (19, .invokevirtual 57, 3), (22, .aload_n 0, 1), (23, .iload_n 3, 1), (24, .invokevirtual 57, 3), (27, .aload_n 0, 1), (28, .iload 4, 2), (30, .invokevirtual 57, 3), (33, .aload_n 0, 1), (34, .iload 5, 2), (36, .invokevirtual 57, 3), (39, .aload_n 0, 1), (40, .getfield 47, 3), (43, .ireturn, 1)], [])
theorem is_X8_feed : (yP Y_X8_feed).all (okI (yB Y_X8_feed)) = true := by decide +kernel
theorem mf_X8_feed : MF Y_X8_feed 5 := ⟨gw_in 486 (by decide +kernel) (by decide +kernel), gw_in 29 (by decide +kernel) (by decide +kernel), by decide, by decide +kernel⟩
def Y_X8_load : MT := (⟨"GlitchCourt", "load", "(I)I"⟩, prog_1_method_4_code, 3, (Option.some FieldType.int), { frames := 10, cells := 0, slots := 0, locals := 220 }, [(0, .iload_n 1, 1), (1, .ifCond .lt 11, 3), (4, .iload_n 1, 1), (5, .aload_n 0, 1), (6, .getfield 47, 3), (9, .if_icmp .le 13, 3), (12, .new 61, 3), (15, .dup, 1), (16, .ldc 63, 2), (18, .invokespecial 65, 3), (21, .athrow, 1), (22, .aload_n 0, 1), (23, .getfield 19, 3), (26, .aload_n 0, 1), (27, .getfield 30, 3), (30, .iload_n 1, 1), (31, .invokevirtual 68, 3), (34, .aload_n 0, 1), (35, .getfield 44, 3), (38, .invokevirtual 72, 3), (41, .aload_n 0, 1), (42, .getfield 19, 3), (45, .aload_n 0, 1), (46, .getfield 44, 3), (49, .invokestatic 75, 3), (52, .aload_n 0, 1), (53, .iconst 0, 1), (54, .putfield 47, 3), (57, .aload_n 0, 1), (58, .aload_n 0, 1), (59, .getfield 19, 3), (62, .getfield 81, 3), (65, .putfield 54, 3), (68, .aload_n 0, 1), (69, .getfield 19, 3), (72, .invokevirtual 82, 3), (75, .ifCond .eq 14, 3), (78, .bipush (-10), 2), (80, .aload_n 0, 1), (81, .getfield 19, 3), (84, .getfield 86, 3), (87, .isub, 1), (88, .ireturn, 1), (89, .aload_n 0, 1), (90, .getfield 40, 3), (93, .astore_n 2, 1), (94, .aload_n 0, 1), (95, .aload_n 0, 1), (96, .getfield 44, 3), (99, .putfield 40, 3), (102, .aload_n 0, 1), (103, .aload_n 2, 1), (104, .putfield 44, 3), (107, .aload_n 0, 1), (108, .getfield 40, 3), (111, .invokevirtual 89, 3), (114, .aload_n 0, 1), (115, .getfield 10, 3), (118, .invokevirtual 92, 3), (121, .aload_n 0, 1), (122, .getfield 40, 3), (125, .getfield 95, 3), (128, .invokevirtual 99, 3), (131, .ireturn, 1)], [])
theorem is_X8_load : (yP Y_X8_load).all (okI (yB Y_X8_load)) = true := by decide +kernel
theorem mf_X8_load : MF Y_X8_load 1 := ⟨gw_in 494 (by decide +kernel) (by decide +kernel), gw_in 29 (by decide +kernel) (by decide +kernel), by decide, by decide +kernel⟩
def Y_X8_errorPosition : MT := (⟨"GlitchCourt", "errorPosition", "()I"⟩, prog_1_method_5_code, 1, (Option.some FieldType.int), { frames := 0, cells := 0, slots := 0, locals := 0 }, [(0, .aload_n 0, 1), (1, .getfield 54, 3), (4, .ireturn, 1)], [])
theorem is_X8_errorPosition : (yP Y_X8_errorPosition).all (okI (yB Y_X8_errorPosition)) = true := by decide +kernel
theorem mf_X8_errorPosition : MF Y_X8_errorPosition 0 := ⟨gw_in 773 (by decide +kernel) (by decide +kernel), gw_in 29 (by decide +kernel) (by decide +kernel), by decide, by decide +kernel⟩
def Y_X8_size : MT := (⟨"GlitchCourt", "size", "(I)I"⟩, prog_1_method_6_code, 2, (Option.some FieldType.int), { frames := 6, cells := 0, slots := 0, locals := 90 }, [(0, .iload_n 1, 1), (1, .tableswitch 171 0 9 #[55, 66, 77, 88, 99, 110, 121, 132, 145, 158], 55), (56, .aload_n 0, 1), (57, .getfield 40, 3), (60, .getfield 95, 3), (63, .getfield 105, 3), (66, .ireturn, 1), (67, .aload_n 0, 1), (68, .getfield 40, 3), (71, .getfield 95, 3), (74, .getfield 108, 3), (77, .ireturn, 1), (78, .aload_n 0, 1), (79, .getfield 40, 3), (82, .getfield 95, 3), (85, .getfield 111, 3), (88, .ireturn, 1), (89, .aload_n 0, 1), (90, .getfield 40, 3), (93, .getfield 114, 3), (96, .getfield 118, 3), (99, .ireturn, 1), (100, .aload_n 0, 1), (101, .getfield 40, 3), (104, .getfield 95, 3), (107, .getfield 123, 3), (110, .ireturn, 1), (111, .aload_n 0, 1), (112, .getfield 40, 3), (115, .getfield 95, 3), (118, .getfield 126, 3), (121, .ireturn, 1), (122, .aload_n 0, 1), (123, .getfield 40, 3), (126, .getfield 114, 3), (129, .getfield 129, 3), (132, .ireturn, 1), (133, .aload_n 0, 1), (134, .getfield 40, 3), (137, .getfield 114, 3), (140, .getfield 132, 3), (143, .iconst 0, 1), (144, .iaload, 1), (145, .ireturn, 1), (146, .aload_n 0, 1), (147, .getfield 40, 3), (150, .getfield 114, 3), (153, .getfield 132, 3), (156, .iconst 1, 1), (157, .iaload, 1), (158, .ireturn, 1), (159, .aload_n 0, 1), (160, .getfield 40, 3), (163, .getfield 114, 3), (166, .getfield 132, 3), (169, .iconst 2, 1), (170, .iaload, 1), (171, .ireturn, 1), (172, .new 136, 3), (175, .dup, 1), (176, .ldc 138, 2), (178, .invokespecial 140, 3), (181, .athrow, 1)], [])
theorem is_X8_size : (yP Y_X8_size).all (okI (yB Y_X8_size)) = true := by decide +kernel
theorem mf_X8_size : MF Y_X8_size 1 := ⟨gw_in 753 (by decide +kernel) (by decide +kernel), gw_in 29 (by decide +kernel) (by decide +kernel), by decide, by decide +kernel⟩
def Y_X8_requireGate : MT := (⟨"GlitchCourt", "requireGate", "(I)V"⟩, prog_1_method_8_code, 2, none, { frames := 6, cells := 0, slots := 0, locals := 90 }, [(0, .aload_n 0, 1), (1, .getfield 40, 3), (4, .getfield 95, 3), (7, .iload_n 1, 1), (8, .invokevirtual 170, 3), (11, .ifCond .ne 13, 3), (14, .new 136, 3), (17, .dup, 1), (18, .ldc 174, 2), (20, .invokespecial 140, 3), (23, .athrow, 1), (24, .return_, 1)], [])
theorem is_X8_requireGate : (yP Y_X8_requireGate).all (okI (yB Y_X8_requireGate)) = true := by decide +kernel
theorem mf_X8_requireGate : MF Y_X8_requireGate 1 := ⟨gw_in 796 (by decide +kernel) (by decide +kernel), gw_in 29 (by decide +kernel) (by decide +kernel), by decide, by decide +kernel⟩
def Y_X8_gate : MT := (⟨"GlitchCourt", "gate", "(II)I"⟩, prog_1_method_7_code, 3, (Option.some FieldType.int), { frames := 7, cells := 0, slots := 0, locals := 111 }, [(0, .aload_n 0, 1), (1, .iload_n 1, 1), (2, .invokevirtual 141, 3), (5, .iload_n 2, 1), (6, .tableswitch 183 0 9 #[54, 67, 80, 93, 108, 123, 138, 150, 162, 174], 54), (60, .aload_n 0, 1), (61, .getfield 40, 3), (64, .getfield 95, 3), (67, .getfield 144, 3), (70, .iload_n 1, 1), (71, .iaload, 1), (72, .ireturn, 1), (73, .aload_n 0, 1), (74, .getfield 40, 3), (77, .getfield 95, 3), (80, .getfield 147, 3), (83, .iload_n 1, 1), (84, .iaload, 1), (85, .ireturn, 1), (86, .aload_n 0, 1), (87, .getfield 40, 3), (90, .getfield 95, 3), (93, .getfield 150, 3), (96, .iload_n 1, 1), (97, .iaload, 1), (98, .ireturn, 1), (99, .aload_n 0, 1), (100, .getfield 40, 3), (103, .getfield 114, 3), (106, .getfield 153, 3), (109, .iconst 0, 1), (110, .aaload, 1), (111, .iload_n 1, 1), (112, .iaload, 1), (113, .ireturn, 1), (114, .aload_n 0, 1), (115, .getfield 40, 3), (118, .getfield 114, 3), (121, .getfield 153, 3), (124, .iconst 1, 1), (125, .aaload, 1), (126, .iload_n 1, 1), (127, .iaload, 1), (128, .ireturn, 1), (129, .aload_n 0, 1), (130, .getfield 40, 3), (133, .getfield 114, 3), (136, .getfield 153, 3), (139, .iconst 2, 1), (140, .aaload, 1), (141, .iload_n 1, 1), (142, .iaload, 1), (143, .ireturn, 1), (144, .aload_n 0, 1), (145, .getfield 40, 3), (148, .getfield 95, 3), (151, .iload_n 1, 1), (152, .invokevirtual 157, 3), (155, .ireturn, 1), (156, .aload_n 0, 1), (157, .getfield 40, 3), (160, .getfield 114, 3), (163, .iload_n 1, 1), (164, .invokevirtual 161, 3), (167, .ireturn, 1), (168, .aload_n 0, 1), (169, .getfield 40, 3), (172, .getfield 114, 3), (175, .iload_n 1, 1), (176, .invokevirtual 164, 3), (179, .ireturn, 1), (180, .aload_n 0, 1), (181, .getfield 40, 3), (184, .iload_n 1, 1), (185, .invokevirtual 167, 3), (188, .ireturn, 1), (189, .new 136, 3), (192, .dup, 1), (193, .ldc 138, 2), (195, .invokespecial 140, 3), (198, .athrow, 1)], [])
theorem is_X8_gate : (yP Y_X8_gate).all (okI (yB Y_X8_gate)) = true := by decide +kernel
theorem mf_X8_gate : MF Y_X8_gate 2 := ⟨gw_in 908 (by decide +kernel) (by decide +kernel), gw_in 29 (by decide +kernel) (by decide +kernel), by decide, by decide +kernel⟩
def Y_X8_requireNet : MT := (⟨"GlitchCourt", "requireNet", "(I)V"⟩, prog_1_method_9_code, 2, none, { frames := 6, cells := 0, slots := 0, locals := 90 }, [(0, .aload_n 0, 1), (1, .getfield 40, 3), (4, .getfield 95, 3), (7, .iload_n 1, 1), (8, .invokevirtual 176, 3), (11, .ifCond .ne 13, 3), (14, .new 136, 3), (17, .dup, 1), (18, .ldc 179, 2), (20, .invokespecial 140, 3), (23, .athrow, 1), (24, .return_, 1)], [])
theorem is_X8_requireNet : (yP Y_X8_requireNet).all (okI (yB Y_X8_requireNet)) = true := by decide +kernel
theorem mf_X8_requireNet : MF Y_X8_requireNet 1 := ⟨gw_in 1009 (by decide +kernel) (by decide +kernel), gw_in 29 (by decide +kernel) (by decide +kernel), by decide, by decide +kernel⟩
def Y_X8_requireTimes : MT := (⟨"GlitchCourt", "requireTimes", "(II)V"⟩, prog_1_method_10_code, 3, none, { frames := 6, cells := 0, slots := 0, locals := 90 }, [(0, .aload_n 0, 1), (1, .getfield 40, 3), (4, .getfield 95, 3), (7, .iload_n 1, 1), (8, .invokevirtual 181, 3), (11, .ifCond .eq 22, 3), (14, .aload_n 0, 1), (15, .getfield 40, 3), (18, .getfield 95, 3), (21, .iload_n 2, 1), (22, .invokevirtual 181, 3), (25, .ifCond .eq 8, 3), (28, .iload_n 2, 1), (29, .iload_n 1, 1), (30, .if_icmp .ge 13, 3), (33, .new 61, 3), (36, .dup, 1), (37, .ldc 184, 2), (39, .invokespecial 65, 3), (42, .athrow, 1), (43, .return_, 1)], [])
theorem is_X8_requireTimes : (yP Y_X8_requireTimes).all (okI (yB Y_X8_requireTimes)) = true := by decide +kernel
theorem mf_X8_requireTimes : MF Y_X8_requireTimes 2 := ⟨gw_in 805 (by decide +kernel) (by decide +kernel), gw_in 29 (by decide +kernel) (by decide +kernel), by decide, by decide +kernel⟩
def Y_X8_requireWave : MT := (⟨"GlitchCourt", "requireWave", "(II)J"⟩, prog_1_method_11_code, 3, (Option.some FieldType.long), { frames := 7, cells := 0, slots := 0, locals := 111 }, [(0, .aload_n 0, 1), (1, .iload_n 1, 1), (2, .invokevirtual 186, 3), (5, .iload_n 2, 1), (6, .tableswitch 56 0 2 #[26, 36, 46], 26), (32, .aload_n 0, 1), (33, .getfield 40, 3), (36, .getfield 189, 3), (39, .iload_n 1, 1), (40, .laload, 1), (41, .lreturn, 1), (42, .aload_n 0, 1), (43, .getfield 40, 3), (46, .getfield 193, 3), (49, .iload_n 1, 1), (50, .laload, 1), (51, .lreturn, 1), (52, .aload_n 0, 1), (53, .getfield 40, 3), (56, .getfield 196, 3), (59, .iload_n 1, 1), (60, .laload, 1), (61, .lreturn, 1), (62, .new 136, 3), (65, .dup, 1), (66, .ldc 199, 2), (68, .invokespecial 140, 3), (71, .athrow, 1)], [])
theorem is_X8_requireWave : (yP Y_X8_requireWave).all (okI (yB Y_X8_requireWave)) = true := by decide +kernel
theorem mf_X8_requireWave : MF Y_X8_requireWave 2 := ⟨gw_in 1005 (by decide +kernel) (by decide +kernel), gw_in 29 (by decide +kernel) (by decide +kernel), by decide, by decide +kernel⟩
def Y_X8_stateAt : MT := (⟨"GlitchCourt", "stateAt", "(II)I"⟩, prog_1_method_13_code, 3, (Option.some FieldType.int), { frames := 7, cells := 0, slots := 0, locals := 111 }, [(0, .aload_n 0, 1), (1, .iload_n 1, 1), (2, .invokevirtual 186, 3), (5, .aload_n 0, 1), (6, .getfield 40, 3), (9, .getfield 95, 3), (12, .iload_n 2, 1), (13, .invokevirtual 181, 3), (16, .ifCond .ne 13, 3), (19, .new 136, 3), (22, .dup, 1), (23, .ldc 205, 2), (25, .invokespecial 140, 3), (28, .athrow, 1), (29, .aload_n 0, 1), (30, .getfield 40, 3), (33, .getfield 114, 3), (36, .iload_n 1, 1), (37, .iload_n 2, 1), (38, .invokevirtual 211, 3), (41, .ireturn, 1)], [])
theorem is_X8_stateAt : (yP Y_X8_stateAt).all (okI (yB Y_X8_stateAt)) = true := by decide +kernel
theorem mf_X8_stateAt : MF Y_X8_stateAt 2 := ⟨gw_in 1019 (by decide +kernel) (by decide +kernel), gw_in 29 (by decide +kernel) (by decide +kernel), by decide, by decide +kernel⟩
def Y_X8_wave : MT := (⟨"GlitchCourt", "wave", "(II)J"⟩, prog_1_method_14_code, 3, (Option.some FieldType.long), { frames := 8, cells := 0, slots := 0, locals := 133 }, [(0, .aload_n 0, 1), (1, .iload_n 1, 1), (2, .iload_n 2, 1), (3, .invokevirtual 201, 3), (6, .lreturn, 1)], [])
theorem is_X8_wave : (yP Y_X8_wave).all (okI (yB Y_X8_wave)) = true := by decide +kernel
theorem mf_X8_wave : MF Y_X8_wave 2 := ⟨gw_in 1001 (by decide +kernel) (by decide +kernel), gw_in 29 (by decide +kernel) (by decide +kernel), by decide, by decide +kernel⟩
def Y_X8_dependsOn : MT := (⟨"GlitchCourt", "dependsOn", "(I)I"⟩, prog_1_method_22_code, 2, (Option.some FieldType.int), { frames := 7, cells := 0, slots := 0, locals := 111 }, [(0, .aload_n 0, 1), (1, .iload_n 1, 1), (2, .invokevirtual 141, 3), (5, .aload_n 0, 1), (6, .getfield 40, 3), (9, .getfield 95, 3), (12, .getfield 235, 3), (15, .iload_n 1, 1), (16, .iaload, 1), (17, .ireturn, 1)], [])
theorem is_X8_dependsOn : (yP Y_X8_dependsOn).all (okI (yB Y_X8_dependsOn)) = true := by decide +kernel
theorem mf_X8_dependsOn : MF Y_X8_dependsOn 1 := ⟨gw_in 1028 (by decide +kernel) (by decide +kernel), gw_in 29 (by decide +kernel) (by decide +kernel), by decide, by decide +kernel⟩
def Y_X8_requirePulse : MT := (⟨"GlitchCourt", "requirePulse", "(II)I"⟩, prog_1_method_25_code, 4, (Option.some FieldType.int), { frames := 7, cells := 0, slots := 0, locals := 111 }, [(0, .aload_n 0, 1), (1, .iload_n 1, 1), (2, .invokevirtual 141, 3), (5, .aload_n 0, 1), (6, .getfield 40, 3), (9, .iload_n 1, 1), (10, .iload_n 2, 1), (11, .invokevirtual 244, 3), (14, .istore_n 3, 1), (15, .iload_n 3, 1), (16, .iconst (-1), 1), (17, .if_icmp .ne 13, 3), (20, .new 136, 3), (23, .dup, 1), (24, .ldc 247, 2), (26, .invokespecial 140, 3), (29, .athrow, 1), (30, .iload_n 3, 1), (31, .ireturn, 1)], [])
theorem is_X8_requirePulse : (yP Y_X8_requirePulse).all (okI (yB Y_X8_requirePulse)) = true := by decide +kernel
theorem mf_X8_requirePulse : MF Y_X8_requirePulse 2 := ⟨gw_in 935 (by decide +kernel) (by decide +kernel), gw_in 29 (by decide +kernel) (by decide +kernel), by decide, by decide +kernel⟩
def Y_X8_requireDispute : MT := (⟨"GlitchCourt", "requireDispute", "(I)LGlitchCourt$Dispute;"⟩, prog_1_method_26_code, 2, (Option.some (FieldType.object "GlitchCourt$Dispute")), { frames := 6, cells := 0, slots := 0, locals := 90 }, [(0, .iload_n 1, 1), (1, .ifCond .lt 17, 3), (4, .iload_n 1, 1), (5, .aload_n 0, 1), (6, .getfield 40, 3), (9, .getfield 114, 3), (12, .getfield 129, 3), (15, .if_icmp .lt 13, 3), (18, .new 136, 3), (21, .dup, 1), (22, .ldc 249, 2), (24, .invokespecial 140, 3), (27, .athrow, 1), (28, .aload_n 0, 1), (29, .getfield 40, 3), (32, .getfield 114, 3), (35, .getfield 251, 3), (38, .iload_n 1, 1), (39, .aaload, 1), (40, .areturn, 1)], [])
theorem is_X8_requireDispute : (yP Y_X8_requireDispute).all (okI (yB Y_X8_requireDispute)) = true := by decide +kernel
theorem mf_X8_requireDispute : MF Y_X8_requireDispute 1 := ⟨gw_in 959 (by decide +kernel) (by decide +kernel), gw_in 29 (by decide +kernel) (by decide +kernel), by decide, by decide +kernel⟩
def Y_X8_cost : MT := (⟨"GlitchCourt", "cost", "(III)I"⟩, prog_1_method_30_code, 4, (Option.some FieldType.int), { frames := 7, cells := 0, slots := 0, locals := 112 }, [(0, .aload_n 0, 1), (1, .iload_n 1, 1), (2, .invokevirtual 141, 3), (5, .aload_n 0, 1), (6, .iload_n 2, 1), (7, .iload_n 3, 1), (8, .invokevirtual 302, 3), (11, .aload_n 0, 1), (12, .getfield 40, 3), (15, .iload_n 1, 1), (16, .iload_n 2, 1), (17, .iload_n 3, 1), (18, .invokevirtual 261, 3), (21, .ireturn, 1)], [])
theorem is_X8_cost : (yP Y_X8_cost).all (okI (yB Y_X8_cost)) = true := by decide +kernel
theorem mf_X8_cost : MF Y_X8_cost 3 := ⟨gw_in 792 (by decide +kernel) (by decide +kernel), gw_in 29 (by decide +kernel) (by decide +kernel), by decide, by decide +kernel⟩
def Y_X8_open : MT := (⟨"GlitchCourt", "open", "(IIIZ)I"⟩, prog_1_method_36_code, 8, (Option.some FieldType.int), { frames := 8, cells := 0, slots := 0, locals := 134 }, [(0, .aload_n 0, 1), (1, .iload_n 2, 1), (2, .iload_n 3, 1), (3, .invokevirtual 255, 3), (6, .istore 5, 2), (8, .iload_n 1, 1), (9, .ifCond .eq 19, 3), (12, .iload_n 1, 1), (13, .iconst 1, 1), (14, .if_icmp .eq 14, 3), (17, .new 61, 3), (20, .dup, 1), (21, .ldc_w 316, 3), (24, .invokespecial 65, 3), (27, .athrow, 1), (28, .aload_n 0, 1), (29, .getfield 40, 3), (32, .iload_n 2, 1), (33, .iload 5, 2), (35, .invokevirtual 258, 3), (38, .istore 6, 2), (40, .aload_n 0, 1), (41, .getfield 40, 3), (44, .getfield 114, 3), (47, .iload_n 2, 1), (48, .iload 5, 2), (50, .iload 6, 2), (52, .invokevirtual 317, 3), (55, .ifCond .eq 6, 3), (58, .bipush (-2), 2), (60, .ireturn, 1), (61, .aload_n 0, 1), (62, .getfield 40, 3), (65, .getfield 114, 3), (68, .getfield 129, 3), (71, .istore 7, 2), (73, .iload 7, 2), (75, .bipush 20, 2), (77, .if_icmp .lt 6, 3), (80, .bipush (-3), 2), (82, .ireturn, 1), (83, .aload_n 0, 1), (84, .getfield 10, 3), (87, .aload_n 0, 1), (88, .getfield 40, 3), (91, .getfield 114, 3), (94, .invokevirtual 321, 3), (97, .aload_n 0, 1), (98, .getfield 40, 3), (101, .getfield 114, 3), (104, .dup, 1), (105, .getfield 129, 3), (108, .iconst 1, 1), (109, .iadd, 1), (110, .putfield 129, 3), (113, .aload_n 0, 1), (114, .getfield 40, 3), (117, .getfield 114, 3), (120, .getfield 251, 3), (123, .iload 7, 2), (125, .aaload, 1), (126, .iload_n 2, 1), (127, .iload 5, 2), (129, .iload 6, 2), (131, .aload_n 0, 1), (132, .getfield 40, 3), (135, .getfield 189, 3), (138, .iload_n 2, 1), (139, .laload, 1), (140, .iload 5, 2), (142, .invokestatic 207, 3), (145, .iload_n 1, 1), (146, .iload 4, 2), (148, .invokevirtual 325, 3), (151, .iload 7, 2), (153, .ireturn, 1)], [])
theorem is_X8_open : (yP Y_X8_open).all (okI (yB Y_X8_open)) = true := by decide +kernel
theorem mf_X8_open : MF Y_X8_open 4 := ⟨gw_in 931 (by decide +kernel) (by decide +kernel), gw_in 29 (by decide +kernel) (by decide +kernel), by decide, by decide +kernel⟩
def Y_X8_judge : MT := (⟨"GlitchCourt", "judge", "(I)I"⟩, prog_1_method_37_code, 6, (Option.some FieldType.int), { frames := 7, cells := 0, slots := 0, locals := 111 }, [(0, .aload_n 0, 1), (1, .iload_n 1, 1), (2, .invokevirtual 268, 3), (5, .astore_n 2, 1), (6, .aload_n 2, 1), (7, .getfield 292, 3), (10, .ifCond .eq 6, 3), (13, .bipush (-2), 2), (15, .ireturn, 1), (16, .aload_n 0, 1), (17, .getfield 40, 3), (20, .aload_n 2, 1), (21, .getfield 272, 3), (24, .aload_n 2, 1), (25, .invokevirtual 329, 3), (28, .aload_n 2, 1), (29, .getfield 282, 3), (32, .invokevirtual 265, 3), (35, .istore_n 3, 1), (36, .aload_n 2, 1), (37, .iload_n 3, 1), (38, .invokevirtual 298, 3), (41, .istore 4, 2), (43, .aload_n 0, 1), (44, .getfield 40, 3), (47, .getfield 95, 3), (50, .getfield 126, 3), (53, .istore 5, 2), (55, .aload_n 0, 1), (56, .getfield 40, 3), (59, .getfield 114, 3), (62, .getfield 132, 3), (65, .iload 4, 2), (67, .iaload, 1), (68, .iload 5, 2), (70, .if_icmp .ge 6, 3), (73, .bipush (-3), 2), (75, .ireturn, 1), (76, .aload_n 0, 1), (77, .getfield 10, 3), (80, .aload_n 0, 1), (81, .getfield 40, 3), (84, .getfield 114, 3), (87, .invokevirtual 321, 3), (90, .aload_n 0, 1), (91, .getfield 40, 3), (94, .getfield 114, 3), (97, .iload 4, 2), (99, .iload 5, 2), (101, .invokevirtual 331, 3), (104, .aload_n 2, 1), (105, .iload_n 3, 1), (106, .putfield 295, 3), (109, .aload_n 2, 1), (110, .iconst 1, 1), (111, .putfield 292, 3), (114, .iload_n 3, 1), (115, .ireturn, 1)], [])
theorem is_X8_judge : (yP Y_X8_judge).all (okI (yB Y_X8_judge)) = true := by decide +kernel
theorem mf_X8_judge : MF Y_X8_judge 1 := ⟨gw_in 955 (by decide +kernel) (by decide +kernel), gw_in 29 (by decide +kernel) (by decide +kernel), by decide, by decide +kernel⟩
def Y_X8_appeal : MT := (⟨"GlitchCourt", "appeal", "(I)I"⟩, prog_1_method_38_code, 5, (Option.some FieldType.int), { frames := 7, cells := 0, slots := 0, locals := 153 }, [(0, .aload_n 0, 1), (1, .iload_n 1, 1), (2, .invokevirtual 268, 3), (5, .astore_n 2, 1), (6, .aload_n 2, 1), (7, .getfield 292, 3), (10, .iconst 1, 1), (11, .if_icmp .eq 6, 3), (14, .bipush (-2), 2), (16, .ireturn, 1), (17, .aload_n 0, 1), (18, .getfield 40, 3), (21, .aload_n 2, 1), (22, .getfield 272, 3), (25, .aload_n 2, 1), (26, .getfield 276, 3), (29, .aload_n 2, 1), (30, .getfield 279, 3), (33, .invokevirtual 261, 3), (36, .istore_n 3, 1), (37, .aload_n 0, 1), (38, .getfield 40, 3), (41, .getfield 114, 3), (44, .getfield 132, 3), (47, .aload_n 2, 1), (48, .aload_n 2, 1), (49, .getfield 295, 3), (52, .invokevirtual 298, 3), (55, .iaload, 1), (56, .iload_n 3, 1), (57, .if_icmp .ge 6, 3), (60, .bipush (-3), 2), (62, .ireturn, 1), (63, .aload_n 0, 1), (64, .getfield 10, 3), (67, .aload_n 0, 1), (68, .getfield 40, 3), (71, .getfield 114, 3), (74, .invokevirtual 321, 3), (77, .aload_n 2, 1), (78, .aload_n 0, 1), (79, .getfield 40, 3), (82, .aload_n 2, 1), (83, .invokevirtual 309, 3), (86, .putfield 295, 3), (89, .aload_n 2, 1), (90, .iconst 2, 1), (91, .putfield 292, 3), (94, .aload_n 2, 1), (95, .aload_n 2, 1), (96, .getfield 295, 3), (99, .invokevirtual 298, 3), (102, .istore 4, 2), (104, .aload_n 0, 1), (105, .getfield 40, 3), (108, .getfield 114, 3), (111, .iload 4, 2), (113, .iload_n 3, 1), (114, .aload_n 0, 1), (115, .getfield 40, 3), (118, .getfield 114, 3), (121, .getfield 132, 3), (124, .iload 4, 2), (126, .iaload, 1), (127, .invokestatic 334, 3), (130, .invokevirtual 331, 3), (133, .aload_n 0, 1), (134, .getfield 40, 3), (137, .aload_n 2, 1), (138, .getfield 272, 3), (141, .aload_n 2, 1), (142, .getfield 276, 3), (145, .aload_n 2, 1), (146, .getfield 279, 3), (149, .invokevirtual 339, 3), (152, .pop, 1), (153, .aload_n 2, 1), (154, .getfield 295, 3), (157, .ireturn, 1)], [])
theorem is_X8_appeal : (yP Y_X8_appeal).all (okI (yB Y_X8_appeal)) = true := by decide +kernel
theorem mf_X8_appeal : MF Y_X8_appeal 1 := ⟨gw_in 988 (by decide +kernel) (by decide +kernel), gw_in 29 (by decide +kernel) (by decide +kernel), by decide, by decide +kernel⟩
def Y_X8_accept : MT := (⟨"GlitchCourt", "accept", "(I)I"⟩, prog_1_method_39_code, 3, (Option.some FieldType.int), { frames := 7, cells := 0, slots := 0, locals := 155 }, [(0, .aload_n 0, 1), (1, .iload_n 1, 1), (2, .invokevirtual 268, 3), (5, .astore_n 2, 1), (6, .aload_n 2, 1), (7, .getfield 292, 3), (10, .iconst 1, 1), (11, .if_icmp .eq 6, 3), (14, .bipush (-2), 2), (16, .ireturn, 1), (17, .aload_n 0, 1), (18, .getfield 10, 3), (21, .aload_n 0, 1), (22, .getfield 40, 3), (25, .getfield 114, 3), (28, .invokevirtual 321, 3), (31, .aload_n 2, 1), (32, .iconst 3, 1), (33, .putfield 292, 3), (36, .aload_n 0, 1), (37, .getfield 40, 3), (40, .aload_n 2, 1), (41, .invokevirtual 342, 3), (44, .ireturn, 1)], [])
theorem is_X8_accept : (yP Y_X8_accept).all (okI (yB Y_X8_accept)) = true := by decide +kernel
theorem mf_X8_accept : MF Y_X8_accept 1 := ⟨gw_in 980 (by decide +kernel) (by decide +kernel), gw_in 29 (by decide +kernel) (by decide +kernel), by decide, by decide +kernel⟩
def Y_X8_replay : MT := (⟨"GlitchCourt", "replay", "(III)I"⟩, prog_1_method_40_code, 5, (Option.some FieldType.int), { frames := 7, cells := 0, slots := 0, locals := 153 }, [(0, .aload_n 0, 1), (1, .iload_n 1, 1), (2, .invokevirtual 141, 3), (5, .aload_n 0, 1), (6, .iload_n 2, 1), (7, .iload_n 3, 1), (8, .invokevirtual 302, 3), (11, .aload_n 0, 1), (12, .getfield 40, 3), (15, .iload_n 1, 1), (16, .iload_n 2, 1), (17, .iload_n 3, 1), (18, .invokevirtual 261, 3), (21, .istore 4, 2), (23, .aload_n 0, 1), (24, .getfield 40, 3), (27, .getfield 114, 3), (30, .getfield 132, 3), (33, .iconst 2, 1), (34, .iaload, 1), (35, .iload 4, 2), (37, .if_icmp .ge 6, 3), (40, .bipush (-3), 2), (42, .ireturn, 1), (43, .aload_n 0, 1), (44, .getfield 10, 3), (47, .aload_n 0, 1), (48, .getfield 40, 3), (51, .getfield 114, 3), (54, .invokevirtual 321, 3), (57, .aload_n 0, 1), (58, .getfield 40, 3), (61, .getfield 114, 3), (64, .getfield 132, 3), (67, .iconst 2, 1), (68, .dup2, 1), (69, .iaload, 1), (70, .iload 4, 2), (72, .isub, 1), (73, .iastore, 1), (74, .aload_n 0, 1), (75, .getfield 40, 3), (78, .iload_n 1, 1), (79, .iload_n 2, 1), (80, .iload_n 3, 1), (81, .invokevirtual 339, 3), (84, .ireturn, 1)], [])
theorem is_X8_replay : (yP Y_X8_replay).all (okI (yB Y_X8_replay)) = true := by decide +kernel
theorem mf_X8_replay : MF Y_X8_replay 3 := ⟨gw_in 828 (by decide +kernel) (by decide +kernel), gw_in 29 (by decide +kernel) (by decide +kernel), by decide, by decide +kernel⟩
def Y_X8_setDelay : MT := (⟨"GlitchCourt", "setDelay", "(III)I"⟩, prog_1_method_41_code, 5, (Option.some FieldType.int), { frames := 7, cells := 0, slots := 0, locals := 152 }, [(0, .aload_n 0, 1), (1, .iload_n 1, 1), (2, .invokevirtual 141, 3), (5, .iload_n 2, 1), (6, .ifCond .lt 19, 3), (9, .iload_n 2, 1), (10, .iconst 3, 1), (11, .if_icmp .ge 14, 3), (14, .iload_n 3, 1), (15, .iconst 1, 1), (16, .if_icmp .lt 9, 3), (19, .iload_n 3, 1), (20, .bipush 9, 2), (22, .if_icmp .le 14, 3), (25, .new 61, 3), (28, .dup, 1), (29, .ldc_w 345, 3), (32, .invokespecial 65, 3), (35, .athrow, 1), (36, .aload_n 0, 1), (37, .getfield 10, 3), (40, .aload_n 0, 1), (41, .getfield 40, 3), (44, .getfield 114, 3), (47, .invokevirtual 321, 3), (50, .aload_n 0, 1), (51, .getfield 40, 3), (54, .getfield 114, 3), (57, .getfield 153, 3), (60, .iload_n 2, 1), (61, .aaload, 1), (62, .iload_n 1, 1), (63, .iaload, 1), (64, .istore 4, 2), (66, .iload 4, 2), (68, .iload_n 3, 1), (69, .if_icmp .eq 27, 3), (72, .aload_n 0, 1), (73, .getfield 40, 3), (76, .getfield 114, 3), (79, .getfield 153, 3), (82, .iload_n 2, 1), (83, .aaload, 1), (84, .iload_n 1, 1), (85, .iload_n 3, 1), (86, .iastore, 1), (87, .aload_n 0, 1), (88, .getfield 40, 3), (91, .iload_n 1, 1), (92, .invokevirtual 347, 3), (95, .pop, 1), (96, .iload 4, 2), (98, .ireturn, 1)], [])
theorem is_X8_setDelay : (yP Y_X8_setDelay).all (okI (yB Y_X8_setDelay)) = true := by decide +kernel
theorem mf_X8_setDelay : MF Y_X8_setDelay 3 := ⟨gw_in 870 (by decide +kernel) (by decide +kernel), gw_in 29 (by decide +kernel) (by decide +kernel), by decide, by decide +kernel⟩
def Y_X8_toggle : MT := (⟨"GlitchCourt", "toggle", "(II)I"⟩, prog_1_method_42_code, 3, (Option.some FieldType.int), { frames := 6, cells := 0, slots := 0, locals := 152 }, [(0, .iload_n 1, 1), (1, .ifCond .lt 17, 3), (4, .iload_n 1, 1), (5, .aload_n 0, 1), (6, .getfield 40, 3), (9, .getfield 95, 3), (12, .getfield 105, 3), (15, .if_icmp .lt 14, 3), (18, .new 136, 3), (21, .dup, 1), (22, .ldc_w 350, 3), (25, .invokespecial 140, 3), (28, .athrow, 1), (29, .aload_n 0, 1), (30, .getfield 40, 3), (33, .getfield 95, 3), (36, .iload_n 2, 1), (37, .invokevirtual 181, 3), (40, .ifCond .ne 13, 3), (43, .new 61, 3), (46, .dup, 1), (47, .ldc 205, 2), (49, .invokespecial 65, 3), (52, .athrow, 1), (53, .aload_n 0, 1), (54, .getfield 10, 3), (57, .aload_n 0, 1), (58, .getfield 40, 3), (61, .getfield 114, 3), (64, .invokevirtual 321, 3), (67, .aload_n 0, 1), (68, .getfield 40, 3), (71, .getfield 114, 3), (74, .getfield 352, 3), (77, .iload_n 1, 1), (78, .dup2, 1), (79, .laload, 1), (80, .iload_n 2, 1), (81, .aload_n 0, 1), (82, .getfield 40, 3), (85, .getfield 95, 3), (88, .getfield 111, 3), (91, .invokestatic 355, 3), (94, .lxor, 1), (95, .lastore, 1), (96, .aload_n 0, 1), (97, .getfield 40, 3), (100, .iload_n 1, 1), (101, .invokevirtual 347, 3), (104, .ireturn, 1)], [])
theorem is_X8_toggle : (yP Y_X8_toggle).all (okI (yB Y_X8_toggle)) = true := by decide +kernel
theorem mf_X8_toggle : MF Y_X8_toggle 2 := ⟨gw_in 897 (by decide +kernel) (by decide +kernel), gw_in 29 (by decide +kernel) (by decide +kernel), by decide, by decide +kernel⟩
def Y_X8_deposit : MT := (⟨"GlitchCourt", "deposit", "(II)I"⟩, prog_1_method_43_code, 4, (Option.some FieldType.int), { frames := 6, cells := 0, slots := 0, locals := 93 }, [(0, .iload_n 1, 1), (1, .ifCond .lt 19, 3), (4, .iload_n 1, 1), (5, .iconst 3, 1), (6, .if_icmp .ge 14, 3), (9, .iload_n 2, 1), (10, .ifCond .lt 10, 3), (13, .iload_n 2, 1), (14, .ldc_w 358, 3), (17, .if_icmp .le 14, 3), (20, .new 61, 3), (23, .dup, 1), (24, .ldc_w 359, 3), (27, .invokespecial 65, 3), (30, .athrow, 1), (31, .aload_n 0, 1), (32, .getfield 40, 3), (35, .getfield 114, 3), (38, .getfield 132, 3), (41, .iload_n 1, 1), (42, .iaload, 1), (43, .iload_n 2, 1), (44, .iadd, 1), (45, .istore_n 3, 1), (46, .iload_n 3, 1), (47, .ldc_w 361, 3), (50, .if_icmp .le 6, 3), (53, .bipush (-3), 2), (55, .ireturn, 1), (56, .aload_n 0, 1), (57, .getfield 10, 3), (60, .aload_n 0, 1), (61, .getfield 40, 3), (64, .getfield 114, 3), (67, .invokevirtual 321, 3), (70, .aload_n 0, 1), (71, .getfield 40, 3), (74, .getfield 114, 3), (77, .getfield 132, 3), (80, .iload_n 1, 1), (81, .iload_n 3, 1), (82, .iastore, 1), (83, .iload_n 3, 1), (84, .ireturn, 1)], [])
theorem is_X8_deposit : (yP Y_X8_deposit).all (okI (yB Y_X8_deposit)) = true := by decide +kernel
theorem mf_X8_deposit : MF Y_X8_deposit 2 := ⟨gw_in 863 (by decide +kernel) (by decide +kernel), gw_in 29 (by decide +kernel) (by decide +kernel), by decide, by decide +kernel⟩
def Y_L_spaced : MT := (⟨"GlitchCourtLaw", "spaced", "(I)V"⟩, method_3_code, 3, none, { frames := 6, cells := 0, slots := 0, locals := 128 }, [(0, .aload_n 0, 1), (1, .ldc 27, 2), (3, .invokevirtual 29, 3), (6, .iconst 1, 1), (7, .istore_n 2, 1), (8, .iload_n 1, 1), (9, .iload_n 2, 1), (10, .idiv, 1), (11, .bipush 9, 2), (13, .if_icmp .le 11, 3), (16, .iload_n 2, 1), (17, .bipush 10, 2), (19, .imul, 1), (20, .istore_n 2, 1), (21, .goto (-13), 3), (24, .iload_n 2, 1), (25, .ifCond .le 39, 3), (28, .aload_n 0, 1), (29, .getfield 7, 3), (32, .aload_n 0, 1), (33, .getfield 19, 3), (36, .bipush 48, 2), (38, .iload_n 1, 1), (39, .iload_n 2, 1), (40, .idiv, 1), (41, .bipush 10, 2), (43, .irem, 1), (44, .iadd, 1), (45, .iastore, 1), (46, .aload_n 0, 1), (47, .dup, 1), (48, .getfield 19, 3), (51, .iconst 1, 1), (52, .iadd, 1), (53, .putfield 19, 3), (56, .iload_n 2, 1), (57, .bipush 10, 2), (59, .idiv, 1), (60, .istore_n 2, 1), (61, .goto (-37), 3), (64, .return_, 1)], [])
theorem is_L_spaced : (yP Y_L_spaced).all (okI (yB Y_L_spaced)) = true := by decide +kernel
theorem mf_L_spaced : MF Y_L_spaced 1 := ⟨gw_in 459 (by decide +kernel) (by decide +kernel), gw_in 28 (by decide +kernel) (by decide +kernel), by decide, by decide +kernel⟩
def Y_L_cell : MT := (⟨"GlitchCourtLaw", "cell", "([II)I"⟩, method_4_code, 2, (Option.some FieldType.int), { frames := 0, cells := 0, slots := 0, locals := 0 }, [(0, .iload_n 1, 1), (1, .aload_n 0, 1), (2, .arraylength, 1), (3, .if_icmp .ge 12, 3), (6, .aload_n 0, 1), (7, .iload_n 1, 1), (8, .iaload, 1), (9, .ldc 33, 2), (11, .iand, 1), (12, .goto 4, 3), (15, .iconst 0, 1), (16, .ireturn, 1)], [])
theorem is_L_cell : (yP Y_L_cell).all (okI (yB Y_L_cell)) = true := by decide +kernel
theorem mf_L_cell : MF Y_L_cell 2 := ⟨gw_in 401 (by decide +kernel) (by decide +kernel), gw_in 28 (by decide +kernel) (by decide +kernel), by decide, by decide +kernel⟩
def Y_L_nets : MT := (⟨"GlitchCourtLaw", "nets", "()I"⟩, method_6_code, 1, (Option.some FieldType.int), { frames := 0, cells := 0, slots := 0, locals := 0 }, [(0, .aload_n 0, 1), (1, .getfield 40, 3), (4, .aload_n 0, 1), (5, .getfield 43, 3), (8, .iadd, 1), (9, .ireturn, 1)], [])
theorem is_L_nets : (yP Y_L_nets).all (okI (yB Y_L_nets)) = true := by decide +kernel
theorem mf_L_nets : MF Y_L_nets 0 := ⟨gw_in 749 (by decide +kernel) (by decide +kernel), gw_in 28 (by decide +kernel) (by decide +kernel), by decide, by decide +kernel⟩
def Y_L_word : MT := (⟨"GlitchCourtLaw", "word", "(I)Ljava/lang/String;"⟩, method_7_code, 1, (Option.some (FieldType.object "java/lang/String")), { frames := 0, cells := 0, slots := 0, locals := 0 }, [(0, .iload_n 0, 1), (1, .ifCond .ne 8, 3), (4, .ldc 46, 2), (6, .goto 55, 3), (9, .iload_n 0, 1), (10, .iconst 1, 1), (11, .if_icmp .ne 8, 3), (14, .ldc 48, 2), (16, .goto 45, 3), (19, .iload_n 0, 1), (20, .iconst 2, 1), (21, .if_icmp .ne 8, 3), (24, .ldc 50, 2), (26, .goto 35, 3), (29, .iload_n 0, 1), (30, .iconst 3, 1), (31, .if_icmp .ne 8, 3), (34, .ldc 52, 2), (36, .goto 25, 3), (39, .iload_n 0, 1), (40, .iconst 4, 1), (41, .if_icmp .ne 8, 3), (44, .ldc 54, 2), (46, .goto 15, 3), (49, .iload_n 0, 1), (50, .iconst 5, 1), (51, .if_icmp .ne 8, 3), (54, .ldc 56, 2), (56, .goto 5, 3), (59, .ldc 58, 2), (61, .areturn, 1)], [])
theorem is_L_word : (yP Y_L_word).all (okI (yB Y_L_word)) = true := by decide +kernel
theorem mf_L_word : MF Y_L_word 1 := ⟨gw_in 469 (by decide +kernel) (by decide +kernel), gw_in 28 (by decide +kernel) (by decide +kernel), by decide, by decide +kernel⟩
def Y_L_gate : MT := (⟨"GlitchCourtLaw", "gate", "(II)V"⟩, method_8_code, 4, none, { frames := 7, cells := 0, slots := 0, locals := 150 }, [(0, .iload_n 1, 1), (1, .bipush 7, 2), (3, .irem, 1), (4, .istore_n 3, 1), (5, .aload_n 0, 1), (6, .iload_n 3, 1), (7, .invokestatic 60, 3), (10, .invokevirtual 29, 3), (13, .aload_n 0, 1), (14, .iload_n 1, 1), (15, .bipush 7, 2), (17, .idiv, 1), (18, .iload_n 2, 1), (19, .irem, 1), (20, .invokevirtual 64, 3), (23, .iload_n 3, 1), (24, .iconst 5, 1), (25, .if_icmp .ge 13, 3), (28, .aload_n 0, 1), (29, .iload_n 1, 1), (30, .bipush 91, 2), (32, .idiv, 1), (33, .iload_n 2, 1), (34, .irem, 1), (35, .invokevirtual 64, 3), (38, .aload_n 0, 1), (39, .iconst 1, 1), (40, .iload_n 1, 1), (41, .sipush 1001, 3), (44, .idiv, 1), (45, .iconst 5, 1), (46, .irem, 1), (47, .iadd, 1), (48, .invokevirtual 64, 3), (51, .aload_n 0, 1), (52, .iconst 1, 1), (53, .iload_n 1, 1), (54, .sipush 5005, 3), (57, .idiv, 1), (58, .iconst 5, 1), (59, .irem, 1), (60, .iadd, 1), (61, .invokevirtual 64, 3), (64, .aload_n 0, 1), (65, .iconst 1, 1), (66, .iload_n 1, 1), (67, .sipush 25025, 3), (70, .idiv, 1), (71, .iconst 3, 1), (72, .irem, 1), (73, .iadd, 1), (74, .invokevirtual 64, 3), (77, .aload_n 0, 1), (78, .ldc 68, 2), (80, .invokevirtual 29, 3), (83, .return_, 1)], [])
theorem is_L_gate : (yP Y_L_gate).all (okI (yB Y_L_gate)) = true := by decide +kernel
theorem mf_L_gate : MF Y_L_gate 2 := ⟨gw_in 466 (by decide +kernel) (by decide +kernel), gw_in 28 (by decide +kernel) (by decide +kernel), by decide, by decide +kernel⟩
def Y_L_tells : MT := (⟨"GlitchCourtLaw", "tells", "(LGlitchCourt;[I)Z"⟩, method_9_code, 8, (Option.some FieldType.boolean), { frames := 11, cells := 19, slots := 95, locals := 242 }, [(0, .aload_n 2, 1), (1, .iconst 0, 1), (2, .invokestatic 70, 3), (5, .istore_n 3, 1), (6, .aload_n 0, 1), (7, .bipush 10, 2), (9, .iload_n 3, 1), (10, .bipush 41, 2), (12, .irem, 1), (13, .iadd, 1), (14, .putfield 74, 3), (17, .aload_n 0, 1), (18, .iconst 1, 1), (19, .iload_n 3, 1), (20, .bipush 41, 2), (22, .idiv, 1), (23, .iconst 3, 1), (24, .irem, 1), (25, .iadd, 1), (26, .putfield 40, 3), (29, .aload_n 0, 1), (30, .iconst 1, 1), (31, .iload_n 3, 1), (32, .bipush 123, 2), (34, .idiv, 1), (35, .bipush 7, 2), (37, .irem, 1), (38, .iadd, 1), (39, .putfield 43, 3), (42, .aload_n 0, 1), (43, .iload_n 3, 1), (44, .sipush 861, 3), (47, .idiv, 1), (48, .iconst 4, 1), (49, .irem, 1), (50, .putfield 77, 3), (53, .aload_n 0, 1), (54, .iload_n 3, 1), (55, .sipush 3444, 3), (58, .idiv, 1), (59, .bipush 9, 2), (61, .irem, 1), (62, .putfield 80, 3), (65, .aload_n 0, 1), (66, .ldc 83, 2), (68, .invokevirtual 29, 3), (71, .aload_n 0, 1), (72, .aload_n 0, 1), (73, .getfield 74, 3), (76, .invokevirtual 64, 3), (79, .aload_n 0, 1), (80, .iconst 1, 1), (81, .iload_n 3, 1), (82, .sipush 30996, 3), (85, .idiv, 1), (86, .bipush 9, 2), (88, .irem, 1), (89, .iadd, 1), (90, .invokevirtual 64, 3), (93, .aload_n 0, 1), (94, .aload_n 0, 1), (95, .getfield 77, 3), (98, .invokevirtual 64, 3), (101, .aload_n 0, 1), (102, .aload_n 0, 1), (103, .getfield 80, 3), (106, .invokevirtual 64, 3), (109, .aload_n 0, 1), (110, .ldc 68, 2), (112, .invokevirtual 29, 3), (115, .iconst 0, 1), (116, .istore 4, 2), (118, .iload 4, 2), (120, .aload_n 0, 1), (121, .getfield 40, 3), (124, .if_icmp .ge 90, 3), (127, .aload_n 2, 1), (128, .iconst 1, 1), (129, .iload 4, 2), (131, .iadd, 1), (132, .invokestatic 70, 3), (135, .istore 5, 2), (137, .aload_n 0, 1), (138, .ldc 85, 2), (140, .invokevirtual 29, 3), (143, .aload_n 0, 1), (144, .iload 5, 2), (146, .iconst 2, 1), (147, .irem, 1), (148, .invokevirtual 64, 3), (151, .iconst 0, 1), (152, .istore 6, 2), (154, .iconst 0, 1), (155, .istore 7, 2), (157, .iload 7, 2), (159, .bipush 9, 2), (161, .if_icmp .ge 41, 3), (164, .iload 6, 2), (166, .iconst 1, 1), (167, .iload 5, 2), (169, .iconst 3, 1), (170, .iload 7, 2), (172, .imul, 1), (173, .ishr, 1), (174, .bipush 7, 2), (176, .iand, 1), (177, .iadd, 1), (178, .iadd, 1), (179, .istore 6, 2), (181, .iload 6, 2), (183, .aload_n 0, 1), (184, .getfield 74, 3), (187, .if_icmp .gt 9, 3), (190, .aload_n 0, 1), (191, .iload 6, 2), (193, .invokevirtual 64, 3), (196, .iinc 7 1, 3), (199, .goto (-42), 3), (202, .aload_n 0, 1), (203, .ldc 68, 2), (205, .invokevirtual 29, 3), (208, .iinc 4 1, 3), (211, .goto (-93), 3), (214, .iconst 0, 1), (215, .istore 4, 2), (217, .iload 4, 2), (219, .aload_n 0, 1), (220, .getfield 43, 3), (223, .if_icmp .ge 28, 3), (226, .aload_n 0, 1), (227, .aload_n 2, 1), (228, .iconst 4, 1), (229, .iload 4, 2), (231, .iadd, 1), (232, .invokestatic 70, 3), (235, .aload_n 0, 1), (236, .getfield 40, 3), (239, .iload 4, 2), (241, .iadd, 1), (242, .invokevirtual 87, 3), (245, .iinc 4 1, 3), (248, .goto (-31), 3), (251, .aload_n 0, 1), (252, .ldc 91, 2), (254, .invokevirtual 29, 3), (257, .aload_n 0, 1), (258, .aload_n 2, 1), (259, .bipush 11, 2), (261, .invokestatic 70, 3), (264, .sipush 300, 3), (267, .irem, 1), (268, .invokevirtual 64, 3), (271, .aload_n 0, 1), (272, .aload_n 2, 1), (273, .bipush 11, 2), (275, .invokestatic 70, 3), (278, .sipush 300, 3), (281, .idiv, 1), (282, .sipush 300, 3), (285, .irem, 1), (286, .invokevirtual 64, 3), (289, .aload_n 0, 1), (290, .aload_n 2, 1), (291, .bipush 11, 2), (293, .invokestatic 70, 3), (296, .ldc 93, 2), (298, .idiv, 1), (299, .sipush 900, 3), (302, .irem, 1), (303, .invokevirtual 64, 3), (306, .aload_n 0, 1), (307, .ldc 68, 2), (309, .invokevirtual 29, 3), (312, .aload_n 1, 1), (313, .aload_n 0, 1), (314, .aload_n 1, 1), (315, .invokevirtual 94, 3), (318, .invokevirtual 98, 3), (321, .aload_n 0, 1), (322, .invokevirtual 102, 3), (325, .if_icmp .ne 39, 3), (328, .aload_n 1, 1), (329, .iconst 0, 1), (330, .invokevirtual 105, 3), (333, .aload_n 0, 1), (334, .getfield 40, 3), (337, .if_icmp .ne 27, 3), (340, .aload_n 1, 1), (341, .iconst 1, 1), (342, .invokevirtual 105, 3), (345, .aload_n 0, 1), (346, .getfield 43, 3), (349, .if_icmp .ne 15, 3), (352, .aload_n 1, 1), (353, .iconst 2, 1), (354, .invokevirtual 105, 3), (357, .aload_n 0, 1), (358, .getfield 74, 3), (361, .if_icmp .eq 5, 3), (364, .iconst 0, 1), (365, .ireturn, 1), (366, .aload_n 1, 1), (367, .invokevirtual 107, 3), (370, .iconst (-1), 1), (371, .if_icmp .ne 40, 3), (374, .aload_n 1, 1), (375, .iconst 4, 1), (376, .invokevirtual 105, 3), (379, .aload_n 0, 1), (380, .getfield 77, 3), (383, .if_icmp .ne 28, 3), (386, .aload_n 1, 1), (387, .iconst 5, 1), (388, .invokevirtual 105, 3), (391, .aload_n 0, 1), (392, .getfield 80, 3), (395, .if_icmp .ne 16, 3), (398, .aload_n 1, 1), (399, .bipush 6, 2), (401, .invokevirtual 105, 3), (404, .ifCond .ne 7, 3), (407, .iconst 1, 1), (408, .goto 4, 3), (411, .iconst 0, 1), (412, .ireturn, 1)], [])
theorem is_L_tells : (yP Y_L_tells).all (okI (yB Y_L_tells)) = true := by decide +kernel
theorem mf_L_tells : MF Y_L_tells 2 := ⟨gw_in 398 (by decide +kernel) (by decide +kernel), gw_in 28 (by decide +kernel) (by decide +kernel), by decide, by decide +kernel⟩
def Y_L_disputes : MT := (⟨"GlitchCourtLaw", "disputes", "(LGlitchCourt;I)V"⟩, method_10_code, 6, none, { frames := 9, cells := 0, slots := 0, locals := 177 }, [(0, .aload_n 0, 1), (1, .getfield 40, 3), (4, .iload_n 2, 1), (5, .aload_n 0, 1), (6, .getfield 43, 3), (9, .irem, 1), (10, .iadd, 1), (11, .istore_n 3, 1), (12, .aload_n 1, 1), (13, .iload_n 3, 1), (14, .bipush 9, 2), (16, .invokevirtual 110, 3), (19, .istore 4, 2), (21, .iload 4, 2), (23, .ifCond .ne 4, 3), (26, .return_, 1), (27, .aload_n 1, 1), (28, .iload_n 2, 1), (29, .bipush 12, 2), (31, .idiv, 1), (32, .iconst 2, 1), (33, .irem, 1), (34, .iload_n 3, 1), (35, .iload_n 2, 1), (36, .bipush 24, 2), (38, .idiv, 1), (39, .iload 4, 2), (41, .irem, 1), (42, .iload_n 2, 1), (43, .bipush 48, 2), (45, .idiv, 1), (46, .iconst 2, 1), (47, .irem, 1), (48, .ifCond .ne 7, 3), (51, .iconst 1, 1), (52, .goto 4, 3), (55, .iconst 0, 1), (56, .invokevirtual 113, 3), (59, .istore 5, 2), (61, .iload 5, 2), (63, .ifCond .lt 12, 3), (66, .aload_n 1, 1), (67, .iload 5, 2), (69, .invokevirtual 117, 3), (72, .ifCond .ge 4, 3), (75, .return_, 1), (76, .iload_n 2, 1), (77, .bipush 96, 2), (79, .idiv, 1), (80, .iconst 3, 1), (81, .irem, 1), (82, .ifCond .ne 13, 3), (85, .aload_n 1, 1), (86, .iload 5, 2), (88, .invokevirtual 120, 3), (91, .pop, 1), (92, .goto 20, 3), (95, .iload_n 2, 1), (96, .bipush 96, 2), (98, .idiv, 1), (99, .iconst 3, 1), (100, .irem, 1), (101, .iconst 1, 1), (102, .if_icmp .ne 10, 3), (105, .aload_n 1, 1), (106, .iload 5, 2), (108, .invokevirtual 123, 3), (111, .pop, 1), (112, .return_, 1)], [])
theorem is_L_disputes : (yP Y_L_disputes).all (okI (yB Y_L_disputes)) = true := by decide +kernel
theorem mf_L_disputes : MF Y_L_disputes 2 := ⟨gw_in 904 (by decide +kernel) (by decide +kernel), gw_in 28 (by decide +kernel) (by decide +kernel), by decide, by decide +kernel⟩
def Y_L_net : MT := (⟨"GlitchCourtLaw", "net", "(I)I"⟩, method_11_code, 2, (Option.some FieldType.int), { frames := 0, cells := 0, slots := 0, locals := 0 }, [(0, .aload_n 0, 1), (1, .getfield 40, 3), (4, .iload_n 1, 1), (5, .aload_n 0, 1), (6, .getfield 43, 3), (9, .irem, 1), (10, .iadd, 1), (11, .ireturn, 1)], [])
theorem is_L_net : (yP Y_L_net).all (okI (yB Y_L_net)) = true := by decide +kernel
theorem mf_L_net : MF Y_L_net 1 := ⟨gw_in 788 (by decide +kernel) (by decide +kernel), gw_in 28 (by decide +kernel) (by decide +kernel), by decide, by decide +kernel⟩
def Y_L_purses : MT := (⟨"GlitchCourtLaw", "purses", "(LGlitchCourt;)I"⟩, method_14_code, 1, (Option.some FieldType.int), { frames := 7, cells := 0, slots := 0, locals := 111 }, [(0, .aload_n 0, 1), (1, .bipush 7, 2), (3, .invokevirtual 105, 3), (6, .aload_n 0, 1), (7, .bipush 8, 2), (9, .invokevirtual 105, 3), (12, .iadd, 1), (13, .aload_n 0, 1), (14, .bipush 9, 2), (16, .invokevirtual 105, 3), (19, .iadd, 1), (20, .ireturn, 1)], [])
theorem is_L_purses : (yP Y_L_purses).all (okI (yB Y_L_purses)) = true := by decide +kernel
theorem mf_L_purses : MF Y_L_purses 1 := ⟨gw_in 780 (by decide +kernel) (by decide +kernel), gw_in 28 (by decide +kernel) (by decide +kernel), by decide, by decide +kernel⟩
def Y_L_acts : MT := (⟨"GlitchCourtLaw", "acts", "(LGlitchCourt;I)I"⟩, method_15_code, 7, (Option.some FieldType.int), { frames := 10, cells := 0, slots := 0, locals := 202 }, [(0, .iload_n 2, 1), (1, .bipush 6, 2), (3, .idiv, 1), (4, .istore_n 3, 1), (5, .iload_n 2, 1), (6, .bipush 6, 2), (8, .irem, 1), (9, .tableswitch 185 0 3 #[31, 107, 135, 162], 31), (40, .iload_n 3, 1), (41, .aload_n 0, 1), (42, .getfield 74, 3), (45, .iconst 1, 1), (46, .iadd, 1), (47, .irem, 1), (48, .istore 4, 2), (50, .iload 4, 2), (52, .iload_n 3, 1), (53, .bipush 64, 2), (55, .idiv, 1), (56, .aload_n 0, 1), (57, .getfield 74, 3), (60, .iconst 1, 1), (61, .iadd, 1), (62, .iload 4, 2), (64, .isub, 1), (65, .irem, 1), (66, .iadd, 1), (67, .istore 5, 2), (69, .aload_n 1, 1), (70, .aload_n 0, 1), (71, .iload_n 3, 1), (72, .sipush 4096, 3), (75, .idiv, 1), (76, .invokevirtual 145, 3), (79, .iload 4, 2), (81, .iload 5, 2), (83, .invokevirtual 148, 3), (86, .istore 6, 2), (88, .aload_n 1, 1), (89, .aload_n 0, 1), (90, .iload_n 3, 1), (91, .sipush 4096, 3), (94, .idiv, 1), (95, .invokevirtual 145, 3), (98, .iload 4, 2), (100, .iload 5, 2), (102, .invokevirtual 152, 3), (105, .ifCond .ge 7, 3), (108, .iconst 0, 1), (109, .goto 6, 3), (112, .iload 6, 2), (114, .ineg, 1), (115, .ireturn, 1), (116, .iload_n 3, 1), (117, .iconst 3, 1), (118, .idiv, 1), (119, .sipush 200, 3), (122, .irem, 1), (123, .istore 4, 2), (125, .aload_n 1, 1), (126, .iload_n 3, 1), (127, .iconst 3, 1), (128, .irem, 1), (129, .iload 4, 2), (131, .invokevirtual 155, 3), (134, .ifCond .ge 7, 3), (137, .iconst 0, 1), (138, .goto 5, 3), (141, .iload 4, 2), (143, .ireturn, 1), (144, .aload_n 1, 1), (145, .aload_n 0, 1), (146, .iload_n 3, 1), (147, .invokevirtual 145, 3), (150, .iload_n 3, 1), (151, .bipush 8, 2), (153, .idiv, 1), (154, .iconst 3, 1), (155, .irem, 1), (156, .iconst 1, 1), (157, .iload_n 3, 1), (158, .bipush 24, 2), (160, .idiv, 1), (161, .bipush 9, 2), (163, .irem, 1), (164, .iadd, 1), (165, .invokevirtual 158, 3), (168, .pop, 1), (169, .iconst 0, 1), (170, .ireturn, 1), (171, .aload_n 1, 1), (172, .iload_n 3, 1), (173, .aload_n 0, 1), (174, .getfield 40, 3), (177, .irem, 1), (178, .iload_n 3, 1), (179, .iconst 4, 1), (180, .idiv, 1), (181, .aload_n 0, 1), (182, .getfield 74, 3), (185, .iconst 1, 1), (186, .iadd, 1), (187, .irem, 1), (188, .invokevirtual 161, 3), (191, .pop, 1), (192, .iconst 0, 1), (193, .ireturn, 1), (194, .aload_n 0, 1), (195, .aload_n 1, 1), (196, .iload_n 3, 1), (197, .invokevirtual 164, 3), (200, .iconst 0, 1), (201, .ireturn, 1)], [])
theorem is_L_acts : (yP Y_L_acts).all (okI (yB Y_L_acts)) = true := by decide +kernel
theorem mf_L_acts : MF Y_L_acts 2 := ⟨gw_in 784 (by decide +kernel) (by decide +kernel), gw_in 28 (by decide +kernel) (by decide +kernel), by decide, by decide +kernel⟩
def Y_L_isShown : MT := (⟨"GlitchCourtLaw", "isShown", "(LGlitchCourt;I)Z"⟩, method_16_code, 10, (Option.some FieldType.boolean), { frames := 9, cells := 0, slots := 0, locals := 155 }, [(0, .aload_n 1, 1), (1, .iload_n 2, 1), (2, .iconst 0, 1), (3, .invokevirtual 168, 3), (6, .lstore_n 3, 1), (7, .aload_n 1, 1), (8, .iload_n 2, 1), (9, .iconst 2, 1), (10, .invokevirtual 168, 3), (13, .lstore 5, 2), (15, .iconst 1, 1), (16, .istore 7, 2), (18, .iconst 0, 1), (19, .istore 8, 2), (21, .iload 8, 2), (23, .aload_n 0, 1), (24, .getfield 74, 3), (27, .if_icmp .gt 39, 3), (30, .aload_n 1, 1), (31, .iload_n 2, 1), (32, .iload 8, 2), (34, .invokevirtual 172, 3), (37, .iconst 2, 1), (38, .if_icmp .ne 22, 3), (41, .lload_n 3, 1), (42, .iload 8, 2), (44, .lshr, 1), (45, .lconst 1, 1), (46, .land, 1), (47, .lload 5, 2), (49, .iload 8, 2), (51, .lshr, 1), (52, .lconst 1, 1), (53, .land, 1), (54, .lcmp, 1), (55, .ifCond .eq 5, 3), (58, .iconst 0, 1), (59, .ireturn, 1), (60, .iinc 8 1, 3), (63, .goto (-42), 3), (66, .iload_n 2, 1), (67, .aload_n 0, 1), (68, .getfield 40, 3), (71, .if_icmp .ge 27, 3), (74, .lload_n 3, 1), (75, .lload 5, 2), (77, .lcmp, 1), (78, .ifCond .ne 18, 3), (81, .lload_n 3, 1), (82, .aload_n 1, 1), (83, .iload_n 2, 1), (84, .iconst 1, 1), (85, .invokevirtual 168, 3), (88, .lcmp, 1), (89, .ifCond .ne 7, 3), (92, .iconst 1, 1), (93, .goto 4, 3), (96, .iconst 0, 1), (97, .ireturn, 1), (98, .aload_n 1, 1), (99, .iload_n 2, 1), (100, .invokevirtual 175, 3), (103, .istore 8, 2), (105, .aload_n 0, 1), (106, .getfield 40, 3), (109, .istore 9, 2), (111, .iload 9, 2), (113, .iload_n 2, 1), (114, .if_icmp .gt 51, 3), (117, .iload 7, 2), (119, .ifCond .eq 37, 3), (122, .iload 8, 2), (124, .iload 9, 2), (126, .ishr, 1), (127, .iconst 1, 1), (128, .iand, 1), (129, .ifCond .eq 23, 3), (132, .aload_n 1, 1), (133, .iload 9, 2), (135, .bipush 7, 2), (137, .invokevirtual 110, 3), (140, .aload_n 1, 1), (141, .iload 9, 2), (143, .bipush 8, 2), (145, .invokevirtual 110, 3), (148, .iadd, 1), (149, .ifCond .ne 7, 3), (152, .iconst 1, 1), (153, .goto 4, 3), (156, .iconst 0, 1), (157, .istore 7, 2), (159, .iinc 9 1, 3), (162, .goto (-51), 3), (165, .iload 7, 2), (167, .ifCond .eq 14, 3), (170, .lload_n 3, 1), (171, .aload_n 1, 1), (172, .iload_n 2, 1), (173, .iconst 1, 1), (174, .invokevirtual 168, 3), (177, .lcmp, 1), (178, .ifCond .ne 7, 3), (181, .iconst 1, 1), (182, .goto 4, 3), (185, .iconst 0, 1), (186, .ireturn, 1)], [])
theorem is_L_isShown : (yP Y_L_isShown).all (okI (yB Y_L_isShown)) = true := by decide +kernel
theorem mf_L_isShown : MF Y_L_isShown 2 := ⟨gw_in 997 (by decide +kernel) (by decide +kernel), gw_in 28 (by decide +kernel) (by decide +kernel), by decide, by decide +kernel⟩
def Y_L_holds : MT := (⟨"GlitchCourtLaw", "holds", "(LGlitchCourt;[I)Z"⟩, method_13_code, 6, (Option.some FieldType.boolean), { frames := 11, cells := 0, slots := 0, locals := 228 }, [(0, .aload_n 1, 1), (1, .invokestatic 135, 3), (4, .istore_n 3, 1), (5, .bipush 12, 2), (7, .istore 4, 2), (9, .iload 4, 2), (11, .bipush 30, 2), (13, .if_icmp .ge 63, 3), (16, .iload_n 3, 1), (17, .aload_n 0, 1), (18, .aload_n 1, 1), (19, .aload_n 2, 1), (20, .iload 4, 2), (22, .invokestatic 70, 3), (25, .invokevirtual 137, 3), (28, .iadd, 1), (29, .istore_n 3, 1), (30, .aload_n 1, 1), (31, .invokestatic 135, 3), (34, .iload_n 3, 1), (35, .if_icmp .eq 5, 3), (38, .iconst 0, 1), (39, .ireturn, 1), (40, .iconst 0, 1), (41, .istore 5, 2), (43, .iload 5, 2), (45, .aload_n 0, 1), (46, .invokevirtual 102, 3), (49, .if_icmp .ge 21, 3), (52, .aload_n 0, 1), (53, .aload_n 1, 1), (54, .iload 5, 2), (56, .invokevirtual 141, 3), (59, .ifCond .ne 5, 3), (62, .iconst 0, 1), (63, .ireturn, 1), (64, .iinc 5 1, 3), (67, .goto (-24), 3), (70, .iinc 4 1, 3), (73, .goto (-64), 3), (76, .iconst 1, 1), (77, .ireturn, 1)], [])
theorem is_L_holds : (yP Y_L_holds).all (okI (yB Y_L_holds)) = true := by decide +kernel
theorem mf_L_holds : MF Y_L_holds 2 := ⟨gw_in 777 (by decide +kernel) (by decide +kernel), gw_in 28 (by decide +kernel) (by decide +kernel), by decide, by decide +kernel⟩
end
section
def D_J7_fill_53178_5 (p0 : Nat) (v1 : Int32) (v3 : Int32) (L : TL) (Q : TI → Prop) (R5 : Int32 → TI → Prop) (v2 : Int32) (I : TI) : Prop :=
  (v3 ≤ v2 → Q I) ∧ (¬ v3 ≤ v2 → vp_in v2 (LEN p0) ∧ (R5 (v2 + 1) (up2 I p0 (v2.toNatClampNeg) v1)))
def L_J7_fill_53178_5 (p0 : Nat) (v1 : Int32) (v3 : Int32) (L : TL) (Q : TI → Prop) : Nat → Int32 → TI → Prop
  | 0, _, _ => False
  | n9 + 1, v2, I => D_J7_fill_53178_5 p0 v1 v3 L Q (fun v2 I => L_J7_fill_53178_5 p0 v1 v3 L Q n9 v2 I) v2 I
def W_J7_fill_53178 (p0 : Nat) (p1 : Int32) (I : TI) (L : TL) (Q : TI → Prop) : Prop :=
  ∃ n4, L_J7_fill_53178_5 p0 p1 (nI (LEN p0)) L Q n4 (0 : Int32) I
def W_X2_clear (p0 : Nat) (I : TI) (L : TL) (Q : TI → Prop) : Prop :=
  W_J7_fill_53178 (p0 + 4) (0 : Int32) (up2 (up2 I p0 4 0) p0 5 0) L (fun (I6 : TI) => Q I6)
def W_X6_forget (p0 : Nat) (p1 : Int32) (I : TI) (L : TL) (Q : TL → Prop) : Prop :=
  vp_in p1 16 ∧ (vp_in p1 16 ∧ (∀ L12 : TL, L12 = (up2 (up2 L (p0 + 6) (p1.toNatClampNeg) 0) (p0 + 7) (p1.toNatClampNeg) 0) → (vp_in p1 16 ∧ (Q (up2 L12 (p0 + 8) (p1.toNatClampNeg) 0)))))
def D_X6_clear_2 (p0 : Nat) (I : TI) (Q : TI → TL → Prop) (R2 : Int32 → TL → Prop) (v1 : Int32) (L : TL) : Prop :=
  (16 ≤ v1 → W_J7_fill_53178 (p0 + 9) (0 : Int32) I L (fun (I18 : TI) => Q (up2 I18 p0 7 0) L)) ∧ (¬ 16 ≤ v1 → W_X6_forget p0 v1 I L (fun (L19 : TL) => R2 (v1 + 1) L19))
def L_X6_clear_2 (p0 : Nat) (I : TI) (Q : TI → TL → Prop) : Nat → Int32 → TL → Prop
  | 0, _, _ => False
  | n9 + 1, v1, L => D_X6_clear_2 p0 I Q (fun v1 L => L_X6_clear_2 p0 I Q n9 v1 L) v1 L
def W_X6_clear (p0 : Nat) (I : TI) (L : TL) (Q : TI → TL → Prop) : Prop :=
  ∃ n20, L_X6_clear_2 p0 I Q n20 (0 : Int32) L
def W_X0_clear (p0 : Nat) (I : TI) (L : TL) (Q : TI → TL → Prop) : Prop :=
  W_X2_clear (p0 + 1) I L (fun (I24 : TI) => W_X6_clear (p0 + 6) I24 L (fun (I25 : TI) (L26 : TL) => Q I25 L26))
def W_X2_nets (p0 : Nat) (I : TI) (L : TL) (Q : Int32 → Prop) : Prop :=
  Q ((I p0 4) + (I p0 5))
def W_X8_window (p0 : Int32) (p1 : Int32) (I : TI) (L : TL) (Q : Int64 → Prop) : Prop :=
  Q ((shlL (2 : Int64) p1) - (shlL (1 : Int64) p0))
def B_X2_idealOf_31 (p0 : Nat) (p2 : Nat) (v1 : Int32) (v3 : Int64) (s0 : Int64) (I : TI) (L : TL) (Q : Int64 → Prop) : Prop :=
  W_X8_window (0 : Int32) (I p0 6) I L (fun (r41 : Int64) => vp_in v1 16 ∧ (((I (p0 + 1) (v1.toNatClampNeg)) = 0 → Q (v3 &&& s0)) ∧ ((I (p0 + 1) (v1.toNatClampNeg)) = 1 → Q (v3 ||| s0)) ∧ ((I (p0 + 1) (v1.toNatClampNeg)) = 2 → Q (v3 ^^^ s0)) ∧ ((I (p0 + 1) (v1.toNatClampNeg)) = 3 → Q (r41 &&& ((v3 &&& s0) ^^^ (-1)))) ∧ ((I (p0 + 1) (v1.toNatClampNeg)) = 4 → Q (r41 &&& ((v3 ||| s0) ^^^ (-1)))) ∧ ((I (p0 + 1) (v1.toNatClampNeg)) = 5 → Q (r41 &&& (v3 ^^^ (-1)))) ∧ ((I (p0 + 1) (v1.toNatClampNeg)) < 0 ∨ 5 < (I (p0 + 1) (v1.toNatClampNeg)) → Q v3)))
def W_X2_idealOf (p0 : Nat) (p2 : Nat) (p1 : Int32) (I : TI) (L : TL) (Q : Int64 → Prop) : Prop :=
  vp_in p1 16 ∧ (vp_in (I (p0 + 2) (p1.toNatClampNeg)) 16 ∧ (∀ x45 : Int64, x45 = (L p2 ((I (p0 + 2) (p1.toNatClampNeg)).toNatClampNeg)) → (vp_in p1 16 ∧ ((¬ (I (p0 + 3) (p1.toNatClampNeg)) = (-1) → vp_in p1 16 ∧ (vp_in (I (p0 + 3) (p1.toNatClampNeg)) 16 ∧ (B_X2_idealOf_31 p0 p2 p1 x45 (L p2 ((I (p0 + 3) (p1.toNatClampNeg)).toNatClampNeg)) I L Q))) ∧ ((I (p0 + 3) (p1.toNatClampNeg)) = (-1) → B_X2_idealOf_31 p0 p2 p1 x45 x45 I L Q)))))
def W_X8_bitOf (p0 : Int64) (p2 : Int32) (I : TI) (L : TL) (Q : Int32 → Prop) : Prop :=
  Q (((ushL p0 p2) &&& 1).toInt32)
def B_X0_lateWave_43 (p0 : Nat) (p2 : Nat) (v3 : Int64) (v5 : Int32) (s0 : Int64) (I : TI) (L : TL) (Q : Int64 → Prop) : Prop :=
  W_X8_window (0 : Int32) (I (p0 + 1) 6) I L (fun (r59 : Int64) => Q (((shlL v3 v5) ||| s0) &&& r59))
def W_X0_lateWave (p0 : Nat) (p2 : Nat) (p1 : Int32) (I : TI) (L : TL) (Q : Int64 → Prop) : Prop :=
  W_X2_idealOf (p0 + 1) p2 p1 I L (fun (r60 : Int64) => vp_in p1 16 ∧ (∀ x62 : Int32, x62 = (I (p0 + 10) (p1.toNatClampNeg)) → (W_X8_bitOf r60 (0 : Int32) I L (fun (r63 : Int32) => (¬ r63 = 0 → W_X8_window (0 : Int32) (x62 - 1) I L (fun (r64 : Int64) => B_X0_lateWave_43 p0 p2 r60 x62 r64 I L Q)) ∧ (r63 = 0 → B_X0_lateWave_43 p0 p2 r60 x62 (0 : Int64) I L Q)))))
def W_X0_swing (p0 : Nat) (p1 : Int32) (p2 : Int32) (I : TI) (L : TL) (Q : Int32 → Prop) : Prop :=
  (¬ p2 = 1 → vp_in p1 16 ∧ (Q (I (p0 + 9) (p1.toNatClampNeg)))) ∧ (p2 = 1 → vp_in p1 16 ∧ (Q (I (p0 + 8) (p1.toNatClampNeg))))
def B_X0_dearWave_87 (p0 : Nat) (v1 : Int32) (v2 : Int64) (v4 : Int64) (v6 : Int32) (v7 : Int32) (v8 : Int32) (I : TI) (L : TL) (Q : Int64 → Prop) (R31 : Int64 → Int32 → Int32 → Int32 → Prop) : Prop :=
  ∀ x83 : Int64, x83 = (v4 ||| (shlL (v6.toInt64) v8)) → (R31 x83 v6 v7 (v8 + 1))
def B_X0_dearWave_68 (p0 : Nat) (v1 : Int32) (v2 : Int64) (v4 : Int64) (v6 : Int32) (v7 : Int32) (v8 : Int32) (v9 : Int32) (I : TI) (L : TL) (Q : Int64 → Prop) (R31 : Int64 → Int32 → Int32 → Int32 → Prop) : Prop :=
  W_X0_swing p0 v1 v9 I L (fun (r84 : Int32) => ((v8 - r84) < v7 → B_X0_dearWave_87 p0 v1 v2 v4 v6 v7 v8 I L Q R31) ∧ (¬ (v8 - r84) < v7 → B_X0_dearWave_87 p0 v1 v2 v4 v9 v7 v8 I L Q R31))
def D_X0_dearWave_31 (p0 : Nat) (v1 : Int32) (v2 : Int64) (I : TI) (L : TL) (Q : Int64 → Prop) (R31 : Int64 → Int32 → Int32 → Int32 → Prop) (v4 : Int64) (v6 : Int32) (v7 : Int32) (v8 : Int32) : Prop :=
  ((I (p0 + 1) 6) < v8 → Q v4) ∧ (¬ (I (p0 + 1) 6) < v8 → W_X8_bitOf v2 v8 I L (fun (r85 : Int32) => W_X8_bitOf v2 (v8 - 1) I L (fun (r86 : Int32) => (r85 = r86 → B_X0_dearWave_68 p0 v1 v2 v4 v6 v7 v8 r85 I L Q R31) ∧ (¬ r85 = r86 → B_X0_dearWave_68 p0 v1 v2 v4 v6 v8 v8 r85 I L Q R31))))
def L_X0_dearWave_31 (p0 : Nat) (v1 : Int32) (v2 : Int64) (I : TI) (L : TL) (Q : Int64 → Prop) : Nat → Int64 → Int32 → Int32 → Int32 → Prop
  | 0, _, _, _, _ => False
  | n9 + 1, v4, v6, v7, v8 => D_X0_dearWave_31 p0 v1 v2 I L Q (fun v4 v6 v7 v8 => L_X0_dearWave_31 p0 v1 v2 I L Q n9 v4 v6 v7 v8) v4 v6 v7 v8
def W_X0_dearWave (p0 : Nat) (p1 : Int32) (I : TI) (L : TL) (Q : Int64 → Prop) : Prop :=
  W_X2_idealOf (p0 + 1) (p0 + 39) p1 I L (fun (r87 : Int64) => W_X8_bitOf r87 (0 : Int32) I L (fun (r88 : Int32) => ∃ n89, L_X0_dearWave_31 p0 p1 r87 I L Q n89 (r87 &&& 1) r88 (0 : Int32) (1 : Int32)))
def B_X0_longestPath_39 (p0 : Nat) (v1 : Int32) (s0 : Int32) (s1 : Int32) (I : TI) (L : TL) (Q : Int32 → Prop) : Prop :=
  W_X0_swing p0 v1 (0 : Int32) I L (fun (r102 : Int32) => W_X0_swing p0 v1 (1 : Int32) I L (fun (r103 : Int32) => Q ((mxI s0 s1) + (mxI r102 r103))))
def W_X0_longestPath (p0 : Nat) (p1 : Int32) (I : TI) (L : TL) (Q : Int32 → Prop) : Prop :=
  vp_in p1 16 ∧ (∀ x105 : Int32, x105 = (I (p0 + 4) (p1.toNatClampNeg)) → (vp_in p1 16 ∧ (vp_in (I (p0 + 3) (p1.toNatClampNeg)) 16 ∧ ((¬ x105 = (-1) → vp_in x105 16 ∧ (B_X0_longestPath_39 p0 p1 (I (p0 + 41) ((I (p0 + 3) (p1.toNatClampNeg)).toNatClampNeg)) (I (p0 + 41) (x105.toNatClampNeg)) I L Q)) ∧ (x105 = (-1) → B_X0_longestPath_39 p0 p1 (I (p0 + 41) ((I (p0 + 3) (p1.toNatClampNeg)).toNatClampNeg)) (0 : Int32) I L Q)))))
def B_X0_showInto_99 (p0 : Nat) (p1 : Nat) (v2 : Int32) (v3 : Int64) (v5 : Int32) (v6 : Int64) (s0 : Int64) (I : TI) (L : TL) (Q : TL → Prop) (R44 : Int32 → TL → Prop) : Prop :=
  W_X0_lateWave p0 p1 v5 I L (fun (r127 : Int64) => vp_in v5 16 ∧ (∀ x129 : Int64, x129 = ((r127 &&& (v6 ^^^ (-1))) ||| (L (p0 + 14) (v5.toNatClampNeg))) → (vp_in v5 16 ∧ (vp_in v5 16 ∧ (∀ L132 : TL, L132 = (up2 L p1 (v5.toNatClampNeg) ((x129 &&& (s0 ^^^ (-1))) ||| ((L (p0 + 39) (v5.toNatClampNeg)) &&& s0))) → (R44 (v5 + 1) L132))))))
def D_X0_showInto_44 (p0 : Nat) (p1 : Nat) (v2 : Int32) (v3 : Int64) (I : TI) (Q : TL → Prop) (R44 : Int32 → TL → Prop) (v5 : Int32) (L : TL) : Prop :=
  W_X2_nets (p0 + 1) I L (fun (r133 : Int32) => (r133 ≤ v5 → Q L) ∧ (¬ r133 ≤ v5 → vp_in v5 16 ∧ (∀ x135 : Int64, x135 = (L (p0 + 13) (v5.toNatClampNeg)) → ((¬ v5 = v2 → vp_in v5 16 ∧ (B_X0_showInto_99 p0 p1 v2 v3 v5 x135 (L (p0 + 12) (v5.toNatClampNeg)) I L Q R44)) ∧ (v5 = v2 → vp_in v5 16 ∧ (B_X0_showInto_99 p0 p1 v2 v3 v5 x135 ((L (p0 + 12) (v5.toNatClampNeg)) ||| v3) I L Q R44))))))
def L_X0_showInto_44 (p0 : Nat) (p1 : Nat) (v2 : Int32) (v3 : Int64) (I : TI) (Q : TL → Prop) : Nat → Int32 → TL → Prop
  | 0, _, _ => False
  | n9 + 1, v5, L => D_X0_showInto_44 p0 p1 v2 v3 I Q (fun v5 L => L_X0_showInto_44 p0 p1 v2 v3 I Q n9 v5 L) v5 L
def D_X0_showInto_3 (p0 : Nat) (p1 : Nat) (v2 : Int32) (v3 : Int64) (I : TI) (Q : TL → Prop) (R3 : Int32 → TL → Prop) (v5 : Int32) (L : TL) : Prop :=
  ((I (p0 + 1) 4) ≤ v5 → ∃ n138, L_X0_showInto_44 p0 p1 v2 v3 I Q n138 (I (p0 + 1) 4) L) ∧ (¬ (I (p0 + 1) 4) ≤ v5 → vp_in v5 4 ∧ (vp_in v5 16 ∧ (∀ L141 : TL, L141 = (up2 L p1 (v5.toNatClampNeg) (L (p0 + 11) (v5.toNatClampNeg))) → (R3 (v5 + 1) L141))))
def L_X0_showInto_3 (p0 : Nat) (p1 : Nat) (v2 : Int32) (v3 : Int64) (I : TI) (Q : TL → Prop) : Nat → Int32 → TL → Prop
  | 0, _, _ => False
  | n9 + 1, v5, L => D_X0_showInto_3 p0 p1 v2 v3 I Q (fun v5 L => L_X0_showInto_3 p0 p1 v2 v3 I Q n9 v5 L) v5 L
def W_X0_showInto (p0 : Nat) (p1 : Nat) (p2 : Int32) (p3 : Int64) (I : TI) (L : TL) (Q : TL → Prop) : Prop :=
  ∃ n142, L_X0_showInto_3 p0 p1 p2 p3 I Q n142 (0 : Int32) L
def D_X0_refresh_64 (p0 : Nat) (Q : TI → TL → Prop) (R64 : Int32 → TI → TL → Prop) (v1 : Int32) (I : TI) (L : TL) : Prop :=
  W_X2_nets (p0 + 1) I L (fun (r161 : Int32) => (r161 ≤ v1 → W_X0_showInto p0 (p0 + 37) ((-1) : Int32) (0 : Int64) I L (fun (L162 : TL) => Q I L162)) ∧ (¬ r161 ≤ v1 → W_X0_lateWave p0 (p0 + 38) v1 I L (fun (r163 : Int64) => vp_in v1 16 ∧ (W_X0_dearWave p0 v1 I (up2 L (p0 + 38) (v1.toNatClampNeg) r163) (fun (r165 : Int64) => vp_in v1 16 ∧ (∀ L167 : TL, L167 = (up2 (up2 L (p0 + 38) (v1.toNatClampNeg) r163) (p0 + 39) (v1.toNatClampNeg) r165) → (W_X0_longestPath p0 v1 I L167 (fun (r168 : Int32) => vp_in v1 16 ∧ (R64 (v1 + 1) (up2 I (p0 + 41) (v1.toNatClampNeg) r168) L167)))))))))
def L_X0_refresh_64 (p0 : Nat) (Q : TI → TL → Prop) : Nat → Int32 → TI → TL → Prop
  | 0, _, _, _ => False
  | n9 + 1, v1, I, L => D_X0_refresh_64 p0 Q (fun v1 I L => L_X0_refresh_64 p0 Q n9 v1 I L) v1 I L
def D_X0_refresh_2 (p0 : Nat) (Q : TI → TL → Prop) (R2 : Int32 → TI → TL → Prop) (v1 : Int32) (I : TI) (L : TL) : Prop :=
  ((I (p0 + 1) 4) ≤ v1 → ∃ n170, L_X0_refresh_64 p0 Q n170 (I (p0 + 1) 4) I L) ∧ (¬ (I (p0 + 1) 4) ≤ v1 → vp_in v1 4 ∧ (vp_in v1 16 ∧ (∀ L173 : TL, L173 = (up2 L (p0 + 38) (v1.toNatClampNeg) (L (p0 + 11) (v1.toNatClampNeg))) → (vp_in v1 4 ∧ (vp_in v1 16 ∧ (∀ L176 : TL, L176 = (up2 L173 (p0 + 39) (v1.toNatClampNeg) (L173 (p0 + 11) (v1.toNatClampNeg))) → (vp_in v1 16 ∧ (R2 (v1 + 1) (up2 I (p0 + 41) (v1.toNatClampNeg) 0) L176))))))))
def L_X0_refresh_2 (p0 : Nat) (Q : TI → TL → Prop) : Nat → Int32 → TI → TL → Prop
  | 0, _, _, _ => False
  | n9 + 1, v1, I, L => D_X0_refresh_2 p0 Q (fun v1 I L => L_X0_refresh_2 p0 Q n9 v1 I L) v1 I L
def W_X0_refresh (p0 : Nat) (I : TI) (L : TL) (Q : TI → TL → Prop) : Prop :=
  ∃ n178, L_X0_refresh_2 p0 Q n178 (0 : Int32) I L
def W_J6_bitCount_0f7a4 (p0 : Int32) (I : TI) (L : TL) (Q : Int32 → Prop) : Prop :=
  ∀ x179 : Int32, x179 = (p0 - ((ushI p0 (1 : Int32)) &&& 1431655765)) → (∀ x180 : Int32, x180 = ((x179 &&& 858993459) + ((ushI x179 (2 : Int32)) &&& 858993459)) → (∀ x181 : Int32, x181 = ((x180 + (ushI x180 (4 : Int32))) &&& 252645135) → (∀ x182 : Int32, x182 = (x181 + (ushI x181 (8 : Int32))) → (∀ x183 : Int32, x183 = (x182 + (ushI x182 (16 : Int32))) → (Q (x183 &&& 63))))))
def W_X2_cone (p0 : Nat) (p1 : Int32) (I : TI) (L : TL) (Q : Int32 → Prop) : Prop :=
  vp_in p1 16 ∧ (W_J6_bitCount_0f7a4 (I (p0 + 4) (p1.toNatClampNeg)) I L (fun (r187 : Int32) => Q r187))
def W_X0_price (p0 : Nat) (p1 : Int32) (p2 : Int32) (p3 : Int32) (I : TI) (L : TL) (Q : Int32 → Prop) : Prop :=
  W_X2_cone (p0 + 1) p1 I L (fun (r189 : Int32) => Q (((I (p0 + 1) 7) * ((p3 - p2) + 1)) * r189))
def B_X0_pulseStarts_132 (p0 : Nat) (v2 : Int64) (v4 : Int64) (v6 : Int64) (v8 : Int32) (v9 : Int32) (I : TI) (L : TL) (Q : Int64 → Prop) (R41 : Int64 → Int32 → Int32 → Prop) : Prop :=
  R41 v6 v8 (v9 + 1)
def B_X0_pulseStarts_128 (p0 : Nat) (v2 : Int64) (v4 : Int64) (v6 : Int64) (v9 : Int32) (I : TI) (L : TL) (Q : Int64 → Prop) (R41 : Int64 → Int32 → Int32 → Prop) : Prop :=
  B_X0_pulseStarts_132 p0 v2 v4 v6 v9 v9 I L Q R41
def B_X0_pulseStarts_95 (p0 : Nat) (v2 : Int64) (v4 : Int64) (v6 : Int64) (v8 : Int32) (v9 : Int32) (s0 : Int32) (I : TI) (L : TL) (Q : Int64 → Prop) (R41 : Int64 → Int32 → Int32 → Prop) : Prop :=
  (s0 = 0 → B_X0_pulseStarts_128 p0 v2 v4 v6 v9 I L Q R41) ∧ (¬ s0 = 0 → W_X8_window v8 (v9 - 1) I L (fun (r207 : Int64) => ((r207 &&& v4) = 0 → B_X0_pulseStarts_128 p0 v2 v4 v6 v9 I L Q R41) ∧ (¬ (r207 &&& v4) = 0 → ∀ x208 : Int64, x208 = (v6 ||| (shlL (1 : Int64) v8)) → (B_X0_pulseStarts_128 p0 v2 v4 x208 v9 I L Q R41))))
def B_X0_pulseStarts_94 (p0 : Nat) (v2 : Int64) (v4 : Int64) (v6 : Int64) (v8 : Int32) (v9 : Int32) (I : TI) (L : TL) (Q : Int64 → Prop) (R41 : Int64 → Int32 → Int32 → Prop) : Prop :=
  B_X0_pulseStarts_95 p0 v2 v4 v6 v8 v9 (0 : Int32) I L Q R41
def D_X0_pulseStarts_41 (p0 : Nat) (v2 : Int64) (v4 : Int64) (I : TI) (L : TL) (Q : Int64 → Prop) (R41 : Int64 → Int32 → Int32 → Prop) (v6 : Int64) (v8 : Int32) (v9 : Int32) : Prop :=
  ((I (p0 + 1) 6) < v9 → Q v6) ∧ (¬ (I (p0 + 1) 6) < v9 → W_X8_bitOf v2 v9 I L (fun (r209 : Int32) => W_X8_bitOf v2 (v9 - 1) I L (fun (r210 : Int32) => (r209 = r210 → B_X0_pulseStarts_132 p0 v2 v4 v6 v8 v9 I L Q R41) ∧ (¬ r209 = r210 → (v8 ≤ 0 → B_X0_pulseStarts_94 p0 v2 v4 v6 v8 v9 I L Q R41) ∧ (¬ v8 ≤ 0 → ((I (p0 + 6) 8) < (v9 - v8) → B_X0_pulseStarts_94 p0 v2 v4 v6 v8 v9 I L Q R41) ∧ (¬ (I (p0 + 6) 8) < (v9 - v8) → B_X0_pulseStarts_95 p0 v2 v4 v6 v8 v9 (1 : Int32) I L Q R41))))))
def L_X0_pulseStarts_41 (p0 : Nat) (v2 : Int64) (v4 : Int64) (I : TI) (L : TL) (Q : Int64 → Prop) : Nat → Int64 → Int32 → Int32 → Prop
  | 0, _, _, _ => False
  | n9 + 1, v6, v8, v9 => D_X0_pulseStarts_41 p0 v2 v4 I L Q (fun v6 v8 v9 => L_X0_pulseStarts_41 p0 v2 v4 I L Q n9 v6 v8 v9) v6 v8 v9
def W_X0_pulseStarts (p0 : Nat) (p1 : Int32) (I : TI) (L : TL) (Q : Int64 → Prop) : Prop :=
  vp_in p1 16 ∧ (∀ x212 : Int64, x212 = (L (p0 + 37) (p1.toNatClampNeg)) → (vp_in p1 16 ∧ (vp_in p1 16 ∧ (∀ x215 : Int64, x215 = (((L (p0 + 13) (p1.toNatClampNeg)) ||| (L (p0 + 12) (p1.toNatClampNeg))) ^^^ (-1)) → (∃ n216, L_X0_pulseStarts_41 p0 x212 x215 I L Q n216 (0 : Int64) (0 : Int32) (1 : Int32))))))
def W_J13_bitCount_95d88 (p0 : Int64) (I : TI) (L : TL) (Q : Int32 → Prop) : Prop :=
  ∀ x217 : Int64, x217 = (p0 - ((ushL p0 (1 : Int32)) &&& 6148914691236517205)) → (∀ x218 : Int64, x218 = ((x217 &&& 3689348814741910323) + ((ushL x217 (2 : Int32)) &&& 3689348814741910323)) → (∀ x219 : Int64, x219 = ((x218 + (ushL x218 (4 : Int32))) &&& 1085102592571150095) → (∀ x220 : Int64, x220 = (x219 + (ushL x219 (8 : Int32))) → (∀ x221 : Int64, x221 = (x220 + (ushL x220 (16 : Int32))) → (∀ x222 : Int64, x222 = (x221 + (ushL x221 (32 : Int32))) → (Q ((x222.toInt32) &&& 127)))))))
def W_X0_pulses (p0 : Nat) (p1 : Int32) (I : TI) (L : TL) (Q : Int32 → Prop) : Prop :=
  W_X0_pulseStarts p0 p1 I L (fun (r225 : Int64) => W_J13_bitCount_95d88 r225 I L (fun (r226 : Int32) => Q r226))
def B_X0_pulseStart_46 (p0 : Nat) (v2 : Int32) (v3 : Int64) (v5 : Int32) (v6 : Int32) (I : TI) (L : TL) (Q : Int32 → Prop) (R12 : Int32 → Int32 → Prop) : Prop :=
  R12 v5 (v6 + 1)
def D_X0_pulseStart_12 (p0 : Nat) (v2 : Int32) (v3 : Int64) (I : TI) (L : TL) (Q : Int32 → Prop) (R12 : Int32 → Int32 → Prop) (v5 : Int32) (v6 : Int32) : Prop :=
  ((I (p0 + 1) 6) ≤ v6 → Q (-1)) ∧ (¬ (I (p0 + 1) 6) ≤ v6 → W_X8_bitOf v3 v6 I L (fun (r231 : Int32) => (¬ r231 = 1 → B_X0_pulseStart_46 p0 v2 v3 v5 v6 I L Q R12) ∧ (r231 = 1 → (¬ v5 = v2 → B_X0_pulseStart_46 p0 v2 v3 (v5 + 1) v6 I L Q R12) ∧ (v5 = v2 → Q v6))))
def L_X0_pulseStart_12 (p0 : Nat) (v2 : Int32) (v3 : Int64) (I : TI) (L : TL) (Q : Int32 → Prop) : Nat → Int32 → Int32 → Prop
  | 0, _, _ => False
  | n9 + 1, v5, v6 => D_X0_pulseStart_12 p0 v2 v3 I L Q (fun v5 v6 => L_X0_pulseStart_12 p0 v2 v3 I L Q n9 v5 v6) v5 v6
def W_X0_pulseStart (p0 : Nat) (p1 : Int32) (p2 : Int32) (I : TI) (L : TL) (Q : Int32 → Prop) : Prop :=
  W_X0_pulseStarts p0 p1 I L (fun (r232 : Int64) => ∃ n233, L_X0_pulseStart_12 p0 p2 r232 I L Q n233 (0 : Int32) (1 : Int32))
def D_X0_runEnd_2 (p0 : Nat) (v1 : Int32) (v2 : Int32) (I : TI) (L : TL) (Q : Int32 → Prop) (R2 : Int32 → Prop) (v3 : Int32) : Prop :=
  ((I (p0 + 1) 6) ≤ v3 → Q v3) ∧ (¬ (I (p0 + 1) 6) ≤ v3 → vp_in v1 16 ∧ (W_X8_bitOf (L (p0 + 37) (v1.toNatClampNeg)) (v3 + 1) I L (fun (r243 : Int32) => vp_in v1 16 ∧ (W_X8_bitOf (L (p0 + 37) (v1.toNatClampNeg)) v2 I L (fun (r245 : Int32) => (¬ r243 = r245 → Q v3) ∧ (r243 = r245 → R2 (v3 + 1)))))))
def L_X0_runEnd_2 (p0 : Nat) (v1 : Int32) (v2 : Int32) (I : TI) (L : TL) (Q : Int32 → Prop) : Nat → Int32 → Prop
  | 0, _ => False
  | n9 + 1, v3 => D_X0_runEnd_2 p0 v1 v2 I L Q (fun v3 => L_X0_runEnd_2 p0 v1 v2 I L Q n9 v3) v3
def W_X0_runEnd (p0 : Nat) (p1 : Int32) (p2 : Int32) (I : TI) (L : TL) (Q : Int32 → Prop) : Prop :=
  ∃ n246, L_X0_runEnd_2 p0 p1 p2 I L Q n246 p2
def W_X0_cheapVerdict (p0 : Nat) (p1 : Int32) (p2 : Int32) (p3 : Int32) (I : TI) (L : TL) (Q : Int32 → Prop) : Prop :=
  W_X0_swing p0 p1 p3 I L (fun (r248 : Int32) => (p2 ≤ r248 → Q 0) ∧ (¬ p2 ≤ r248 → Q 1))
def B_X0_dearVerdict_33 (p0 : Nat) (p1 : Nat) (s0 : Int64) (I : TI) (L : TL) (Q : Int32 → Prop) : Prop :=
  W_X8_window (I p1 1) (I p1 2) I L (fun (r255 : Int64) => ((s0 &&& r255) = 0 → Q 0) ∧ (¬ (s0 &&& r255) = 0 → Q 1))
def W_X0_dearVerdict (p0 : Nat) (p1 : Nat) (I : TI) (L : TL) (Q : Int32 → Prop) : Prop :=
  (¬ (I p1 3) = 1 → vp_in (I p1 0) 16 ∧ (B_X0_dearVerdict_33 p0 p1 ((L (p0 + 39) ((I p1 0).toNatClampNeg)) ^^^ (-1)) I L Q)) ∧ ((I p1 3) = 1 → vp_in (I p1 0) 16 ∧ (B_X0_dearVerdict_33 p0 p1 (L (p0 + 39) ((I p1 0).toNatClampNeg)) I L Q))
def W_X0_settle (p0 : Nat) (p1 : Int32) (p2 : Int32) (p3 : Int32) (I : TI) (L : TL) (Q : Int32 → TI → TL → Prop) : Prop :=
  W_X8_window p2 p3 I L (fun (r265 : Int64) => vp_in p1 16 ∧ (∀ x267 : Int64, x267 = (r265 &&& ((L (p0 + 12) (p1.toNatClampNeg)) ^^^ (-1))) → (vp_in p1 16 ∧ (vp_in p1 16 ∧ (∀ L270 : TL, L270 = (up2 L (p0 + 12) (p1.toNatClampNeg) ((L (p0 + 12) (p1.toNatClampNeg)) ||| x267)) → (W_X0_refresh p0 I L270 (fun (I271 : TI) (L272 : TL) => W_J13_bitCount_95d88 x267 I271 L272 (fun (r273 : Int32) => Q r273 I271 L272))))))))
def B_X0_rule_139 (p0 : Nat) (p1 : Nat) (v5 : Int64) (s1 : Int32) (s2 : Int64) (I : TI) (L : TL) (Q : Int32 → TI → TL → Prop) : Prop :=
  vp_in s1 16 ∧ (W_X0_refresh p0 I (up2 L (p0 + 14) (s1.toNatClampNeg) s2) (fun (I299 : TI) (L300 : TL) => W_J13_bitCount_95d88 v5 I299 L300 (fun (r301 : Int32) => Q r301 I299 L300)))
def B_X0_rule_82 (p0 : Nat) (p1 : Nat) (v2 : Int32) (v3 : Int64) (v5 : Int64) (s0 : Int32) (I : TI) (L : TL) (Q : Int32 → TI → TL → Prop) : Prop :=
  vp_in v2 16 ∧ (vp_in v2 16 ∧ (∀ L304 : TL, L304 = (up2 L (p0 + 13) (v2.toNatClampNeg) ((L (p0 + 13) (v2.toNatClampNeg)) ||| v3)) → ((s0 = 0 → vp_in v2 16 ∧ (B_X0_rule_139 p0 p1 v5 v2 ((L304 (p0 + 14) (v2.toNatClampNeg)) &&& (v3 ^^^ (-1))) I L304 Q)) ∧ (¬ s0 = 0 → vp_in v2 16 ∧ (B_X0_rule_139 p0 p1 v5 v2 ((L304 (p0 + 14) (v2.toNatClampNeg)) ||| v3) I L304 Q)))))
def B_X0_rule_74 (p0 : Nat) (p1 : Nat) (v2 : Int32) (v3 : Int64) (v5 : Int64) (s0 : Int32) (s1 : Int32) (I : TI) (L : TL) (Q : Int32 → TI → TL → Prop) : Prop :=
  (¬ s0 = s1 → B_X0_rule_82 p0 p1 v2 v3 v5 (0 : Int32) I L Q) ∧ (s0 = s1 → B_X0_rule_82 p0 p1 v2 v3 v5 (1 : Int32) I L Q)
def B_X0_rule_61 (p0 : Nat) (p1 : Nat) (v2 : Int32) (v3 : Int64) (v5 : Int64) (s0 : Int32) (I : TI) (L : TL) (Q : Int32 → TI → TL → Prop) : Prop :=
  (¬ (I p1 3) = 1 → B_X0_rule_74 p0 p1 v2 v3 v5 s0 (0 : Int32) I L Q) ∧ ((I p1 3) = 1 → B_X0_rule_74 p0 p1 v2 v3 v5 s0 (1 : Int32) I L Q)
def W_X0_rule (p0 : Nat) (p1 : Nat) (I : TI) (L : TL) (Q : Int32 → TI → TL → Prop) : Prop :=
  W_X8_window (I p1 1) (I p1 2) I L (fun (r307 : Int64) => vp_in (I p1 0) 16 ∧ (vp_in (I p1 0) 16 ∧ (∀ x310 : Int64, x310 = ((r307 &&& ((L (p0 + 13) ((I p1 0).toNatClampNeg)) ^^^ (-1))) &&& ((L (p0 + 12) ((I p1 0).toNatClampNeg)) ^^^ (-1))) → ((¬ (I p1 7) = 1 → B_X0_rule_61 p0 p1 (I p1 0) r307 x310 (0 : Int32) I L Q) ∧ ((I p1 7) = 1 → B_X0_rule_61 p0 p1 (I p1 0) r307 x310 (1 : Int32) I L Q)))))
def W_X2_hasGate (p0 : Nat) (p1 : Int32) (I : TI) (L : TL) (Q : Int32 → Prop) : Prop :=
  (p1 < (I p0 4) → Q 0) ∧ (¬ p1 < (I p0 4) → W_X2_nets p0 I L (fun (r312 : Int32) => (r312 ≤ p1 → Q 0) ∧ (¬ r312 ≤ p1 → Q 1)))
def B_X2_readersOf_41 (p0 : Nat) (v1 : Int32) (v2 : Int32) (v3 : Int32) (I : TI) (L : TL) (Q : Int32 → Prop) (R7 : Int32 → Int32 → Prop) : Prop :=
  R7 v2 (v3 + 1)
def B_X2_readersOf_35 (p0 : Nat) (v1 : Int32) (v2 : Int32) (v3 : Int32) (I : TI) (L : TL) (Q : Int32 → Prop) (R7 : Int32 → Int32 → Prop) : Prop :=
  ∀ x319 : Int32, x319 = (v2 ||| ((1 : Int32) <<< (v3 &&& 31))) → (B_X2_readersOf_41 p0 v1 x319 v3 I L Q R7)
def D_X2_readersOf_7 (p0 : Nat) (v1 : Int32) (I : TI) (L : TL) (Q : Int32 → Prop) (R7 : Int32 → Int32 → Prop) (v2 : Int32) (v3 : Int32) : Prop :=
  W_X2_nets p0 I L (fun (r320 : Int32) => (r320 ≤ v3 → Q v2) ∧ (¬ r320 ≤ v3 → vp_in v3 16 ∧ (((I (p0 + 2) (v3.toNatClampNeg)) = v1 → B_X2_readersOf_35 p0 v1 v2 v3 I L Q R7) ∧ (¬ (I (p0 + 2) (v3.toNatClampNeg)) = v1 → vp_in v3 16 ∧ ((¬ (I (p0 + 3) (v3.toNatClampNeg)) = v1 → B_X2_readersOf_41 p0 v1 v2 v3 I L Q R7) ∧ ((I (p0 + 3) (v3.toNatClampNeg)) = v1 → B_X2_readersOf_35 p0 v1 v2 v3 I L Q R7))))))
def L_X2_readersOf_7 (p0 : Nat) (v1 : Int32) (I : TI) (L : TL) (Q : Int32 → Prop) : Nat → Int32 → Int32 → Prop
  | 0, _, _ => False
  | n9 + 1, v2, v3 => D_X2_readersOf_7 p0 v1 I L Q (fun v2 v3 => L_X2_readersOf_7 p0 v1 I L Q n9 v2 v3) v2 v3
def W_X2_readersOf (p0 : Nat) (p1 : Int32) (I : TI) (L : TL) (Q : Int32 → Prop) : Prop :=
  ∃ n323, L_X2_readersOf_7 p0 p1 I L Q n323 (0 : Int32) (I p0 4)
def B_X2_touchedBy_56 (p0 : Nat) (v2 : Int32) (v3 : Int32) (v4 : Int32) (I : TI) (L : TL) (Q : Int32 → Prop) (R28 : Int32 → Int32 → Prop) : Prop :=
  R28 v3 (v4 + 1)
def D_X2_touchedBy_28 (p0 : Nat) (v2 : Int32) (I : TI) (L : TL) (Q : Int32 → Prop) (R28 : Int32 → Int32 → Prop) (v3 : Int32) (v4 : Int32) : Prop :=
  W_X2_nets p0 I L (fun (r334 : Int32) => (r334 ≤ v4 → Q v3) ∧ (¬ r334 ≤ v4 → vp_in v4 16 ∧ ((((I (p0 + 4) (v4.toNatClampNeg)) &&& v2) = 0 → B_X2_touchedBy_56 p0 v2 v3 v4 I L Q R28) ∧ (¬ ((I (p0 + 4) (v4.toNatClampNeg)) &&& v2) = 0 → ∀ x336 : Int32, x336 = (v3 ||| ((1 : Int32) <<< (v4 &&& 31))) → (B_X2_touchedBy_56 p0 v2 x336 v4 I L Q R28)))))
def L_X2_touchedBy_28 (p0 : Nat) (v2 : Int32) (I : TI) (L : TL) (Q : Int32 → Prop) : Nat → Int32 → Int32 → Prop
  | 0, _, _ => False
  | n9 + 1, v3, v4 => D_X2_touchedBy_28 p0 v2 I L Q (fun v3 v4 => L_X2_touchedBy_28 p0 v2 I L Q n9 v3 v4) v3 v4
def B_X2_touchedBy_19 (p0 : Nat) (s0 : Int32) (I : TI) (L : TL) (Q : Int32 → Prop) : Prop :=
  ∃ n337, L_X2_touchedBy_28 p0 s0 I L Q n337 (0 : Int32) (I p0 4)
def W_X2_touchedBy (p0 : Nat) (p1 : Int32) (I : TI) (L : TL) (Q : Int32 → Prop) : Prop :=
  W_X2_hasGate p0 p1 I L (fun (r338 : Int32) => (r338 = 0 → W_X2_readersOf p0 p1 I L (fun (r339 : Int32) => B_X2_touchedBy_19 p0 r339 I L Q)) ∧ (¬ r338 = 0 → B_X2_touchedBy_19 p0 ((1 : Int32) <<< (p1 &&& 31)) I L Q))
def W_X3_isPending (p0 : Nat) (I : TI) (L : TL) (Q : Int32 → Prop) : Prop :=
  ((I p0 6) = 0 → Q 1) ∧ (¬ (I p0 6) = 0 → (¬ (I p0 6) = 1 → Q 0) ∧ ((I p0 6) = 1 → Q 1))
def B_X6_dropPending_50 (p0 : Nat) (v1 : Int32) (v2 : Int32) (v3 : Int32) (I : TI) (L : TL) (Q : Int32 → TI → Prop) (R4 : Int32 → Int32 → TI → Prop) : Prop :=
  R4 v2 (v3 + 1) I
def D_X6_dropPending_4 (p0 : Nat) (v1 : Int32) (L : TL) (Q : Int32 → TI → Prop) (R4 : Int32 → Int32 → TI → Prop) (v2 : Int32) (v3 : Int32) (I : TI) : Prop :=
  ((I p0 7) ≤ v3 → Q v2 I) ∧ (¬ (I p0 7) ≤ v3 → vp_in v3 20 ∧ ((¬ (I ((p0 + 11) + v3.toNatClampNeg) 0) = v1 → B_X6_dropPending_50 p0 v1 v2 v3 I L Q R4) ∧ ((I ((p0 + 11) + v3.toNatClampNeg) 0) = v1 → vp_in v3 20 ∧ (W_X3_isPending ((p0 + 11) + v3.toNatClampNeg) I L (fun (r350 : Int32) => (r350 = 0 → B_X6_dropPending_50 p0 v1 v2 v3 I L Q R4) ∧ (¬ r350 = 0 → vp_in v3 20 ∧ (B_X6_dropPending_50 p0 v1 (v2 + 1) v3 (up2 I ((p0 + 11) + v3.toNatClampNeg) 6 4) L Q R4)))))))
def L_X6_dropPending_4 (p0 : Nat) (v1 : Int32) (L : TL) (Q : Int32 → TI → Prop) : Nat → Int32 → Int32 → TI → Prop
  | 0, _, _, _ => False
  | n9 + 1, v2, v3, I => D_X6_dropPending_4 p0 v1 L Q (fun v2 v3 I => L_X6_dropPending_4 p0 v1 L Q n9 v2 v3 I) v2 v3 I
def W_X6_dropPending (p0 : Nat) (p1 : Int32) (I : TI) (L : TL) (Q : Int32 → TI → Prop) : Prop :=
  ∃ n352, L_X6_dropPending_4 p0 p1 L Q n352 (0 : Int32) (0 : Int32) I
def B_X0_unsettle_63 (p0 : Nat) (v2 : Int32) (v3 : Int32) (v4 : Int32) (I : TI) (L : TL) (Q : Int32 → TI → TL → Prop) (R20 : Int32 → Int32 → TI → TL → Prop) : Prop :=
  R20 v3 (v4 + 1) I L
def D_X0_unsettle_20 (p0 : Nat) (v2 : Int32) (Q : Int32 → TI → TL → Prop) (R20 : Int32 → Int32 → TI → TL → Prop) (v3 : Int32) (v4 : Int32) (I : TI) (L : TL) : Prop :=
  W_X2_nets (p0 + 1) I L (fun (r367 : Int32) => (r367 ≤ v4 → W_X0_refresh p0 I L (fun (I368 : TI) (L369 : TL) => Q v3 I368 L369)) ∧ (¬ r367 ≤ v4 → (¬ ((ushI v2 v4) &&& 1) = 1 → B_X0_unsettle_63 p0 v2 v3 v4 I L Q R20) ∧ (((ushI v2 v4) &&& 1) = 1 → W_X6_forget (p0 + 6) v4 I L (fun (L370 : TL) => W_X6_dropPending (p0 + 6) v4 I L370 (fun (r371 : Int32) (I372 : TI) => B_X0_unsettle_63 p0 v2 (v3 + r371) v4 I372 L370 Q R20)))))
def L_X0_unsettle_20 (p0 : Nat) (v2 : Int32) (Q : Int32 → TI → TL → Prop) : Nat → Int32 → Int32 → TI → TL → Prop
  | 0, _, _, _, _ => False
  | n9 + 1, v3, v4, I, L => D_X0_unsettle_20 p0 v2 Q (fun v3 v4 I L => L_X0_unsettle_20 p0 v2 Q n9 v3 v4 I L) v3 v4 I L
def W_X0_unsettle (p0 : Nat) (p1 : Int32) (I : TI) (L : TL) (Q : Int32 → TI → TL → Prop) : Prop :=
  W_X2_touchedBy (p0 + 1) p1 I L (fun (r373 : Int32) => ∃ n374, L_X0_unsettle_20 p0 r373 Q n374 (0 : Int32) (I (p0 + 1) 4) I L)
def W_X7_failed (I : TI) (L : TL) (Q : Int32 → Prop) : Prop :=
  ((I 344 6) = 0 → Q 0) ∧ (¬ (I 344 6) = 0 → Q 1)
/-! isWord of Tokens, its text by place: what it answers -/
def sch (pl k : Nat) : Int32 := (bytJS.getD pl []).getD k 0
def isW (I : TI) (t pl st en ln : Nat) : Prop := I 344 6 = 0 ∧ I 344 4 = 1 ∧ en ≤ ln ∧ en - st = lenJS.getD pl 0 ∧ ∀ k, k < lenJS.getD pl 0 → I t (st + k) = sch pl k
def W_X7_isWord (p1 : Nat) (I : TI) (L : TL) (t : Nat) (Q : Int32 → Prop) : Prop :=
  ∃ pl st en ln : Nat, p1 = 458 + pl ∧ pl < nJS ∧ I 344 2 = nI st ∧ I 344 3 = nI en ∧ I 344 1 = nI ln ∧ st ≤ en ∧ en < 1000 ∧ ln ≤ LEN t ∧ ln < 1000 ∧ (isW I t pl st en ln → Q 1) ∧ (¬ isW I t pl st en ln → Q 0)
def W_X7_fail (p1 : Int32) (I : TI) (L : TL) (Q : TI → Prop) : Prop :=
  W_X7_failed I L (fun (r376 : Int32) => (¬ r376 = 0 → Q I) ∧ (r376 = 0 → Q (up2 (up2 I 344 6 p1) 344 7 ((up2 I 344 6 p1) 344 2))))
def D_X7_scanWord_5 (L : TL) (t : Nat) (Q : TI → Prop) (R5 : TI → Prop) (I : TI) : Prop :=
  ((I 344 1) ≤ (I 344 3) → Q I) ∧ (¬ (I 344 1) ≤ (I 344 3) → vp_in (I 344 3) (LEN t) ∧ (((I t ((I 344 3).toNatClampNeg)) < 97 → Q I) ∧ (¬ (I t ((I 344 3).toNatClampNeg)) < 97 → vp_in (I 344 3) (LEN t) ∧ ((122 < (I t ((I 344 3).toNatClampNeg)) → Q I) ∧ (¬ 122 < (I t ((I 344 3).toNatClampNeg)) → R5 (up2 I 344 3 ((I 344 3) + 1)))))))
def L_X7_scanWord_5 (L : TL) (t : Nat) (Q : TI → Prop) : Nat → TI → Prop
  | 0, _ => False
  | n9 + 1, I => D_X7_scanWord_5 L t Q (fun I => L_X7_scanWord_5 L t Q n9 I) I
def W_X7_scanWord (I : TI) (L : TL) (t : Nat) (Q : TI → Prop) : Prop :=
  ∃ n383, L_X7_scanWord_5 L t Q n383 (up2 I 344 4 1)
def D_X7_scanNumber_10 (L : TL) (t : Nat) (Q : TI → Prop) (R10 : TI → Prop) (I : TI) : Prop :=
  ((I 344 1) ≤ (I 344 3) → Q I) ∧ (¬ (I 344 1) ≤ (I 344 3) → vp_in (I 344 3) (LEN t) ∧ (((I t ((I 344 3).toNatClampNeg)) < 48 → Q I) ∧ (¬ (I t ((I 344 3).toNatClampNeg)) < 48 → vp_in (I 344 3) (LEN t) ∧ ((57 < (I t ((I 344 3).toNatClampNeg)) → Q I) ∧ (¬ 57 < (I t ((I 344 3).toNatClampNeg)) → vp_in (I 344 3) (LEN t) ∧ (∀ I393 : TI, I393 = (up2 I 344 5 (mnI ((((10 : Int32) * (I 344 5)) + (I t ((I 344 3).toNatClampNeg))) - 48) (1000000 : Int32))) → (R10 (up2 I393 344 3 ((I393 344 3) + 1)))))))))
def L_X7_scanNumber_10 (L : TL) (t : Nat) (Q : TI → Prop) : Nat → TI → Prop
  | 0, _ => False
  | n9 + 1, I => D_X7_scanNumber_10 L t Q (fun I => L_X7_scanNumber_10 L t Q n9 I) I
def W_X7_scanNumber (I : TI) (L : TL) (t : Nat) (Q : TI → Prop) : Prop :=
  ∃ n394, L_X7_scanNumber_10 L t Q n394 (up2 (up2 I 344 4 2) 344 5 0)
def B_X7_advance_157 (I : TI) (L : TL) (t : Nat) (Q : TI → Prop) : Prop :=
  Q (up2 (up2 I 344 4 3) 344 3 (((up2 I 344 4 3) 344 3) + 1))
def B_X7_advance_122 (I : TI) (L : TL) (t : Nat) (Q : TI → Prop) : Prop :=
  vp_in (I 344 2) (LEN t) ∧ (((I t ((I 344 2).toNatClampNeg)) < 48 → B_X7_advance_157 I L t Q) ∧ (¬ (I t ((I 344 2).toNatClampNeg)) < 48 → vp_in (I 344 2) (LEN t) ∧ ((57 < (I t ((I 344 2).toNatClampNeg)) → B_X7_advance_157 I L t Q) ∧ (¬ 57 < (I t ((I 344 2).toNatClampNeg)) → W_X7_scanNumber I L t (fun (I424 : TI) => Q I424)))))
def B_X7_advance_60 (I : TI) (L : TL) (t : Nat) (Q : TI → Prop) : Prop :=
  (((up2 I 344 2 (I 344 3)) 344 2) < ((up2 I 344 2 (I 344 3)) 344 1) → vp_in ((up2 I 344 2 (I 344 3)) 344 2) (LEN t) ∧ ((((up2 I 344 2 (I 344 3)) t (((up2 I 344 2 (I 344 3)) 344 2).toNatClampNeg)) < 97 → B_X7_advance_122 (up2 I 344 2 (I 344 3)) L t Q) ∧ (¬ ((up2 I 344 2 (I 344 3)) t (((up2 I 344 2 (I 344 3)) 344 2).toNatClampNeg)) < 97 → vp_in ((up2 I 344 2 (I 344 3)) 344 2) (LEN t) ∧ ((122 < ((up2 I 344 2 (I 344 3)) t (((up2 I 344 2 (I 344 3)) 344 2).toNatClampNeg)) → B_X7_advance_122 (up2 I 344 2 (I 344 3)) L t Q) ∧ (¬ 122 < ((up2 I 344 2 (I 344 3)) t (((up2 I 344 2 (I 344 3)) 344 2).toNatClampNeg)) → W_X7_scanWord (up2 I 344 2 (I 344 3)) L t (fun (I427 : TI) => Q I427)))))) ∧ (¬ ((up2 I 344 2 (I 344 3)) 344 2) < ((up2 I 344 2 (I 344 3)) 344 1) → Q (up2 (up2 I 344 2 (I 344 3)) 344 4 0))
def B_X7_advance_47 (I : TI) (L : TL) (t : Nat) (Q : TI → Prop) (R8 : TI → Prop) : Prop :=
  R8 (up2 I 344 3 ((I 344 3) + 1))
def D_X7_advance_8 (L : TL) (t : Nat) (Q : TI → Prop) (R8 : TI → Prop) (I : TI) : Prop :=
  ((I 344 1) ≤ (I 344 3) → B_X7_advance_60 I L t Q) ∧ (¬ (I 344 1) ≤ (I 344 3) → vp_in (I 344 3) (LEN t) ∧ (((I t ((I 344 3).toNatClampNeg)) = 32 → B_X7_advance_47 I L t Q R8) ∧ (¬ (I t ((I 344 3).toNatClampNeg)) = 32 → vp_in (I 344 3) (LEN t) ∧ ((¬ (I t ((I 344 3).toNatClampNeg)) = 10 → B_X7_advance_60 I L t Q) ∧ ((I t ((I 344 3).toNatClampNeg)) = 10 → B_X7_advance_47 I L t Q R8)))))
def L_X7_advance_8 (L : TL) (t : Nat) (Q : TI → Prop) : Nat → TI → Prop
  | 0, _ => False
  | n9 + 1, I => D_X7_advance_8 L t Q (fun I => L_X7_advance_8 L t Q n9 I) I
def W_X7_advance (I : TI) (L : TL) (t : Nat) (Q : TI → Prop) : Prop :=
  W_X7_failed I L (fun (r430 : Int32) => (r430 = 0 → ∃ n431, L_X7_advance_8 L t Q n431 I) ∧ (¬ r430 = 0 → Q I))
def B_X7_takeWord_13 (p1 : Nat) (I : TI) (L : TL) (t : Nat) (Q : TI → Prop) : Prop :=
  W_X7_advance I L t (fun (I438 : TI) => Q I438)
def W_X7_takeWord (p1 : Nat) (I : TI) (L : TL) (t : Nat) (Q : TI → Prop) : Prop :=
  W_X7_isWord p1 I L t (fun (r439 : Int32) => (¬ r439 = 0 → B_X7_takeWord_13 p1 I L t Q) ∧ (r439 = 0 → W_X7_fail (1 : Int32) I L (fun (I440 : TI) => B_X7_takeWord_13 p1 I440 L t Q)))
def W_X7_isNumber (I : TI) (L : TL) (Q : Int32 → Prop) : Prop :=
  W_X7_failed I L (fun (r442 : Int32) => (¬ r442 = 0 → Q 0) ∧ (r442 = 0 → (¬ (I 344 4) = 2 → Q 0) ∧ ((I 344 4) = 2 → Q 1)))
def B_X7_peekNumber_36 (v1 : Int32) (I : TI) (L : TL) (Q : Int32 → TI → Prop) : Prop :=
  W_X7_failed I L (fun (r451 : Int32) => (r451 = 0 → Q (I 344 5) I) ∧ (¬ r451 = 0 → Q v1 I))
def B_X7_peekNumber_31 (v1 : Int32) (I : TI) (L : TL) (Q : Int32 → TI → Prop) : Prop :=
  W_X7_fail (2 : Int32) I L (fun (I452 : TI) => B_X7_peekNumber_36 v1 I452 L Q)
def W_X7_peekNumber (p1 : Int32) (p2 : Int32) (I : TI) (L : TL) (Q : Int32 → TI → Prop) : Prop :=
  W_X7_isNumber I L (fun (r453 : Int32) => (¬ r453 = 0 → ((I 344 5) < p1 → B_X7_peekNumber_31 p1 I L Q) ∧ (¬ (I 344 5) < p1 → ((I 344 5) ≤ p2 → B_X7_peekNumber_36 p1 I L Q) ∧ (¬ (I 344 5) ≤ p2 → B_X7_peekNumber_31 p1 I L Q))) ∧ (r453 = 0 → W_X7_fail (1 : Int32) I L (fun (I454 : TI) => B_X7_peekNumber_36 p1 I454 L Q)))
def W_X7_takeNumber (p1 : Int32) (p2 : Int32) (I : TI) (L : TL) (t : Nat) (Q : Int32 → TI → Prop) : Prop :=
  W_X7_peekNumber p1 p2 I L (fun (r458 : Int32) (I459 : TI) => W_X7_advance I459 L t (fun (I460 : TI) => Q r458 I460))
def W_X7_isSign (p1 : Int32) (I : TI) (L : TL) (t : Nat) (Q : Int32 → Prop) : Prop :=
  W_X7_failed I L (fun (r463 : Int32) => (¬ r463 = 0 → Q 0) ∧ (r463 = 0 → (¬ (I 344 4) = 3 → Q 0) ∧ ((I 344 4) = 3 → ((I 344 1) ≤ (I 344 2) → Q 0) ∧ (¬ (I 344 1) ≤ (I 344 2) → vp_in (I 344 2) (LEN t) ∧ ((¬ (I t ((I 344 2).toNatClampNeg)) = p1 → Q 0) ∧ ((I t ((I 344 2).toNatClampNeg)) = p1 → Q 1))))))
def B_X7_takeSign_13 (I : TI) (L : TL) (t : Nat) (Q : TI → Prop) : Prop :=
  W_X7_advance I L t (fun (I471 : TI) => Q I471)
def W_X7_takeSign (p1 : Int32) (I : TI) (L : TL) (t : Nat) (Q : TI → Prop) : Prop :=
  W_X7_isSign p1 I L t (fun (r472 : Int32) => (¬ r472 = 0 → B_X7_takeSign_13 I L t Q) ∧ (r472 = 0 → W_X7_fail (1 : Int32) I L (fun (I473 : TI) => B_X7_takeSign_13 I473 L t Q)))
def W_X1_readHead (p1 : Nat) (I : TI) (L : TL) (t : Nat) (Q : TI → Prop) : Prop :=
  W_X7_takeWord 459 I L t (fun (I484 : TI) => W_X7_takeNumber (4 : Int32) (60 : Int32) I484 L t (fun (r485 : Int32) (I486 : TI) => W_X7_takeNumber (1 : Int32) (20 : Int32) (up2 I486 (p1 + 1) 6 r485) L t (fun (r487 : Int32) (I488 : TI) => W_X7_takeNumber (0 : Int32) (9 : Int32) (up2 I488 (p1 + 6) 8 r487) L t (fun (r489 : Int32) (I490 : TI) => W_X7_takeNumber (0 : Int32) (99 : Int32) (up2 I490 (p1 + 1) 7 r489) L t (fun (r491 : Int32) (I492 : TI) => W_X7_takeSign (59 : Int32) (up2 I492 (p1 + 1) 8 r491) L t (fun (I493 : TI) => Q I493))))))
def B_X1_readWave_83 (v2 : Int64) (I : TI) (L : TL) (t : Nat) (Q : Int64 → TI → Prop) : Prop :=
  W_X7_takeSign (59 : Int32) I L t (fun (I514 : TI) => Q v2 I514)
def B_X1_readWave_60 (v1 : Int32) (v2 : Int64) (v5 : Int32) (v6 : Int32) (I : TI) (L : TL) (t : Nat) (Q : Int64 → TI → Prop) (R26 : Int64 → Int32 → Int32 → TI → Prop) : Prop :=
  W_X7_advance I L t (fun (I515 : TI) => W_X8_window v6 v1 I515 L (fun (r516 : Int64) => R26 (v2 ^^^ r516) v6 (v5 + 1) I515))
def D_X1_readWave_26 (v1 : Int32) (L : TL) (t : Nat) (Q : Int64 → TI → Prop) (R26 : Int64 → Int32 → Int32 → TI → Prop) (v2 : Int64) (v4 : Int32) (v5 : Int32) (I : TI) : Prop :=
  (60 < v5 → B_X1_readWave_83 v2 I L t Q) ∧ (¬ 60 < v5 → W_X7_isNumber I L (fun (r517 : Int32) => (r517 = 0 → B_X1_readWave_83 v2 I L t Q) ∧ (¬ r517 = 0 → W_X7_peekNumber (1 : Int32) v1 I L (fun (r518 : Int32) (I519 : TI) => (v4 < r518 → B_X1_readWave_60 v1 v2 v5 r518 I519 L t Q R26) ∧ (¬ v4 < r518 → W_X7_fail (4 : Int32) I519 L (fun (I520 : TI) => B_X1_readWave_60 v1 v2 v5 r518 I520 L t Q R26))))))
def L_X1_readWave_26 (v1 : Int32) (L : TL) (t : Nat) (Q : Int64 → TI → Prop) : Nat → Int64 → Int32 → Int32 → TI → Prop
  | 0, _, _, _, _ => False
  | n9 + 1, v2, v4, v5, I => D_X1_readWave_26 v1 L t Q (fun v2 v4 v5 I => L_X1_readWave_26 v1 L t Q n9 v2 v4 v5 I) v2 v4 v5 I
def B_X1_readWave_19 (v1 : Int32) (s0 : Int64) (I : TI) (L : TL) (t : Nat) (Q : Int64 → TI → Prop) : Prop :=
  ∃ n521, L_X1_readWave_26 v1 L t Q n521 s0 (0 : Int32) (0 : Int32) I
def W_X1_readWave (p1 : Int32) (I : TI) (L : TL) (t : Nat) (Q : Int64 → TI → Prop) : Prop :=
  W_X7_takeNumber (0 : Int32) (1 : Int32) I L t (fun (r522 : Int32) (I523 : TI) => (¬ r522 = 1 → B_X1_readWave_19 p1 (0 : Int64) I523 L t Q) ∧ (r522 = 1 → W_X8_window (0 : Int32) p1 I523 L (fun (r524 : Int64) => B_X1_readWave_19 p1 r524 I523 L t Q)))
def B_X1_readInputs_80 (p1 : Nat) (v2 : Int32) (I : TI) (L : TL) (t : Nat) (Q : TI → TL → Prop) (R16 : Int32 → TI → TL → Prop) : Prop :=
  R16 (v2 + 1) I L
def D_X1_readInputs_16 (p1 : Nat) (t : Nat) (Q : TI → TL → Prop) (R16 : Int32 → TI → TL → Prop) (v2 : Int32) (I : TI) (L : TL) : Prop :=
  (4 < v2 → Q I L) ∧ (¬ 4 < v2 → W_X7_isWord 460 I L t (fun (r543 : Int32) => (r543 = 0 → Q I L) ∧ (¬ r543 = 0 → (¬ v2 = 4 → W_X7_advance I L t (fun (I544 : TI) => W_X1_readWave (I544 (p1 + 1) 6) I544 L t (fun (r545 : Int64) (I546 : TI) => vp_in v2 4 ∧ (B_X1_readInputs_80 p1 v2 (up2 I546 (p1 + 1) 4 ((I546 (p1 + 1) 4) + 1)) (up2 L (p1 + 11) (v2.toNatClampNeg) r545) t Q R16)))) ∧ (v2 = 4 → W_X7_fail (3 : Int32) I L (fun (I548 : TI) => B_X1_readInputs_80 p1 v2 I548 L t Q R16)))))
def L_X1_readInputs_16 (p1 : Nat) (t : Nat) (Q : TI → TL → Prop) : Nat → Int32 → TI → TL → Prop
  | 0, _, _, _ => False
  | n9 + 1, v2, I, L => D_X1_readInputs_16 p1 t Q (fun v2 I L => L_X1_readInputs_16 p1 t Q n9 v2 I L) v2 I L
def B_X1_readInputs_14 (p1 : Nat) (I : TI) (L : TL) (t : Nat) (Q : TI → TL → Prop) : Prop :=
  ∃ n549, L_X1_readInputs_16 p1 t Q n549 (0 : Int32) I L
def W_X1_readInputs (p1 : Nat) (I : TI) (L : TL) (t : Nat) (Q : TI → TL → Prop) : Prop :=
  W_X7_isWord 460 I L t (fun (r550 : Int32) => (¬ r550 = 0 → B_X1_readInputs_14 p1 I L t Q) ∧ (r550 = 0 → W_X7_fail (1 : Int32) I L (fun (I551 : TI) => B_X1_readInputs_14 p1 I551 L t Q)))
def W_X8_kindWord (p0 : Int32) (I : TI) (L : TL) (Q : Nat → Prop) : Prop :=
  (p0 = 0 → Q 462) ∧ (p0 = 1 → Q 463) ∧ (p0 = 2 → Q 464) ∧ (p0 = 3 → Q 465) ∧ (p0 = 4 → Q 466) ∧ (p0 = 5 → Q 467) ∧ (p0 < 0 ∨ 5 < p0 → Q 468)
def D_X1_readKind_2 (I : TI) (L : TL) (t : Nat) (Q : Int32 → TI → Prop) (R2 : Int32 → Prop) (v1 : Int32) : Prop :=
  (7 ≤ v1 → W_X7_fail (1 : Int32) I L (fun (I560 : TI) => Q 0 I560)) ∧ (¬ 7 ≤ v1 → W_X8_kindWord v1 I L (fun (r561 : Nat) => W_X7_isWord r561 I L t (fun (r562 : Int32) => (r562 = 0 → R2 (v1 + 1)) ∧ (¬ r562 = 0 → W_X7_advance I L t (fun (I563 : TI) => Q v1 I563)))))
def L_X1_readKind_2 (I : TI) (L : TL) (t : Nat) (Q : Int32 → TI → Prop) : Nat → Int32 → Prop
  | 0, _ => False
  | n9 + 1, v1 => D_X1_readKind_2 I L t Q (fun v1 => L_X1_readKind_2 I L t Q n9 v1) v1
def W_X1_readKind (I : TI) (L : TL) (t : Nat) (Q : Int32 → TI → Prop) : Prop :=
  ∃ n564, L_X1_readKind_2 I L t Q n564 (0 : Int32)
def B_X2_addGate_62 (p0 : Nat) (s1 : Int32) (s2 : Int32) (s3 : Int32) (I : TI) (L : TL) (Q : TI → Prop) : Prop :=
  vp_in s1 16 ∧ (∀ I580 : TI, I580 = (up2 (up2 I (p0 + 4) (s1.toNatClampNeg) (s2 ||| s3)) p0 5 (((up2 I (p0 + 4) (s1.toNatClampNeg) (s2 ||| s3)) p0 5) + 1)) → (Q I580))
def W_X2_addGate (p0 : Nat) (p1 : Int32) (p2 : Int32) (p3 : Int32) (I : TI) (L : TL) (Q : TI → Prop) : Prop :=
  W_X2_nets p0 I L (fun (r581 : Int32) => vp_in r581 16 ∧ (vp_in r581 16 ∧ (∀ I584 : TI, I584 = (up2 (up2 I (p0 + 1) (r581.toNatClampNeg) p1) (p0 + 2) (r581.toNatClampNeg) p2) → (vp_in r581 16 ∧ (vp_in p2 16 ∧ ((¬ p3 = (-1) → vp_in p3 16 ∧ (B_X2_addGate_62 p0 r581 (((1 : Int32) <<< (r581 &&& 31)) ||| ((up2 I584 (p0 + 3) (r581.toNatClampNeg) p3) (p0 + 4) (p2.toNatClampNeg))) ((up2 I584 (p0 + 3) (r581.toNatClampNeg) p3) (p0 + 4) (p3.toNatClampNeg)) (up2 I584 (p0 + 3) (r581.toNatClampNeg) p3) L Q)) ∧ (p3 = (-1) → B_X2_addGate_62 p0 r581 (((1 : Int32) <<< (r581 &&& 31)) ||| ((up2 I584 (p0 + 3) (r581.toNatClampNeg) p3) (p0 + 4) (p2.toNatClampNeg))) (0 : Int32) (up2 I584 (p0 + 3) (r581.toNatClampNeg) p3) L Q)))))))
def B_X1_readGate_81 (p1 : Nat) (v2 : Int32) (v3 : Int32) (v4 : Int32) (v5 : Int32) (v6 : Int32) (I : TI) (L : TL) (t : Nat) (Q : TI → Prop) (R45 : Int32 → TI → Prop) : Prop :=
  R45 (v6 + 1) I
def D_X1_readGate_45 (p1 : Nat) (v2 : Int32) (v3 : Int32) (v4 : Int32) (v5 : Int32) (L : TL) (t : Nat) (Q : TI → Prop) (R45 : Int32 → TI → Prop) (v6 : Int32) (I : TI) : Prop :=
  (3 ≤ v6 → W_X7_takeSign (59 : Int32) I L t (fun (I625 : TI) => W_X7_failed I625 L (fun (r626 : Int32) => (¬ r626 = 0 → Q I625) ∧ (r626 = 0 → W_X2_addGate (p1 + 1) v3 v4 v5 I625 L (fun (I627 : TI) => Q I627))))) ∧ (¬ 3 ≤ v6 → W_X7_takeNumber (1 : Int32) (9 : Int32) I L t (fun (r628 : Int32) (I629 : TI) => W_X7_failed I629 L (fun (r630 : Int32) => (¬ r630 = 0 → B_X1_readGate_81 p1 v2 v3 v4 v5 v6 I629 L t Q R45) ∧ (r630 = 0 → vp_in v6 3 ∧ (vp_in v2 16 ∧ (∀ I633 : TI, I633 = (up2 I629 ((p1 + 8) + v6.toNatClampNeg) (v2.toNatClampNeg) r628) → (B_X1_readGate_81 p1 v2 v3 v4 v5 v6 I633 L t Q R45)))))))
def L_X1_readGate_45 (p1 : Nat) (v2 : Int32) (v3 : Int32) (v4 : Int32) (v5 : Int32) (L : TL) (t : Nat) (Q : TI → Prop) : Nat → Int32 → TI → Prop
  | 0, _, _ => False
  | n9 + 1, v6, I => D_X1_readGate_45 p1 v2 v3 v4 v5 L t Q (fun v6 I => L_X1_readGate_45 p1 v2 v3 v4 v5 L t Q n9 v6 I) v6 I
def B_X1_readGate_40 (p1 : Nat) (v2 : Int32) (v3 : Int32) (v4 : Int32) (s0 : Int32) (I : TI) (L : TL) (t : Nat) (Q : TI → Prop) : Prop :=
  ∃ n634, L_X1_readGate_45 p1 v2 v3 v4 s0 L t Q n634 (0 : Int32) I
def W_X1_readGate (p1 : Nat) (I : TI) (L : TL) (t : Nat) (Q : TI → Prop) : Prop :=
  W_X2_nets (p1 + 1) I L (fun (r635 : Int32) => W_X1_readKind I L t (fun (r636 : Int32) (I637 : TI) => W_X7_takeNumber (0 : Int32) (r635 - 1) I637 L t (fun (r638 : Int32) (I639 : TI) => (5 ≤ r636 → B_X1_readGate_40 p1 r635 r636 r638 ((-1) : Int32) I639 L t Q) ∧ (¬ 5 ≤ r636 → W_X7_takeNumber (0 : Int32) (r635 - 1) I639 L t (fun (r640 : Int32) (I641 : TI) => B_X1_readGate_40 p1 r635 r636 r638 r640 I641 L t Q)))))
def B_X1_readGates_40 (p1 : Nat) (v2 : Int32) (I : TI) (L : TL) (t : Nat) (Q : TI → Prop) (R2 : Int32 → TI → Prop) : Prop :=
  R2 (v2 + 1) I
def D_X1_readGates_2 (p1 : Nat) (L : TL) (t : Nat) (Q : TI → Prop) (R2 : Int32 → TI → Prop) (v2 : Int32) (I : TI) : Prop :=
  (12 < v2 → Q I) ∧ (¬ 12 < v2 → W_X7_isWord 461 I L t (fun (r650 : Int32) => (r650 = 0 → Q I) ∧ (¬ r650 = 0 → (¬ v2 = 12 → W_X7_advance I L t (fun (I651 : TI) => W_X1_readGate p1 I651 L t (fun (I652 : TI) => B_X1_readGates_40 p1 v2 I652 L t Q R2))) ∧ (v2 = 12 → W_X7_fail (3 : Int32) I L (fun (I653 : TI) => B_X1_readGates_40 p1 v2 I653 L t Q R2)))))
def L_X1_readGates_2 (p1 : Nat) (L : TL) (t : Nat) (Q : TI → Prop) : Nat → Int32 → TI → Prop
  | 0, _, _ => False
  | n9 + 1, v2, I => D_X1_readGates_2 p1 L t Q (fun v2 I => L_X1_readGates_2 p1 L t Q n9 v2 I) v2 I
def W_X1_readGates (p1 : Nat) (I : TI) (L : TL) (t : Nat) (Q : TI → Prop) : Prop :=
  ∃ n654, L_X1_readGates_2 p1 L t Q n654 (0 : Int32) I
def D_X1_readPurses_15 (p1 : Nat) (L : TL) (t : Nat) (Q : TI → Prop) (R15 : Int32 → TI → Prop) (v2 : Int32) (I : TI) : Prop :=
  (3 ≤ v2 → W_X7_takeSign (59 : Int32) I L t (fun (I667 : TI) => Q I667)) ∧ (¬ 3 ≤ v2 → W_X7_takeNumber (0 : Int32) (99999 : Int32) I L t (fun (r668 : Int32) (I669 : TI) => vp_in v2 3 ∧ (R15 (v2 + 1) (up2 I669 (p1 + 15) (v2.toNatClampNeg) r668))))
def L_X1_readPurses_15 (p1 : Nat) (L : TL) (t : Nat) (Q : TI → Prop) : Nat → Int32 → TI → Prop
  | 0, _, _ => False
  | n9 + 1, v2, I => D_X1_readPurses_15 p1 L t Q (fun v2 I => L_X1_readPurses_15 p1 L t Q n9 v2 I) v2 I
def W_X1_readPurses (p1 : Nat) (I : TI) (L : TL) (t : Nat) (Q : TI → Prop) : Prop :=
  W_X7_isWord 469 I L t (fun (r671 : Int32) => (r671 = 0 → Q I) ∧ (¬ r671 = 0 → W_X7_advance I L t (fun (I672 : TI) => ∃ n673, L_X1_readPurses_15 p1 L t Q n673 (0 : Int32) I672)))
def W_X7_isEnd (I : TI) (L : TL) (Q : Int32 → Prop) : Prop :=
  W_X7_failed I L (fun (r675 : Int32) => (¬ r675 = 0 → Q 0) ∧ (r675 = 0 → (¬ (I 344 4) = 0 → Q 0) ∧ ((I 344 4) = 0 → Q 1)))
def W_X1_read (p1 : Nat) (I : TI) (L : TL) (t : Nat) (Q : TI → TL → Prop) : Prop :=
  W_X1_readHead p1 I L t (fun (I683 : TI) => W_X1_readInputs p1 I683 L t (fun (I684 : TI) (L685 : TL) => W_X1_readGates p1 I684 L685 t (fun (I686 : TI) => W_X1_readPurses p1 I686 L685 t (fun (I687 : TI) => W_X7_isEnd I687 L685 (fun (r688 : Int32) => (¬ r688 = 0 → Q I687 L685) ∧ (r688 = 0 → W_X7_fail (1 : Int32) I687 L685 (fun (I689 : TI) => Q I689 L685)))))))
def W_X2_hasNet (p0 : Nat) (p1 : Int32) (I : TI) (L : TL) (Q : Int32 → Prop) : Prop :=
  (p1 < 0 → Q 0) ∧ (¬ p1 < 0 → W_X2_nets p0 I L (fun (r691 : Int32) => (r691 ≤ p1 → Q 0) ∧ (¬ r691 ≤ p1 → Q 1)))
def W_X2_hasTime (p0 : Nat) (p1 : Int32) (I : TI) (L : TL) (Q : Int32 → Prop) : Prop :=
  (p1 < 0 → Q 0) ∧ (¬ p1 < 0 → ((I p0 6) < p1 → Q 0) ∧ (¬ (I p0 6) < p1 → Q 1))
def W_X3_start (p0 : Nat) (p1 : Int32) (p2 : Int32) (p3 : Int32) (p4 : Int32) (p5 : Int32) (p6 : Int32) (I : TI) (L : TL) (Q : TI → Prop) : Prop :=
  ∀ I693 : TI, I693 = (up2 (up2 (up2 (up2 (up2 I p0 0 p1) p0 1 p2) p0 2 p3) p0 3 p4) p0 4 p5) → ((p6 = 0 ∨ p6 = 1) ∧ (Q (up2 (up2 (up2 I693 p0 5 p6) p0 6 0) p0 7 (-1))))
def W_X3_copyFrom (p0 : Nat) (p1 : Nat) (I : TI) (L : TL) (Q : TI → Prop) : Prop :=
  W_X3_start p0 (I p1 0) (I p1 1) (I p1 2) (I p1 3) (I p1 4) (I p1 5) I L (fun (I696 : TI) => ∀ I697 : TI, I697 = (up2 (up2 I696 p0 6 (I696 p1 6)) p0 7 ((up2 I696 p0 6 (I696 p1 6)) p1 7)) → (Q I697))
def W_X3_times (p0 : Nat) (I : TI) (L : TL) (Q : Int32 → Prop) : Prop :=
  Q (((I p0 2) - (I p0 1)) + 1)
def B_X3_loserBy_17 (p0 : Nat) (s0 : Int32) (I : TI) (L : TL) (Q : Int32 → Prop) : Prop :=
  (¬ s0 = (I p0 5) → Q (I p0 4)) ∧ (s0 = (I p0 5) → Q ((1 : Int32) - (I p0 4)))
def W_X3_loserBy (p0 : Nat) (p1 : Int32) (I : TI) (L : TL) (Q : Int32 → Prop) : Prop :=
  (¬ p1 = (-1) → (¬ p1 = 1 → B_X3_loserBy_17 p0 (0 : Int32) I L Q) ∧ (p1 = 1 → B_X3_loserBy_17 p0 (1 : Int32) I L Q)) ∧ (p1 = (-1) → Q (-1))
def D_X6_copyFrom_115 (p0 : Nat) (p1 : Nat) (L : TL) (Q : TI → TL → Prop) (R115 : Int32 → TI → Prop) (v2 : Int32) (I : TI) : Prop :=
  ((I p0 7) ≤ v2 → Q (up2 I p0 8 (I p1 8)) L) ∧ (¬ (I p0 7) ≤ v2 → vp_in v2 20 ∧ (vp_in v2 20 ∧ (W_X3_copyFrom ((p0 + 11) + v2.toNatClampNeg) ((p1 + 11) + v2.toNatClampNeg) I L (fun (I707 : TI) => R115 (v2 + 1) I707))))
def L_X6_copyFrom_115 (p0 : Nat) (p1 : Nat) (L : TL) (Q : TI → TL → Prop) : Nat → Int32 → TI → Prop
  | 0, _, _ => False
  | n9 + 1, v2, I => D_X6_copyFrom_115 p0 p1 L Q (fun v2 I => L_X6_copyFrom_115 p0 p1 L Q n9 v2 I) v2 I
def D_X6_copyFrom_2 (p0 : Nat) (p1 : Nat) (L : TL) (Q : TI → TL → Prop) (R2 : Int32 → TI → Prop) (v2 : Int32) (I : TI) : Prop :=
  (3 ≤ v2 → ∀ L708 : TL, L708 = (cpy (cpy L (p1 + 5) (p0 + 5) 0 0 4) (p1 + 6) (p0 + 6) 0 0 16) → (∀ L709 : TL, L709 = (cpy (cpy L708 (p1 + 7) (p0 + 7) 0 0 16) (p1 + 8) (p0 + 8) 0 0 16) → (∀ I710 : TI, I710 = (up2 (cpy I (p1 + 9) (p0 + 9) 0 0 3) p0 7 ((cpy I (p1 + 9) (p0 + 9) 0 0 3) p1 7)) → (∃ n711, L_X6_copyFrom_115 p0 p1 L709 Q n711 (0 : Int32) I710)))) ∧ (¬ 3 ≤ v2 → vp_in v2 3 ∧ (vp_in v2 3 ∧ (∀ I714 : TI, I714 = (cpy I ((p1 + 2) + v2.toNatClampNeg) ((p0 + 2) + v2.toNatClampNeg) 0 0 16) → (R2 (v2 + 1) I714))))
def L_X6_copyFrom_2 (p0 : Nat) (p1 : Nat) (L : TL) (Q : TI → TL → Prop) : Nat → Int32 → TI → Prop
  | 0, _, _ => False
  | n9 + 1, v2, I => D_X6_copyFrom_2 p0 p1 L Q (fun v2 I => L_X6_copyFrom_2 p0 p1 L Q n9 v2 I) v2 I
def W_X6_copyFrom (p0 : Nat) (p1 : Nat) (I : TI) (L : TL) (Q : TI → TL → Prop) : Prop :=
  ∃ n715, L_X6_copyFrom_2 p0 p1 L Q n715 (0 : Int32) I
def B_X4_record_33 (p1 : Nat) (s1 : Int32) (I : TI) (L : TL) (Q : TI → TL → Prop) : Prop :=
  ∀ I722 : TI, I722 = (up2 (up2 I 1 4 s1) 1 3 (mnI (((up2 I 1 4 s1) 1 3) + 1) (10 : Int32))) → (Q I722 L)
def W_X4_record (p1 : Nat) (I : TI) (L : TL) (Q : TI → TL → Prop) : Prop :=
  vp_in (I 1 4) 10 ∧ (W_X6_copyFrom (34 + 31 * (I 1 4).toNatClampNeg) p1 I L (fun (I724 : TI) (L725 : TL) => (¬ (I724 1 4) = 9 → B_X4_record_33 p1 ((I724 1 4) + 1) I724 L725 Q) ∧ ((I724 1 4) = 9 → B_X4_record_33 p1 (0 : Int32) I724 L725 Q)))
def W_X4_discardAll (I : TI) (L : TL) (Q : TI → Prop) : Prop :=
  Q (up2 (up2 I 1 3 0) 1 2 0)
def W_X6_settledTimes (p0 : Nat) (p1 : Int32) (I : TI) (L : TL) (Q : Int32 → Prop) : Prop :=
  vp_in p1 16 ∧ (W_J13_bitCount_95d88 (L (p0 + 6) (p1.toNatClampNeg)) I L (fun (r729 : Int32) => Q r729))
def W_X6_ruledTimes (p0 : Nat) (p1 : Int32) (I : TI) (L : TL) (Q : Int32 → Prop) : Prop :=
  vp_in p1 16 ∧ (vp_in p1 16 ∧ (W_J13_bitCount_95d88 ((L (p0 + 7) (p1.toNatClampNeg)) &&& ((L (p0 + 6) (p1.toNatClampNeg)) ^^^ (-1))) I L (fun (r735 : Int32) => Q r735)))
def W_X6_timeState (p0 : Nat) (p1 : Int32) (p2 : Int32) (I : TI) (L : TL) (Q : Int32 → Prop) : Prop :=
  vp_in p1 16 ∧ (W_X8_bitOf (L (p0 + 6) (p1.toNatClampNeg)) p2 I L (fun (r741 : Int32) => (¬ r741 = 1 → vp_in p1 16 ∧ (W_X8_bitOf (L (p0 + 7) (p1.toNatClampNeg)) p2 I L (fun (r743 : Int32) => Q r743))) ∧ (r741 = 1 → Q 2)))
def B_X6_hasPending_66 (p0 : Nat) (v1 : Int32) (v2 : Int32) (v3 : Int32) (v5 : Int32) (s0 : Int32) (s1 : Int32) (I : TI) (L : TL) (Q : Int32 → Prop) (R6 : Int32 → Int32 → Prop) : Prop :=
  R6 (s0 ||| s1) (v5 + 1)
def B_X6_hasPending_65 (p0 : Nat) (v1 : Int32) (v2 : Int32) (v3 : Int32) (v5 : Int32) (s0 : Int32) (I : TI) (L : TL) (Q : Int32 → Prop) (R6 : Int32 → Int32 → Prop) : Prop :=
  B_X6_hasPending_66 p0 v1 v2 v3 v5 s0 (0 : Int32) I L Q R6
def D_X6_hasPending_6 (p0 : Nat) (v1 : Int32) (v2 : Int32) (v3 : Int32) (I : TI) (L : TL) (Q : Int32 → Prop) (R6 : Int32 → Int32 → Prop) (v4 : Int32) (v5 : Int32) : Prop :=
  ((I p0 7) ≤ v5 → (v4 = 0 ∨ v4 = 1) ∧ (Q v4)) ∧ (¬ (I p0 7) ≤ v5 → vp_in v5 20 ∧ (W_X3_isPending ((p0 + 11) + v5.toNatClampNeg) I L (fun (r752 : Int32) => (r752 = 0 → B_X6_hasPending_65 p0 v1 v2 v3 v5 v4 I L Q R6) ∧ (¬ r752 = 0 → (¬ (I ((p0 + 11) + v5.toNatClampNeg) 0) = v1 → B_X6_hasPending_65 p0 v1 v2 v3 v5 v4 I L Q R6) ∧ ((I ((p0 + 11) + v5.toNatClampNeg) 0) = v1 → (v3 < (I ((p0 + 11) + v5.toNatClampNeg) 1) → B_X6_hasPending_65 p0 v1 v2 v3 v5 v4 I L Q R6) ∧ (¬ v3 < (I ((p0 + 11) + v5.toNatClampNeg) 1) → ((I ((p0 + 11) + v5.toNatClampNeg) 2) < v2 → B_X6_hasPending_65 p0 v1 v2 v3 v5 v4 I L Q R6) ∧ (¬ (I ((p0 + 11) + v5.toNatClampNeg) 2) < v2 → B_X6_hasPending_66 p0 v1 v2 v3 v5 v4 (1 : Int32) I L Q R6)))))))
def L_X6_hasPending_6 (p0 : Nat) (v1 : Int32) (v2 : Int32) (v3 : Int32) (I : TI) (L : TL) (Q : Int32 → Prop) : Nat → Int32 → Int32 → Prop
  | 0, _, _ => False
  | n9 + 1, v4, v5 => D_X6_hasPending_6 p0 v1 v2 v3 I L Q (fun v4 v5 => L_X6_hasPending_6 p0 v1 v2 v3 I L Q n9 v4 v5) v4 v5
def W_X6_hasPending (p0 : Nat) (p1 : Int32) (p2 : Int32) (p3 : Int32) (I : TI) (L : TL) (Q : Int32 → Prop) : Prop :=
  ∃ n753, L_X6_hasPending_6 p0 p1 p2 p3 I L Q n753 (0 : Int32) (0 : Int32)
def W_X6_payCourt (p0 : Nat) (p1 : Int32) (p2 : Int32) (I : TI) (L : TL) (Q : TI → Prop) : Prop :=
  vp_in p1 3 ∧ (vp_in p1 3 ∧ (∀ I758 : TI, I758 = (up2 I (p0 + 9) (p1.toNatClampNeg) ((I (p0 + 9) (p1.toNatClampNeg)) - p2)) → (Q (up2 I758 (p0 + 9) 2 ((I758 (p0 + 9) 2) + p2)))))
def W_X7_begin (p2 : Int32) (I : TI) (L : TL) (t : Nat) (Q : TI → Nat → Prop) : Prop :=
  ∀ I760 : TI, I760 = (up2 (up2 (up2 (up2 I 344 1 (mnI p2 (nI 600))) 344 3 0) 344 6 0) 344 7 (-1)) → (W_X7_advance I760 L 350 (fun (I761 : TI) => Q I761 350))
def D_X8_putBytes_3 (v1 : Int32) (L : TL) (Q : TI → Prop) (R3 : Int32 → TI → Prop) (v2 : Int32) (I : TI) : Prop :=
  (v2 < 0 → Q I) ∧ (¬ v2 < 0 → (600 ≤ (I 0 7) → Q I) ∧ (¬ 600 ≤ (I 0 7) → vp_in (I 0 7) 600 ∧ (∀ I765 : TI, I765 = (up2 I 350 ((I 0 7).toNatClampNeg) ((ushI v1 v2).toInt8.toInt32).toInt8.toInt32) → (R3 (v2 + (-8)) (up2 I765 0 7 ((I765 0 7) + 1))))))
def L_X8_putBytes_3 (v1 : Int32) (L : TL) (Q : TI → Prop) : Nat → Int32 → TI → Prop
  | 0, _, _ => False
  | n9 + 1, v2, I => D_X8_putBytes_3 v1 L Q (fun v2 I => L_X8_putBytes_3 v1 L Q n9 v2 I) v2 I
def W_X8_putBytes (p1 : Int32) (I : TI) (L : TL) (Q : TI → Prop) : Prop :=
  ∃ n766, L_X8_putBytes_3 p1 L Q n766 (24 : Int32) I
def W_X8_feed (p1 : Int32) (p2 : Int32) (p3 : Int32) (p4 : Int32) (p5 : Int32) (I : TI) (L : TL) (Q : Int32 → TI → Prop) : Prop :=
  ((I 0 7) ≤ 580 → W_X8_putBytes p1 I L (fun (I772 : TI) => W_X8_putBytes p2 I772 L (fun (I773 : TI) => W_X8_putBytes p3 I773 L (fun (I774 : TI) => W_X8_putBytes p4 I774 L (fun (I775 : TI) => W_X8_putBytes p5 I775 L (fun (I776 : TI) => Q (I776 0 7) I776)))))) ∧ (¬ (I 0 7) ≤ 580 → Q (-1) I)
def W_X8_load (p1 : Int32) (I : TI) (L : TL) (b : Nat) (d : Nat) (t : Nat) (Q : Int32 → TI → TL → Nat → Nat → Nat → Prop) (QX : String → TI → TL → Nat → Nat → Nat → Prop) : Prop :=
  (p1 < 0 → QX "java/lang/IllegalArgumentException" I L b d t) ∧ (¬ p1 < 0 → (p1 ≤ (I 0 7) → W_X7_begin p1 I L t (fun (I789 : TI) (t790 : Nat) => txOK t790 ∧ (W_X0_clear d I789 L (fun (I792 : TI) (L793 : TL) => W_X1_read d I792 L793 t790 (fun (I794 : TI) (L795 : TL) => W_X7_failed (up2 (up2 I794 0 7 0) 0 9 ((up2 I794 0 7 0) 344 7)) L795 (fun (r796 : Int32) => (r796 = 0 → W_X0_refresh d (up2 (up2 I794 0 7 0) 0 9 ((up2 I794 0 7 0) 344 7)) L795 (fun (I797 : TI) (L798 : TL) => W_X4_discardAll I797 L798 (fun (I799 : TI) => W_X2_nets (d + 1) I799 L798 (fun (r800 : Int32) => Q r800 I799 L798 d b t790)))) ∧ (¬ r796 = 0 → Q (((-10) : Int32) - ((up2 (up2 I794 0 7 0) 0 9 ((up2 I794 0 7 0) 344 7)) 344 6)) (up2 (up2 I794 0 7 0) 0 9 ((up2 I794 0 7 0) 344 7)) L795 b d t790))))))) ∧ (¬ p1 ≤ (I 0 7) → QX "java/lang/IllegalArgumentException" I L b d t))
def W_X8_errorPosition (I : TI) (L : TL) (Q : Int32 → Prop) : Prop :=
  Q (I 0 9)
def W_X8_size (p1 : Int32) (I : TI) (L : TL) (b : Nat) (d : Nat) (Q : Int32 → Prop) (QX : String → Prop) : Prop :=
  (p1 = 0 → Q (I (b + 1) 4)) ∧ (p1 = 1 → Q (I (b + 1) 5)) ∧ (p1 = 2 → Q (I (b + 1) 6)) ∧ (p1 = 3 → Q (I (b + 6) 8)) ∧ (p1 = 4 → Q (I (b + 1) 7)) ∧ (p1 = 5 → Q (I (b + 1) 8)) ∧ (p1 = 6 → Q (I (b + 6) 7)) ∧ (p1 = 7 → Q (I (b + 15) 0)) ∧ (p1 = 8 → Q (I (b + 15) 1)) ∧ (p1 = 9 → Q (I (b + 15) 2)) ∧ (p1 < 0 ∨ 9 < p1 → QX "java/util/NoSuchElementException")
def W_X8_requireGate (p1 : Int32) (I : TI) (L : TL) (b : Nat) (d : Nat) (Q : Prop) (QX : String → Prop) : Prop :=
  W_X2_hasGate (b + 1) p1 I L (fun (r802 : Int32) => (¬ r802 = 0 → Q) ∧ (r802 = 0 → QX "java/util/NoSuchElementException"))
def W_X8_gate (p1 : Int32) (p2 : Int32) (I : TI) (L : TL) (b : Nat) (d : Nat) (Q : Int32 → Prop) (QX : String → Prop) : Prop :=
  W_X8_requireGate p1 I L b d ((p2 = 0 → vp_in p1 16 ∧ (Q (I (b + 2) (p1.toNatClampNeg)))) ∧ (p2 = 1 → vp_in p1 16 ∧ (Q (I (b + 3) (p1.toNatClampNeg)))) ∧ (p2 = 2 → vp_in p1 16 ∧ (Q (I (b + 4) (p1.toNatClampNeg)))) ∧ (p2 = 3 → vp_in p1 16 ∧ (Q (I (b + 8) (p1.toNatClampNeg)))) ∧ (p2 = 4 → vp_in p1 16 ∧ (Q (I (b + 9) (p1.toNatClampNeg)))) ∧ (p2 = 5 → vp_in p1 16 ∧ (Q (I (b + 10) (p1.toNatClampNeg)))) ∧ (p2 = 6 → W_X2_cone (b + 1) p1 I L (fun (r819 : Int32) => Q r819)) ∧ (p2 = 7 → W_X6_settledTimes (b + 6) p1 I L (fun (r820 : Int32) => Q r820)) ∧ (p2 = 8 → W_X6_ruledTimes (b + 6) p1 I L (fun (r821 : Int32) => Q r821)) ∧ (p2 = 9 → W_X0_pulses b p1 I L (fun (r822 : Int32) => Q r822)) ∧ (p2 < 0 ∨ 9 < p2 → QX "java/util/NoSuchElementException")) (fun (e9 : String) => QX e9)
def W_X8_requireNet (p1 : Int32) (I : TI) (L : TL) (b : Nat) (d : Nat) (Q : Prop) (QX : String → Prop) : Prop :=
  W_X2_hasNet (b + 1) p1 I L (fun (r824 : Int32) => (¬ r824 = 0 → Q) ∧ (r824 = 0 → QX "java/util/NoSuchElementException"))
def W_X8_requireTimes (p1 : Int32) (p2 : Int32) (I : TI) (L : TL) (b : Nat) (d : Nat) (Q : Prop) (QX : String → Prop) : Prop :=
  W_X2_hasTime (b + 1) p1 I L (fun (r827 : Int32) => (r827 = 0 → QX "java/lang/IllegalArgumentException") ∧ (¬ r827 = 0 → W_X2_hasTime (b + 1) p2 I L (fun (r828 : Int32) => (r828 = 0 → QX "java/lang/IllegalArgumentException") ∧ (¬ r828 = 0 → (p1 ≤ p2 → Q) ∧ (¬ p1 ≤ p2 → QX "java/lang/IllegalArgumentException")))))
def W_X8_requireWave (p1 : Int32) (p2 : Int32) (I : TI) (L : TL) (b : Nat) (d : Nat) (Q : Int64 → Prop) (QX : String → Prop) : Prop :=
  W_X8_requireNet p1 I L b d ((p2 = 0 → vp_in p1 16 ∧ (Q (L (b + 37) (p1.toNatClampNeg)))) ∧ (p2 = 1 → vp_in p1 16 ∧ (Q (L (b + 38) (p1.toNatClampNeg)))) ∧ (p2 = 2 → vp_in p1 16 ∧ (Q (L (b + 39) (p1.toNatClampNeg)))) ∧ (p2 < 0 ∨ 2 < p2 → QX "java/util/NoSuchElementException")) (fun (e9 : String) => QX e9)
def W_X8_stateAt (p1 : Int32) (p2 : Int32) (I : TI) (L : TL) (b : Nat) (d : Nat) (Q : Int32 → Prop) (QX : String → Prop) : Prop :=
  W_X8_requireNet p1 I L b d (W_X2_hasTime (b + 1) p2 I L (fun (r837 : Int32) => (¬ r837 = 0 → W_X6_timeState (b + 6) p1 p2 I L (fun (r838 : Int32) => Q r838)) ∧ (r837 = 0 → QX "java/util/NoSuchElementException"))) (fun (e9 : String) => QX e9)
def W_X8_wave (p1 : Int32) (p2 : Int32) (I : TI) (L : TL) (b : Nat) (d : Nat) (Q : Int64 → Prop) (QX : String → Prop) : Prop :=
  W_X8_requireWave p1 p2 I L b d (fun (r840 : Int64) => Q r840) (fun (e9 : String) => QX e9)
def W_X8_dependsOn (p1 : Int32) (I : TI) (L : TL) (b : Nat) (d : Nat) (Q : Int32 → Prop) (QX : String → Prop) : Prop :=
  W_X8_requireGate p1 I L b d (vp_in p1 16 ∧ (Q (I (b + 5) (p1.toNatClampNeg)))) (fun (e9 : String) => QX e9)
def W_X8_requirePulse (p1 : Int32) (p2 : Int32) (I : TI) (L : TL) (b : Nat) (d : Nat) (Q : Int32 → Prop) (QX : String → Prop) : Prop :=
  W_X8_requireGate p1 I L b d (W_X0_pulseStart b p1 p2 I L (fun (r844 : Int32) => (¬ r844 = (-1) → Q r844) ∧ (r844 = (-1) → QX "java/util/NoSuchElementException"))) (fun (e9 : String) => QX e9)
def W_X8_requireDispute (p1 : Int32) (I : TI) (L : TL) (b : Nat) (d : Nat) (Q : Nat → Prop) (QX : String → Prop) : Prop :=
  (p1 < 0 → QX "java/util/NoSuchElementException") ∧ (¬ p1 < 0 → (p1 < (I (b + 6) 7) → vp_in p1 20 ∧ (Q ((b + 17) + p1.toNatClampNeg))) ∧ (¬ p1 < (I (b + 6) 7) → QX "java/util/NoSuchElementException"))
def W_X8_cost (p1 : Int32) (p2 : Int32) (p3 : Int32) (I : TI) (L : TL) (b : Nat) (d : Nat) (Q : Int32 → Prop) (QX : String → Prop) : Prop :=
  W_X8_requireGate p1 I L b d (W_X8_requireTimes p2 p3 I L b d (W_X0_price b p1 p2 p3 I L (fun (r848 : Int32) => Q r848)) (fun (e9 : String) => QX e9)) (fun (e9 : String) => QX e9)
def B_X8_open_28 (v1 : Int32) (v2 : Int32) (v4 : Int32) (v5 : Int32) (I : TI) (L : TL) (b : Nat) (d : Nat) (Q : Int32 → TI → TL → Prop) (QX : String → TI → TL → Prop) : Prop :=
  W_X0_runEnd b v2 v5 I L (fun (r867 : Int32) => W_X6_hasPending (b + 6) v2 v5 r867 I L (fun (r868 : Int32) => (r868 = 0 → ((I (b + 6) 7) < 20 → W_X4_record (b + 6) I L (fun (I869 : TI) (L870 : TL) => vp_in (I (b + 6) 7) 20 ∧ (vp_in v2 16 ∧ (W_X8_bitOf (L870 (b + 37) (v2.toNatClampNeg)) v5 (up2 I869 (b + 6) 7 ((I869 (b + 6) 7) + 1)) L870 (fun (r873 : Int32) => W_X3_start ((b + 17) + (I (b + 6) 7).toNatClampNeg) v2 v5 r867 r873 v1 v4 (up2 I869 (b + 6) 7 ((I869 (b + 6) 7) + 1)) L870 (fun (I874 : TI) => Q (I (b + 6) 7) I874 L870)))))) ∧ (¬ (I (b + 6) 7) < 20 → Q (-3) I L)) ∧ (¬ r868 = 0 → Q (-2) I L)))
def W_X8_open (p1 : Int32) (p2 : Int32) (p3 : Int32) (p4 : Int32) (I : TI) (L : TL) (b : Nat) (d : Nat) (Q : Int32 → TI → TL → Prop) (QX : String → TI → TL → Prop) : Prop :=
  W_X8_requirePulse p2 p3 I L b d (fun (r875 : Int32) => (p1 = 0 → B_X8_open_28 p1 p2 p4 r875 I L b d Q QX) ∧ (¬ p1 = 0 → (p1 = 1 → B_X8_open_28 p1 p2 p4 r875 I L b d Q QX) ∧ (¬ p1 = 1 → QX "java/lang/IllegalArgumentException" I L))) (fun (e9 : String) => QX e9 I L)
def W_X8_judge (p1 : Int32) (I : TI) (L : TL) (b : Nat) (d : Nat) (Q : Int32 → TI → TL → Prop) (QX : String → TI → TL → Prop) : Prop :=
  W_X8_requireDispute p1 I L b d (fun (r885 : Nat) => LAY r885 = 2 ∧ (((I r885 6) = 0 → W_X3_times r885 I L (fun (r887 : Int32) => W_X0_cheapVerdict b (I r885 0) r887 (I r885 3) I L (fun (r888 : Int32) => W_X3_loserBy r885 r888 I L (fun (r889 : Int32) => vp_in r889 3 ∧ (((I (b + 1) 8) ≤ (I (b + 15) (r889.toNatClampNeg)) → W_X4_record (b + 6) I L (fun (I891 : TI) (L892 : TL) => W_X6_payCourt (b + 6) r889 (I (b + 1) 8) I891 L892 (fun (I893 : TI) => Q r888 (up2 (up2 I893 r885 7 r888) r885 6 1) L892))) ∧ (¬ (I (b + 1) 8) ≤ (I (b + 15) (r889.toNatClampNeg)) → Q (-3) I L)))))) ∧ (¬ (I r885 6) = 0 → Q (-2) I L))) (fun (e9 : String) => QX e9 I L)
def W_X8_appeal (p1 : Int32) (I : TI) (L : TL) (b : Nat) (d : Nat) (Q : Int32 → TI → TL → Prop) (QX : String → TI → TL → Prop) : Prop :=
  W_X8_requireDispute p1 I L b d (fun (r908 : Nat) => LAY r908 = 2 ∧ (((I r908 6) = 1 → W_X0_price b (I r908 0) (I r908 1) (I r908 2) I L (fun (r910 : Int32) => W_X3_loserBy r908 (I r908 7) I L (fun (r911 : Int32) => vp_in r911 3 ∧ ((r910 ≤ (I (b + 15) (r911.toNatClampNeg)) → W_X4_record (b + 6) I L (fun (I913 : TI) (L914 : TL) => W_X0_dearVerdict b r908 I913 L914 (fun (r915 : Int32) => W_X3_loserBy r908 ((up2 (up2 I913 r908 7 r915) r908 6 2) r908 7) (up2 (up2 I913 r908 7 r915) r908 6 2) L914 (fun (r916 : Int32) => vp_in r916 3 ∧ (W_X6_payCourt (b + 6) r916 (mnI r910 ((up2 (up2 I913 r908 7 r915) r908 6 2) (b + 15) (r916.toNatClampNeg))) (up2 (up2 I913 r908 7 r915) r908 6 2) L914 (fun (I918 : TI) => W_X0_settle b (I918 r908 0) (I918 r908 1) (I918 r908 2) I918 L914 (fun (r919 : Int32) (I920 : TI) (L921 : TL) => Q (I920 r908 7) I920 L921))))))) ∧ (¬ r910 ≤ (I (b + 15) (r911.toNatClampNeg)) → Q (-3) I L))))) ∧ (¬ (I r908 6) = 1 → Q (-2) I L))) (fun (e9 : String) => QX e9 I L)
def W_X8_accept (p1 : Int32) (I : TI) (L : TL) (b : Nat) (d : Nat) (Q : Int32 → TI → TL → Prop) (QX : String → TI → TL → Prop) : Prop :=
  W_X8_requireDispute p1 I L b d (fun (r929 : Nat) => LAY r929 = 2 ∧ (((I r929 6) = 1 → W_X4_record (b + 6) I L (fun (I931 : TI) (L932 : TL) => W_X0_rule b r929 (up2 I931 r929 6 3) L932 (fun (r933 : Int32) (I934 : TI) (L935 : TL) => Q r933 I934 L935))) ∧ (¬ (I r929 6) = 1 → Q (-2) I L))) (fun (e9 : String) => QX e9 I L)
def W_X8_replay (p1 : Int32) (p2 : Int32) (p3 : Int32) (I : TI) (L : TL) (b : Nat) (d : Nat) (Q : Int32 → TI → TL → Prop) (QX : String → TI → TL → Prop) : Prop :=
  W_X8_requireGate p1 I L b d (W_X8_requireTimes p2 p3 I L b d (W_X0_price b p1 p2 p3 I L (fun (r942 : Int32) => (r942 ≤ (I (b + 15) 2) → W_X4_record (b + 6) I L (fun (I943 : TI) (L944 : TL) => W_X0_settle b p1 p2 p3 (up2 I943 (b + 15) 2 ((I943 (b + 15) 2) - r942)) L944 (fun (r945 : Int32) (I946 : TI) (L947 : TL) => Q r945 I946 L947))) ∧ (¬ r942 ≤ (I (b + 15) 2) → Q (-3) I L))) (fun (e9 : String) => QX e9 I L)) (fun (e9 : String) => QX e9 I L)
def W_X8_setDelay (p1 : Int32) (p2 : Int32) (p3 : Int32) (I : TI) (L : TL) (b : Nat) (d : Nat) (Q : Int32 → TI → TL → Prop) (QX : String → TI → TL → Prop) : Prop :=
  W_X8_requireGate p1 I L b d ((p2 < 0 → QX "java/lang/IllegalArgumentException" I L) ∧ (¬ p2 < 0 → (3 ≤ p2 → QX "java/lang/IllegalArgumentException" I L) ∧ (¬ 3 ≤ p2 → (p3 < 1 → QX "java/lang/IllegalArgumentException" I L) ∧ (¬ p3 < 1 → (p3 ≤ 9 → W_X4_record (b + 6) I L (fun (I957 : TI) (L958 : TL) => vp_in p2 3 ∧ (vp_in p1 16 ∧ (∀ x961 : Int32, x961 = (I957 ((b + 8) + p2.toNatClampNeg) (p1.toNatClampNeg)) → ((x961 = p3 → Q x961 I957 L958) ∧ (¬ x961 = p3 → vp_in p2 3 ∧ (vp_in p1 16 ∧ (∀ I964 : TI, I964 = (up2 I957 ((b + 8) + p2.toNatClampNeg) (p1.toNatClampNeg) p3) → (W_X0_unsettle b p1 I964 L958 (fun (r965 : Int32) (I966 : TI) (L967 : TL) => Q x961 I966 L967)))))))))) ∧ (¬ p3 ≤ 9 → QX "java/lang/IllegalArgumentException" I L))))) (fun (e9 : String) => QX e9 I L)
def W_X8_toggle (p1 : Int32) (p2 : Int32) (I : TI) (L : TL) (b : Nat) (d : Nat) (Q : Int32 → TI → TL → Prop) (QX : String → TI → TL → Prop) : Prop :=
  (p1 < 0 → QX "java/util/NoSuchElementException" I L) ∧ (¬ p1 < 0 → (p1 < (I (b + 1) 4) → W_X2_hasTime (b + 1) p2 I L (fun (r977 : Int32) => (¬ r977 = 0 → W_X4_record (b + 6) I L (fun (I978 : TI) (L979 : TL) => vp_in p1 4 ∧ (W_X8_window p2 (I978 (b + 1) 6) I978 L979 (fun (r981 : Int64) => vp_in p1 4 ∧ (∀ L983 : TL, L983 = (up2 L979 (b + 11) (p1.toNatClampNeg) ((L979 (b + 11) (p1.toNatClampNeg)) ^^^ r981)) → (W_X0_unsettle b p1 I978 L983 (fun (r984 : Int32) (I985 : TI) (L986 : TL) => Q r984 I985 L986))))))) ∧ (r977 = 0 → QX "java/lang/IllegalArgumentException" I L))) ∧ (¬ p1 < (I (b + 1) 4) → QX "java/util/NoSuchElementException" I L))
def W_X8_deposit (p1 : Int32) (p2 : Int32) (I : TI) (L : TL) (b : Nat) (d : Nat) (Q : Int32 → TI → TL → Prop) (QX : String → TI → TL → Prop) : Prop :=
  (p1 < 0 → QX "java/lang/IllegalArgumentException" I L) ∧ (¬ p1 < 0 → (3 ≤ p1 → QX "java/lang/IllegalArgumentException" I L) ∧ (¬ 3 ≤ p1 → (p2 < 0 → QX "java/lang/IllegalArgumentException" I L) ∧ (¬ p2 < 0 → (p2 ≤ 99999 → vp_in p1 3 ∧ (∀ x992 : Int32, x992 = ((I (b + 15) (p1.toNatClampNeg)) + p2) → ((x992 ≤ 1000000 → W_X4_record (b + 6) I L (fun (I993 : TI) (L994 : TL) => vp_in p1 3 ∧ (Q x992 (up2 I993 (b + 15) (p1.toNatClampNeg) x992) L994))) ∧ (¬ x992 ≤ 1000000 → Q (-3) I L)))) ∧ (¬ p2 ≤ 99999 → QX "java/lang/IllegalArgumentException" I L))))
/-! the law writes a text of constants; the law feeds what it has written -/
def W_L_writes (p1 : Nat) (I : TI) (L : TL) (Q : TI → Prop) : Prop :=
  ∃ pl sz : Nat, p1 = 458 + pl ∧ pl < nJS ∧ I 436 1 = nI sz ∧ sz + lenJS.getD pl 0 ≤ 600 ∧ ∀ J : TI, (∀ a, a ≠ 436 → a ≠ 437 → J a = I a) → (∀ j, j ≠ 1 → J 436 j = I 436 j) → J 436 1 = nI (sz + lenJS.getD pl 0) → (∀ j, j < sz → J 437 j = I 437 j) → (∀ j, j < lenJS.getD pl 0 → J 437 (sz + j) = sch pl j) → Q J
def D_L_spaced_24 (v1 : Int32) (L : TL) (Q : TI → Prop) (R24 : Int32 → TI → Prop) (v2 : Int32) (I : TI) : Prop :=
  (v2 ≤ 0 → Q I) ∧ (¬ v2 ≤ 0 → ¬ v2 = 0 ∧ (vp_in (I 436 1) 600 ∧ (∀ I1004 : TI, I1004 = (up2 I 437 ((I 436 1).toNatClampNeg) ((48 : Int32) + (remI (v1 / v2) (10 : Int32)))) → (R24 (v2 / (10 : Int32)) (up2 I1004 436 1 ((I1004 436 1) + 1))))))
def L_L_spaced_24 (v1 : Int32) (L : TL) (Q : TI → Prop) : Nat → Int32 → TI → Prop
  | 0, _, _ => False
  | n9 + 1, v2, I => D_L_spaced_24 v1 L Q (fun v2 I => L_L_spaced_24 v1 L Q n9 v2 I) v2 I
def D_L_spaced_8 (v1 : Int32) (I : TI) (L : TL) (Q : TI → Prop) (R8 : Int32 → Prop) (v2 : Int32) : Prop :=
  ¬ v2 = 0 ∧ (((v1 / v2) ≤ 9 → ∃ n1006, L_L_spaced_24 v1 L Q n1006 v2 I) ∧ (¬ (v1 / v2) ≤ 9 → R8 (v2 * 10)))
def L_L_spaced_8 (v1 : Int32) (I : TI) (L : TL) (Q : TI → Prop) : Nat → Int32 → Prop
  | 0, _ => False
  | n9 + 1, v2 => D_L_spaced_8 v1 I L Q (fun v2 => L_L_spaced_8 v1 I L Q n9 v2) v2
def W_L_spaced (p1 : Int32) (I : TI) (L : TL) (Q : TI → Prop) : Prop :=
  W_L_writes 470 I L (fun (I1007 : TI) => ∃ n1008, L_L_spaced_8 p1 I1007 L Q n1008 (1 : Int32))
def W_L_cell (G : GT) (p1 : Int32) (I : TI) (L : TL) (Q : Int32 → Prop) : Prop :=
  ((nI (gL G)) ≤ p1 → Q 0) ∧ (¬ (nI (gL G)) ≤ p1 → vp_in p1 (gL G) ∧ (Q ((gx G p1.toNatClampNeg) &&& 1073741823)))
/-- four bytes of a text, the first one highest; behind its end there are spaces -/
def fdB (I : TI) (sz i : Nat) : Int32 := if i < sz then I 437 i else 32
def fdW (I : TI) (sz i : Nat) : Int32 := (((((((0 : Int32) <<< 8 ||| fdB I sz i) <<< 8) ||| fdB I sz (i + 1)) <<< 8) ||| fdB I sz (i + 2)) <<< 8) ||| fdB I sz (i + 3)
def fdL (Q : Int32 → TI → TL → Prop) (sz : Nat) : Nat → Nat → TI → TL → Prop
  | 0, _, _, _ => False
  | n + 1, j, I, L => (sz ≤ 20 * j → Q (nI sz) (up2 I 436 1 0) L) ∧ (20 * j < sz → ∀ I1 : TI, (∀ a, a ≠ 438 + j → I1 a = I a) → W_X8_feed (fdW I sz (20 * j)) (fdW I sz (20 * j + 4)) (fdW I sz (20 * j + 8)) (fdW I sz (20 * j + 12)) (fdW I sz (20 * j + 16)) I1 (clr L (438 + j) 0) (fun _ I2 => I2 436 1 = nI sz ∧ fdL Q sz n (j + 1) I2 (clr L (438 + j) 0)))
def W_L_feeds (I : TI) (L : TL) (Q : Int32 → TI → TL → Prop) : Prop :=
  ∃ n sz : Nat, sz ≤ 380 ∧ I 436 1 = nI sz ∧ fdL Q sz n 0 I L
def W_L_nets (I : TI) (L : TL) (Q : Int32 → Prop) : Prop :=
  Q ((I 436 3) + (I 436 4))
def W_L_word (p0 : Int32) (I : TI) (L : TL) (Q : Nat → Prop) : Prop :=
  (¬ p0 = 0 → (¬ p0 = 1 → (¬ p0 = 2 → (¬ p0 = 3 → (¬ p0 = 4 → (¬ p0 = 5 → Q 478) ∧ (p0 = 5 → Q 477)) ∧ (p0 = 4 → Q 476)) ∧ (p0 = 3 → Q 475)) ∧ (p0 = 2 → Q 474)) ∧ (p0 = 1 → Q 473)) ∧ (p0 = 0 → Q 472)
def B_L_gate_38 (v1 : Int32) (I : TI) (L : TL) (Q : TI → Prop) : Prop :=
  W_L_spaced ((1 : Int32) + (remI (v1 / (1001 : Int32)) (5 : Int32))) I L (fun (I1031 : TI) => W_L_spaced ((1 : Int32) + (remI (v1 / (5005 : Int32)) (5 : Int32))) I1031 L (fun (I1032 : TI) => W_L_spaced ((1 : Int32) + (remI (v1 / (25025 : Int32)) (3 : Int32))) I1032 L (fun (I1033 : TI) => W_L_writes 471 I1033 L (fun (I1034 : TI) => Q I1034))))
def W_L_gate (p1 : Int32) (p2 : Int32) (I : TI) (L : TL) (Q : TI → Prop) : Prop :=
  W_L_word (remI p1 (7 : Int32)) I L (fun (r1035 : Nat) => W_L_writes r1035 I L (fun (I1036 : TI) => ¬ p2 = 0 ∧ (W_L_spaced (remI (p1 / (7 : Int32)) p2) I1036 L (fun (I1038 : TI) => (5 ≤ (remI p1 (7 : Int32)) → B_L_gate_38 p1 I1038 L Q) ∧ (¬ 5 ≤ (remI p1 (7 : Int32)) → ¬ p2 = 0 ∧ (W_L_spaced (remI (p1 / (91 : Int32)) p2) I1038 L (fun (I1040 : TI) => B_L_gate_38 p1 I1040 L Q)))))))
def D_L_tells_217 (G : GT) (L : TL) (b : Nat) (d : Nat) (t : Nat) (Q : Int32 → TI → TL → Nat → Nat → Nat → Prop) (QX : String → TI → TL → Nat → Nat → Nat → Prop) (R217 : Int32 → TI → Prop) (v4 : Int32) (I : TI) : Prop :=
  ((I 436 4) ≤ v4 → W_L_writes 469 I L (fun (I1135 : TI) => W_L_cell G (11 : Int32) I1135 L (fun (r1136 : Int32) => W_L_spaced (remI r1136 (300 : Int32)) I1135 L (fun (I1137 : TI) => W_L_cell G (11 : Int32) I1137 L (fun (r1138 : Int32) => W_L_spaced (remI (r1138 / (300 : Int32)) (300 : Int32)) I1137 L (fun (I1139 : TI) => W_L_cell G (11 : Int32) I1139 L (fun (r1140 : Int32) => W_L_spaced (remI (r1140 / (90000 : Int32)) (900 : Int32)) I1139 L (fun (I1141 : TI) => W_L_writes 471 I1141 L (fun (I1142 : TI) => W_L_feeds I1142 L (fun (r1143 : Int32) (I1144 : TI) (L1145 : TL) => W_X8_load r1143 I1144 L1145 b d t (fun (r1146 : Int32) (I1147 : TI) (L1148 : TL) (b1149 : Nat) (d1150 : Nat) (t1151 : Nat) => bnOK b1149 ∧ (bnOK d1150 ∧ (txOK t1151 ∧ (W_L_nets I1147 L1148 (fun (r1155 : Int32) => (¬ r1146 = r1155 → Q 0 I1147 L1148 b1149 d1150 t1151) ∧ (r1146 = r1155 → W_X8_size (0 : Int32) I1147 L1148 b1149 d1150 (fun (r1156 : Int32) => (¬ r1156 = (I1147 436 3) → Q 0 I1147 L1148 b1149 d1150 t1151) ∧ (r1156 = (I1147 436 3) → W_X8_size (1 : Int32) I1147 L1148 b1149 d1150 (fun (r1157 : Int32) => (¬ r1157 = (I1147 436 4) → Q 0 I1147 L1148 b1149 d1150 t1151) ∧ (r1157 = (I1147 436 4) → W_X8_size (2 : Int32) I1147 L1148 b1149 d1150 (fun (r1158 : Int32) => (r1158 = (I1147 436 2) → W_X8_errorPosition I1147 L1148 (fun (r1159 : Int32) => (¬ r1159 = (-1) → Q 0 I1147 L1148 b1149 d1150 t1151) ∧ (r1159 = (-1) → W_X8_size (4 : Int32) I1147 L1148 b1149 d1150 (fun (r1160 : Int32) => (¬ r1160 = (I1147 436 5) → Q 0 I1147 L1148 b1149 d1150 t1151) ∧ (r1160 = (I1147 436 5) → W_X8_size (5 : Int32) I1147 L1148 b1149 d1150 (fun (r1161 : Int32) => (¬ r1161 = (I1147 436 6) → Q 0 I1147 L1148 b1149 d1150 t1151) ∧ (r1161 = (I1147 436 6) → W_X8_size (6 : Int32) I1147 L1148 b1149 d1150 (fun (r1162 : Int32) => (¬ r1162 = 0 → Q 0 I1147 L1148 b1149 d1150 t1151) ∧ (r1162 = 0 → Q 1 I1147 L1148 b1149 d1150 t1151)) (fun (e9 : String) => QX e9 I1147 L1148 b1149 d1150 t1151))) (fun (e9 : String) => QX e9 I1147 L1148 b1149 d1150 t1151))) (fun (e9 : String) => QX e9 I1147 L1148 b1149 d1150 t1151)))) ∧ (¬ r1158 = (I1147 436 2) → Q 0 I1147 L1148 b1149 d1150 t1151)) (fun (e9 : String) => QX e9 I1147 L1148 b1149 d1150 t1151))) (fun (e9 : String) => QX e9 I1147 L1148 b1149 d1150 t1151))) (fun (e9 : String) => QX e9 I1147 L1148 b1149 d1150 t1151))))))) (fun (e9 : String) (I8 : TI) (L8 : TL) (b8 : Nat) (d8 : Nat) (t8 : Nat) => QX e9 I8 L8 b8 d8 t8))))))))))) ∧ (¬ (I 436 4) ≤ v4 → W_L_cell G ((4 : Int32) + v4) I L (fun (r1163 : Int32) => W_L_gate r1163 ((I 436 3) + v4) I L (fun (I1164 : TI) => R217 (v4 + 1) I1164)))
def L_L_tells_217 (G : GT) (L : TL) (b : Nat) (d : Nat) (t : Nat) (Q : Int32 → TI → TL → Nat → Nat → Nat → Prop) (QX : String → TI → TL → Nat → Nat → Nat → Prop) : Nat → Int32 → TI → Prop
  | 0, _, _ => False
  | n9 + 1, v4, I => D_L_tells_217 G L b d t Q QX (fun v4 I => L_L_tells_217 G L b d t Q QX n9 v4 I) v4 I
def B_L_tells_196 (G : GT) (v4 : Int32) (v5 : Int32) (v6 : Int32) (v7 : Int32) (I : TI) (L : TL) (b : Nat) (d : Nat) (t : Nat) (Q : Int32 → TI → TL → Nat → Nat → Nat → Prop) (QX : String → TI → TL → Nat → Nat → Nat → Prop) (R118 : Int32 → TI → Prop) (R157 : Int32 → Int32 → TI → Prop) : Prop :=
  R157 v6 (v7 + 1) I
def D_L_tells_157 (G : GT) (v4 : Int32) (v5 : Int32) (L : TL) (b : Nat) (d : Nat) (t : Nat) (Q : Int32 → TI → TL → Nat → Nat → Nat → Prop) (QX : String → TI → TL → Nat → Nat → Nat → Prop) (R118 : Int32 → TI → Prop) (R157 : Int32 → Int32 → TI → Prop) (v6 : Int32) (v7 : Int32) (I : TI) : Prop :=
  (9 ≤ v7 → W_L_writes 471 I L (fun (I1165 : TI) => R118 (v4 + 1) I1165)) ∧ (¬ 9 ≤ v7 → ∀ x1166 : Int32, x1166 = (v6 + ((1 : Int32) + ((v5 >>> (((3 : Int32) * v7) &&& 31)) &&& 7))) → (((I 436 2) < x1166 → B_L_tells_196 G v4 v5 x1166 v7 I L b d t Q QX R118 R157) ∧ (¬ (I 436 2) < x1166 → W_L_spaced x1166 I L (fun (I1167 : TI) => B_L_tells_196 G v4 v5 x1166 v7 I1167 L b d t Q QX R118 R157))))
def L_L_tells_157 (G : GT) (v4 : Int32) (v5 : Int32) (L : TL) (b : Nat) (d : Nat) (t : Nat) (Q : Int32 → TI → TL → Nat → Nat → Nat → Prop) (QX : String → TI → TL → Nat → Nat → Nat → Prop) (R118 : Int32 → TI → Prop) : Nat → Int32 → Int32 → TI → Prop
  | 0, _, _, _ => False
  | n9 + 1, v6, v7, I => D_L_tells_157 G v4 v5 L b d t Q QX R118 (fun v6 v7 I => L_L_tells_157 G v4 v5 L b d t Q QX R118 n9 v6 v7 I) v6 v7 I
def D_L_tells_118 (G : GT) (L : TL) (b : Nat) (d : Nat) (t : Nat) (Q : Int32 → TI → TL → Nat → Nat → Nat → Prop) (QX : String → TI → TL → Nat → Nat → Nat → Prop) (R118 : Int32 → TI → Prop) (v4 : Int32) (I : TI) : Prop :=
  ((I 436 3) ≤ v4 → ∃ n1168, L_L_tells_217 G L b d t Q QX n1168 (0 : Int32) I) ∧ (¬ (I 436 3) ≤ v4 → W_L_cell G ((1 : Int32) + v4) I L (fun (r1169 : Int32) => W_L_writes 460 I L (fun (I1170 : TI) => W_L_spaced (remI r1169 (2 : Int32)) I1170 L (fun (I1171 : TI) => ∃ n1172, L_L_tells_157 G v4 r1169 L b d t Q QX R118 n1172 (0 : Int32) (0 : Int32) I1171))))
def L_L_tells_118 (G : GT) (L : TL) (b : Nat) (d : Nat) (t : Nat) (Q : Int32 → TI → TL → Nat → Nat → Nat → Prop) (QX : String → TI → TL → Nat → Nat → Nat → Prop) : Nat → Int32 → TI → Prop
  | 0, _, _ => False
  | n9 + 1, v4, I => D_L_tells_118 G L b d t Q QX (fun v4 I => L_L_tells_118 G L b d t Q QX n9 v4 I) v4 I
def W_L_tells (G : GT) (I : TI) (L : TL) (b : Nat) (d : Nat) (t : Nat) (Q : Int32 → TI → TL → Nat → Nat → Nat → Prop) (QX : String → TI → TL → Nat → Nat → Nat → Prop) : Prop :=
  W_L_cell G (0 : Int32) I L (fun (r1173 : Int32) => ∀ I1174 : TI, I1174 = (up2 (up2 I 436 2 ((10 : Int32) + (remI r1173 (41 : Int32)))) 436 3 ((1 : Int32) + (remI (r1173 / (41 : Int32)) (3 : Int32)))) → (∀ I1175 : TI, I1175 = (up2 I1174 436 4 ((1 : Int32) + (remI (r1173 / (123 : Int32)) (7 : Int32)))) → (∀ I1176 : TI, I1176 = (up2 (up2 I1175 436 5 (remI (r1173 / (861 : Int32)) (4 : Int32))) 436 6 (remI (r1173 / (3444 : Int32)) (9 : Int32))) → (W_L_writes 459 I1176 L (fun (I1177 : TI) => W_L_spaced (I1177 436 2) I1177 L (fun (I1178 : TI) => W_L_spaced ((1 : Int32) + (remI (r1173 / (30996 : Int32)) (9 : Int32))) I1178 L (fun (I1179 : TI) => W_L_spaced (I1179 436 5) I1179 L (fun (I1180 : TI) => W_L_spaced (I1180 436 6) I1180 L (fun (I1181 : TI) => W_L_writes 471 I1181 L (fun (I1182 : TI) => ∃ n1183, L_L_tells_118 G L b d t Q QX n1183 (0 : Int32) I1182))))))))))
def B_L_disputes_56 (v2 : Int32) (s1 : Int32) (s2 : Int32) (s3 : Int32) (s4 : Int32) (I : TI) (L : TL) (b : Nat) (d : Nat) (Q : TI → TL → Prop) (QX : String → TI → TL → Prop) : Prop :=
  W_X8_open s1 s2 s3 s4 I L b d (fun (r1214 : Int32) (I1215 : TI) (L1216 : TL) => (r1214 < 0 → Q I1215 L1216) ∧ (¬ r1214 < 0 → W_X8_judge r1214 I1215 L1216 b d (fun (r1217 : Int32) (I1218 : TI) (L1219 : TL) => (0 ≤ r1217 → (¬ (remI (v2 / (96 : Int32)) (3 : Int32)) = 0 → (¬ (remI (v2 / (96 : Int32)) (3 : Int32)) = 1 → Q I1218 L1219) ∧ ((remI (v2 / (96 : Int32)) (3 : Int32)) = 1 → W_X8_appeal r1214 I1218 L1219 b d (fun (r1220 : Int32) (I1221 : TI) (L1222 : TL) => Q I1221 L1222) (fun (e9 : String) (I8 : TI) (L8 : TL) => QX e9 I8 L8))) ∧ ((remI (v2 / (96 : Int32)) (3 : Int32)) = 0 → W_X8_accept r1214 I1218 L1219 b d (fun (r1223 : Int32) (I1224 : TI) (L1225 : TL) => Q I1224 L1225) (fun (e9 : String) (I8 : TI) (L8 : TL) => QX e9 I8 L8))) ∧ (¬ 0 ≤ r1217 → Q I1218 L1219)) (fun (e9 : String) (I8 : TI) (L8 : TL) => QX e9 I8 L8))) (fun (e9 : String) (I8 : TI) (L8 : TL) => QX e9 I8 L8)
def W_L_disputes (p2 : Int32) (I : TI) (L : TL) (b : Nat) (d : Nat) (Q : TI → TL → Prop) (QX : String → TI → TL → Prop) : Prop :=
  ¬ (I 436 4) = 0 ∧ (∀ x1227 : Int32, x1227 = ((I 436 3) + (remI p2 (I 436 4))) → (W_X8_gate x1227 (9 : Int32) I L b d (fun (r1228 : Int32) => (¬ r1228 = 0 → ¬ r1228 = 0 ∧ ((¬ (remI (p2 / (48 : Int32)) (2 : Int32)) = 0 → B_L_disputes_56 p2 (remI (p2 / (12 : Int32)) (2 : Int32)) x1227 (remI (p2 / (24 : Int32)) r1228) (0 : Int32) I L b d Q QX) ∧ ((remI (p2 / (48 : Int32)) (2 : Int32)) = 0 → B_L_disputes_56 p2 (remI (p2 / (12 : Int32)) (2 : Int32)) x1227 (remI (p2 / (24 : Int32)) r1228) (1 : Int32) I L b d Q QX))) ∧ (r1228 = 0 → Q I L)) (fun (e9 : String) => QX e9 I L)))
def W_L_net (p1 : Int32) (I : TI) (L : TL) (Q : Int32 → Prop) : Prop :=
  ¬ (I 436 4) = 0 ∧ (Q ((I 436 3) + (remI p1 (I 436 4))))
def W_L_purses (I : TI) (L : TL) (b : Nat) (d : Nat) (Q : Int32 → Prop) (QX : String → Prop) : Prop :=
  W_X8_size (7 : Int32) I L b d (fun (r1235 : Int32) => W_X8_size (8 : Int32) I L b d (fun (r1236 : Int32) => W_X8_size (9 : Int32) I L b d (fun (r1237 : Int32) => Q ((r1235 + r1236) + r1237)) (fun (e9 : String) => QX e9)) (fun (e9 : String) => QX e9)) (fun (e9 : String) => QX e9)
def W_L_acts (p2 : Int32) (I : TI) (L : TL) (b : Nat) (d : Nat) (Q : Int32 → TI → TL → Prop) (QX : String → TI → TL → Prop) : Prop :=
  ((remI p2 (6 : Int32)) = 0 → ¬ ((I 436 2) + 1) = 0 ∧ (∀ x1261 : Int32, x1261 = (remI (p2 / (6 : Int32)) ((I 436 2) + 1)) → (¬ (((I 436 2) + 1) - x1261) = 0 ∧ (∀ x1263 : Int32, x1263 = (x1261 + (remI ((p2 / (6 : Int32)) / (64 : Int32)) (((I 436 2) + 1) - x1261))) → (W_L_net ((p2 / (6 : Int32)) / (4096 : Int32)) I L (fun (r1264 : Int32) => W_X8_cost r1264 x1261 x1263 I L b d (fun (r1265 : Int32) => W_L_net ((p2 / (6 : Int32)) / (4096 : Int32)) I L (fun (r1266 : Int32) => W_X8_replay r1266 x1261 x1263 I L b d (fun (r1267 : Int32) (I1268 : TI) (L1269 : TL) => (0 ≤ r1267 → Q (-r1265) I1268 L1269) ∧ (¬ 0 ≤ r1267 → Q 0 I1268 L1269)) (fun (e9 : String) (I8 : TI) (L8 : TL) => QX e9 I8 L8))) (fun (e9 : String) => QX e9 I L))))))) ∧ ((remI p2 (6 : Int32)) = 1 → ∀ x1270 : Int32, x1270 = (remI ((p2 / (6 : Int32)) / (3 : Int32)) (200 : Int32)) → (W_X8_deposit (remI (p2 / (6 : Int32)) (3 : Int32)) x1270 I L b d (fun (r1271 : Int32) (I1272 : TI) (L1273 : TL) => (0 ≤ r1271 → Q x1270 I1272 L1273) ∧ (¬ 0 ≤ r1271 → Q 0 I1272 L1273)) (fun (e9 : String) (I8 : TI) (L8 : TL) => QX e9 I8 L8))) ∧ ((remI p2 (6 : Int32)) = 2 → W_L_net (p2 / (6 : Int32)) I L (fun (r1274 : Int32) => W_X8_setDelay r1274 (remI ((p2 / (6 : Int32)) / (8 : Int32)) (3 : Int32)) ((1 : Int32) + (remI ((p2 / (6 : Int32)) / (24 : Int32)) (9 : Int32))) I L b d (fun (r1275 : Int32) (I1276 : TI) (L1277 : TL) => Q 0 I1276 L1277) (fun (e9 : String) (I8 : TI) (L8 : TL) => QX e9 I8 L8))) ∧ ((remI p2 (6 : Int32)) = 3 → ¬ (I 436 3) = 0 ∧ (¬ ((I 436 2) + 1) = 0 ∧ (W_X8_toggle (remI (p2 / (6 : Int32)) (I 436 3)) (remI ((p2 / (6 : Int32)) / (4 : Int32)) ((I 436 2) + 1)) I L b d (fun (r1280 : Int32) (I1281 : TI) (L1282 : TL) => Q 0 I1281 L1282) (fun (e9 : String) (I8 : TI) (L8 : TL) => QX e9 I8 L8)))) ∧ ((remI p2 (6 : Int32)) < 0 ∨ 3 < (remI p2 (6 : Int32)) → W_L_disputes (p2 / (6 : Int32)) I L b d (fun (I1283 : TI) (L1284 : TL) => Q 0 I1283 L1284) (fun (e9 : String) (I8 : TI) (L8 : TL) => QX e9 I8 L8))
def B_L_isShown_157 (v2 : Int32) (v3 : Int64) (v8 : Int32) (v9 : Int32) (s0 : Int32) (I : TI) (L : TL) (b : Nat) (d : Nat) (Q : Int32 → Prop) (QX : String → Prop) (R111 : Int32 → Int32 → Prop) : Prop :=
  R111 s0 (v9 + 1)
def B_L_isShown_156 (v2 : Int32) (v3 : Int64) (v8 : Int32) (v9 : Int32) (I : TI) (L : TL) (b : Nat) (d : Nat) (Q : Int32 → Prop) (QX : String → Prop) (R111 : Int32 → Int32 → Prop) : Prop :=
  B_L_isShown_157 v2 v3 v8 v9 (0 : Int32) I L b d Q QX R111
def B_L_isShown_152 (v2 : Int32) (v3 : Int64) (v8 : Int32) (v9 : Int32) (I : TI) (L : TL) (b : Nat) (d : Nat) (Q : Int32 → Prop) (QX : String → Prop) (R111 : Int32 → Int32 → Prop) : Prop :=
  B_L_isShown_157 v2 v3 v8 v9 (1 : Int32) I L b d Q QX R111
def D_L_isShown_111 (v2 : Int32) (v3 : Int64) (v8 : Int32) (I : TI) (L : TL) (b : Nat) (d : Nat) (Q : Int32 → Prop) (QX : String → Prop) (R111 : Int32 → Int32 → Prop) (v7 : Int32) (v9 : Int32) : Prop :=
  (v2 < v9 → (v7 = 0 → Q 1) ∧ (¬ v7 = 0 → W_X8_wave v2 (1 : Int32) I L b d (fun (r1314 : Int64) => (¬ v3 = r1314 → Q 0) ∧ (v3 = r1314 → Q 1)) (fun (e9 : String) => QX e9))) ∧ (¬ v2 < v9 → (v7 = 0 → B_L_isShown_156 v2 v3 v8 v9 I L b d Q QX R111) ∧ (¬ v7 = 0 → (((v8 >>> (v9 &&& 31)) &&& 1) = 0 → B_L_isShown_152 v2 v3 v8 v9 I L b d Q QX R111) ∧ (¬ ((v8 >>> (v9 &&& 31)) &&& 1) = 0 → W_X8_gate v9 (7 : Int32) I L b d (fun (r1315 : Int32) => W_X8_gate v9 (8 : Int32) I L b d (fun (r1316 : Int32) => (¬ (r1315 + r1316) = 0 → B_L_isShown_156 v2 v3 v8 v9 I L b d Q QX R111) ∧ ((r1315 + r1316) = 0 → B_L_isShown_152 v2 v3 v8 v9 I L b d Q QX R111)) (fun (e9 : String) => QX e9)) (fun (e9 : String) => QX e9))))
def L_L_isShown_111 (v2 : Int32) (v3 : Int64) (v8 : Int32) (I : TI) (L : TL) (b : Nat) (d : Nat) (Q : Int32 → Prop) (QX : String → Prop) : Nat → Int32 → Int32 → Prop
  | 0, _, _ => False
  | n9 + 1, v7, v9 => D_L_isShown_111 v2 v3 v8 I L b d Q QX (fun v7 v9 => L_L_isShown_111 v2 v3 v8 I L b d Q QX n9 v7 v9) v7 v9
def B_L_isShown_60 (v2 : Int32) (v3 : Int64) (v5 : Int64) (v7 : Int32) (v8 : Int32) (I : TI) (L : TL) (b : Nat) (d : Nat) (Q : Int32 → Prop) (QX : String → Prop) (R21 : Int32 → Prop) : Prop :=
  R21 (v8 + 1)
def D_L_isShown_21 (v2 : Int32) (v3 : Int64) (v5 : Int64) (v7 : Int32) (I : TI) (L : TL) (b : Nat) (d : Nat) (Q : Int32 → Prop) (QX : String → Prop) (R21 : Int32 → Prop) (v8 : Int32) : Prop :=
  ((I 436 2) < v8 → ((I 436 3) ≤ v2 → W_X8_dependsOn v2 I L b d (fun (r1317 : Int32) => ∃ n1318, L_L_isShown_111 v2 v3 r1317 I L b d Q QX n1318 v7 (I 436 3)) (fun (e9 : String) => QX e9)) ∧ (¬ (I 436 3) ≤ v2 → (¬ v3 = v5 → Q 0) ∧ (v3 = v5 → W_X8_wave v2 (1 : Int32) I L b d (fun (r1319 : Int64) => (¬ v3 = r1319 → Q 0) ∧ (v3 = r1319 → Q 1)) (fun (e9 : String) => QX e9)))) ∧ (¬ (I 436 2) < v8 → W_X8_stateAt v2 v8 I L b d (fun (r1320 : Int32) => (¬ r1320 = 2 → B_L_isShown_60 v2 v3 v5 v7 v8 I L b d Q QX R21) ∧ (r1320 = 2 → (((shrL v3 v8) &&& 1) = ((shrL v5 v8) &&& 1) → B_L_isShown_60 v2 v3 v5 v7 v8 I L b d Q QX R21) ∧ (¬ ((shrL v3 v8) &&& 1) = ((shrL v5 v8) &&& 1) → Q 0))) (fun (e9 : String) => QX e9))
def L_L_isShown_21 (v2 : Int32) (v3 : Int64) (v5 : Int64) (v7 : Int32) (I : TI) (L : TL) (b : Nat) (d : Nat) (Q : Int32 → Prop) (QX : String → Prop) : Nat → Int32 → Prop
  | 0, _ => False
  | n9 + 1, v8 => D_L_isShown_21 v2 v3 v5 v7 I L b d Q QX (fun v8 => L_L_isShown_21 v2 v3 v5 v7 I L b d Q QX n9 v8) v8
def W_L_isShown (p2 : Int32) (I : TI) (L : TL) (b : Nat) (d : Nat) (Q : Int32 → Prop) (QX : String → Prop) : Prop :=
  W_X8_wave p2 (0 : Int32) I L b d (fun (r1321 : Int64) => W_X8_wave p2 (2 : Int32) I L b d (fun (r1322 : Int64) => ∃ n1323, L_L_isShown_21 p2 r1321 r1322 (1 : Int32) I L b d Q QX n1323 (0 : Int32)) (fun (e9 : String) => QX e9)) (fun (e9 : String) => QX e9)
def D_L_holds_43 (G : GT) (v3 : Int32) (v4 : Int32) (I : TI) (L : TL) (b : Nat) (d : Nat) (Q : Int32 → TI → TL → Prop) (QX : String → TI → TL → Prop) (R9 : Int32 → Int32 → TI → TL → Prop) (R43 : Int32 → Prop) (v5 : Int32) : Prop :=
  W_L_nets I L (fun (r1338 : Int32) => (r1338 ≤ v5 → R9 v3 (v4 + 1) I L) ∧ (¬ r1338 ≤ v5 → W_L_isShown v5 I L b d (fun (r1339 : Int32) => (¬ r1339 = 0 → R43 (v5 + 1)) ∧ (r1339 = 0 → Q 0 I L)) (fun (e9 : String) => QX e9 I L)))
def L_L_holds_43 (G : GT) (v3 : Int32) (v4 : Int32) (I : TI) (L : TL) (b : Nat) (d : Nat) (Q : Int32 → TI → TL → Prop) (QX : String → TI → TL → Prop) (R9 : Int32 → Int32 → TI → TL → Prop) : Nat → Int32 → Prop
  | 0, _ => False
  | n9 + 1, v5 => D_L_holds_43 G v3 v4 I L b d Q QX R9 (fun v5 => L_L_holds_43 G v3 v4 I L b d Q QX R9 n9 v5) v5
def D_L_holds_9 (G : GT) (b : Nat) (d : Nat) (Q : Int32 → TI → TL → Prop) (QX : String → TI → TL → Prop) (R9 : Int32 → Int32 → TI → TL → Prop) (v3 : Int32) (v4 : Int32) (I : TI) (L : TL) : Prop :=
  (30 ≤ v4 → Q 1 I L) ∧ (¬ 30 ≤ v4 → W_L_cell G v4 I L (fun (r1340 : Int32) => W_L_acts r1340 I L b d (fun (r1341 : Int32) (I1342 : TI) (L1343 : TL) => W_L_purses I1342 L1343 b d (fun (r1344 : Int32) => (r1344 = (v3 + r1341) → ∃ n1345, L_L_holds_43 G (v3 + r1341) v4 I1342 L1343 b d Q QX R9 n1345 (0 : Int32)) ∧ (¬ r1344 = (v3 + r1341) → Q 0 I1342 L1343)) (fun (e9 : String) => QX e9 I1342 L1343)) (fun (e9 : String) (I8 : TI) (L8 : TL) => QX e9 I8 L8)))
def L_L_holds_9 (G : GT) (b : Nat) (d : Nat) (Q : Int32 → TI → TL → Prop) (QX : String → TI → TL → Prop) : Nat → Int32 → Int32 → TI → TL → Prop
  | 0, _, _, _, _ => False
  | n9 + 1, v3, v4, I, L => D_L_holds_9 G b d Q QX (fun v3 v4 I L => L_L_holds_9 G b d Q QX n9 v3 v4 I L) v3 v4 I L
def W_L_holds (G : GT) (I : TI) (L : TL) (b : Nat) (d : Nat) (Q : Int32 → TI → TL → Prop) (QX : String → TI → TL → Prop) : Prop :=
  W_L_purses I L b d (fun (r1346 : Int32) => ∃ n1347, L_L_holds_9 G b d Q QX n1347 r1346 (12 : Int32) I L) (fun (e9 : String) => QX e9 I L)
end

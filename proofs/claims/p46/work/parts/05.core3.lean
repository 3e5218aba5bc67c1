def nsts : List (String × Nat × MethodName × String) := [("GlitchCourt$State", 46, ⟨"GlitchCourt$Dispute", "<init>", "()V"⟩, "GlitchCourt"), ("GlitchCourt", 18, ⟨"GlitchCourt$Tokens", "<init>", "()V"⟩, "GlitchCourt"), ("GlitchCourt", 25, ⟨"GlitchCourt$QueryText", "<init>", "()V"⟩, "GlitchCourt"), ("GlitchCourt", 39, ⟨"GlitchCourt$Bench", "<init>", "()V"⟩, "GlitchCourt"), ("GlitchCourt$Bench", 11, ⟨"GlitchCourt$Circuit", "<init>", "()V"⟩, "GlitchCourt"), ("GlitchCourt$BenchText", 95, ⟨"GlitchCourt", "window", "(II)J"⟩, "GlitchCourt"), ("GlitchCourt$BenchText", 129, ⟨"GlitchCourt", "kindWord", "(I)Ljava/lang/String;"⟩, "GlitchCourt"), ("GlitchCourt$Circuit", 63, ⟨"GlitchCourt", "window", "(II)J"⟩, "GlitchCourt"), ("GlitchCourt$Bench", 80, ⟨"GlitchCourt", "bitOf", "(JI)I"⟩, "GlitchCourt"), ("GlitchCourt$Bench", 84, ⟨"GlitchCourt", "window", "(II)J"⟩, "GlitchCourt"), ("GlitchCourt$State", 75, ⟨"GlitchCourt", "bitOf", "(JI)I"⟩, "GlitchCourt")]
def csts : List (String × String) := [("java/lang/IllegalArgumentException", "java/lang/IllegalArgumentException"), ("java/util/NoSuchElementException", "java/util/NoSuchElementException"), ("GlitchCourtLaw", "java/lang/Object"), ("GlitchCourt", "java/lang/Object"), ("GlitchCourt$History", "java/lang/Object"), ("GlitchCourt$State", "java/lang/Object"), ("GlitchCourt$Dispute", "java/lang/Object"), ("GlitchCourt$Tokens", "java/lang/Object"), ("GlitchCourt$QueryText", "java/lang/Object"), ("GlitchCourt$Bench", "java/lang/Object"), ("GlitchCourt$Circuit", "java/lang/Object"), ("java/lang/IllegalArgumentException", "java/lang/Object"), ("java/util/NoSuchElementException", "java/lang/Object"), ("java/lang/Throwable", "java/lang/Object"), ("java/lang/String", "java/lang/Object")]
def dcls : List MethodName := [⟨"java/lang/RuntimeException", "<init>", "()V"⟩, ⟨"java/lang/RuntimeException", "<init>", "(Ljava/lang/String;)V"⟩, ⟨"java/lang/Exception", "<init>", "()V"⟩, ⟨"java/lang/Exception", "<init>", "(Ljava/lang/String;)V"⟩, ⟨"java/lang/Throwable", "<init>", "()V"⟩, ⟨"java/lang/Throwable", "<init>", "(Ljava/lang/String;)V"⟩]
def strs : List (String × Nat × String × Nat) := [("GlitchCourtLaw", 83, "bench", 1), ("GlitchCourtLaw", 27, " ", 12), ("GlitchCourtLaw", 68, ";", 13), ("GlitchCourtLaw", 85, "input", 2), ("GlitchCourtLaw", 46, "gate and", 14), ("GlitchCourtLaw", 48, "gate or", 15), ("GlitchCourtLaw", 50, "gate xor", 16), ("GlitchCourtLaw", 52, "gate nand", 17), ("GlitchCourtLaw", 54, "gate nor", 18), ("GlitchCourtLaw", 56, "gate not", 19), ("GlitchCourtLaw", 58, "gate same", 20), ("GlitchCourtLaw", 91, "purses", 11), ("GlitchCourt", 63, "length", 0), ("GlitchCourt$BenchText", 34, "bench", 1), ("GlitchCourt$BenchText", 75, "input", 2), ("GlitchCourt$BenchText", 105, "gate", 3), ("GlitchCourt", 408, "and", 4), ("GlitchCourt", 410, "or", 5), ("GlitchCourt", 412, "xor", 6), ("GlitchCourt", 414, "nand", 7), ("GlitchCourt", 416, "nor", 8), ("GlitchCourt", 418, "not", 9), ("GlitchCourt", 420, "same", 10), ("GlitchCourt$BenchText", 133, "purses", 11), ("GlitchCourt", 138, "what", 21), ("GlitchCourt", 174, "gate", 3), ("GlitchCourt", 184, "times", 22), ("GlitchCourt", 359, "deposit", 23), ("GlitchCourt", 345, "delay", 24), ("GlitchCourt", 350, "input", 2), ("GlitchCourt", 205, "time", 25), ("GlitchCourt", 247, "pulse", 26), ("GlitchCourt", 316, "party", 27), ("GlitchCourt", 249, "dispute", 28), ("GlitchCourt", 179, "net", 29), ("GlitchCourt", 199, "kind", 30)]
def nJS : Nat := 31
def lenJS : List Nat := [6, 5, 5, 4, 3, 2, 3, 4, 3, 3, 4, 6, 1, 1, 8, 7, 8, 9, 8, 8, 9, 4, 5, 7, 5, 4, 5, 5, 7, 3, 4]
def bytJS : List (List Int32) := [[108, 101, 110, 103, 116, 104], [98, 101, 110, 99, 104], [105, 110, 112, 117, 116], [103, 97, 116, 101], [97, 110, 100], [111, 114], [120, 111, 114], [110, 97, 110, 100], [110, 111, 114], [110, 111, 116], [115, 97, 109, 101], [112, 117, 114, 115, 101, 115], [32], [59], [103, 97, 116, 101, 32, 97, 110, 100], [103, 97, 116, 101, 32, 111, 114], [103, 97, 116, 101, 32, 120, 111, 114], [103, 97, 116, 101, 32, 110, 97, 110, 100], [103, 97, 116, 101, 32, 110, 111, 114], [103, 97, 116, 101, 32, 110, 111, 116], [103, 97, 116, 101, 32, 115, 97, 109, 101], [119, 104, 97, 116], [116, 105, 109, 101, 115], [100, 101, 112, 111, 115, 105, 116], [100, 101, 108, 97, 121], [116, 105, 109, 101], [112, 117, 108, 115, 101], [112, 97, 114, 116, 121], [100, 105, 115, 112, 117, 116, 101], [110, 101, 116], [107, 105, 110, 100]]
def KS (G : GT) (s : State) : Prop := va_K (gC G, gI G) clz (tysG G) s ∧ (∀ q ∈ nsts, va_Nw (.methodLinkNest q.1 q.2.1 q.2.2.1 q.2.2.2) s) ∧ (∀ q ∈ csts, va_Nw (.castable q.1 q.2) s) ∧ (∀ q ∈ dcls, va_Nw (.declares q) s) ∧ va_AO "GlitchCourt$State" s ∧ va_AO "GlitchCourt$Dispute" s ∧ va_AOA .int s ∧ (∀ q ∈ strs, vk_R q.1 q.2.1 q.2.2.1 (gs G q.2.2.2) s) ∧ va_Nc "java/lang/Throwable" "GlitchCourt$State" s ∧ (gl G).stackTraces = false
theorem va_AOA.moved {ty : FieldType} {u U : State} (hvm : u.vm.Alike U.vm) (h : va_AOA ty u) : va_AOA ty U := by
  have h1 : (Cond.arrayOver (.array ty)).before #[] (u.setVm U.vm) = true := by rw [Cond.arrayOver_setVmC hvm]; exact h
  exact h1
theorem KS.warm {G : GT} {s U : State} (hW : s.WarmedH U.vm) (h : KS G s) : KS G U := by
  obtain ⟨h1, h2, h3, h4, h5, h6, h7, h8, h9, h10⟩ := h
  exact ⟨va_K.moved hW.alike h1, fun q hq => va_Nw.warmM hW (h2 q hq), fun q hq => va_Nw.warmC hW (h3 q hq), fun q hq => va_Nw.warmD hW (h4 q hq), h5.moved hW.alike, h6.moved hW.alike, h7.moved hW.alike, fun q hq => vk_R.warm hW (h8 q hq), h9.moved hW.alike, h10⟩
def SX (G : GT) (s : State) (H : Heap) : Prop := va_X (gb G) (gL G) (gx G) s H ∧ gb G < g0 G ∧ vx_Zq Bundle.tN "UNASSIGNED_STACK" Bundle.steD (AA G) s H ∧ vx_Zq Bundle.tN "SUPPRESSED_SENTINEL" Bundle.listD (AA G) s H ∧ vk_S nJS lenJS bytJS (gs G) (fun i => gs G (100 + i)) (AA G) s H ∧ va_Z "java/lang/String" "COMPACT_STRINGS" "Z" (.int 1) (AA G) s H ∧ (va_Z "jdk/internal/util/Preconditions" "SIOOBE_FORMATTER" "Ljava/util/function/BiFunction;" .null (AA G) s H ∨ va_Z "jdk/internal/util/Preconditions" "SIOOBE_FORMATTER" "Ljava/util/function/BiFunction;" (.ref (gs G 200)) (AA G) s H)
theorem SX.moved {G : GT} {u U : State} {H : Heap} (hvm : u.vm.Alike U.vm) (h : SX G u H) : SX G U H := by
  obtain ⟨h1, h2, h3, h4, h5, h6, h7⟩ := h
  exact ⟨h1.moved hvm, h2, h3.moved hvm, h4.moved hvm, h5.moved hvm, h6.moved hvm, h7.imp (fun q => va_Z.moved hvm q) (fun q => va_Z.moved hvm q)⟩
theorem SX.kept {G : GT} {U : State} {H H1 : Heap} (h : SX G U H) (hn : g0 G ≤ H.size) (hq : ∀ a : Nat, a < H.size → ¬ AA G a → H1[a]? = H[a]?) : SX G U H1 := by
  obtain ⟨h1, h2, h3, h4, h5, h6, h7⟩ := h
  exact ⟨h1.kept (hq _ (Nat.lt_of_lt_of_le h2 hn) (Nat.not_le.mpr h2)), h2, h3.kept hq, h4.kept hq, h5.kept hq, h6.kept hq, h7.imp (fun q => va_Z.kept q hq) (fun q => va_Z.kept q hq)⟩
def HS (G : GT) (u : MU) (H : Heap) : Prop := va_P (gC G, gI G) clz (wl G u) H ∧ NK u.2.2.2
/-- a method: its name, bytes, locals, answer, room, instructions, table -/
abbrev MT : Type := MethodName × ByteArray × Nat × Option FieldType × Room × List (Nat × Instr × Nat) × List (Nat × Nat × Nat × Nat)
def yN (Y : MT) : MethodName := Y.1
def yB (Y : MT) : ByteArray := Y.2.1
def yM (Y : MT) : Nat := Y.2.2.1
def yT (Y : MT) : Option FieldType := Y.2.2.2.1
def yR (Y : MT) : Room := Y.2.2.2.2.1
def yP (Y : MT) : List (Nat × Instr × Nat) := Y.2.2.2.2.2.1
def yH (Y : MT) : List (Nat × Nat × Nat × Nat) := Y.2.2.2.2.2.2
def yC (Y : MT) : Cond := match yH Y with
  | [] => .code (yN Y) (yB Y) (yM Y) (yT Y)
  | q :: r => .codeWith (yN Y) (yB Y) (yM Y) (yT Y) (q :: r)
def yW (Y : MT) : List Cond := yC Y :: GW
def okI (b : ByteArray) (q : Nat × Instr × Nat) : Bool := match decode b q.1 with
  | .ok (i, n) => decide (i = q.2.1 ∧ n = q.2.2)
  | _ => false
theorem okI_s {b : ByteArray} {q : Nat × Instr × Nat} (h : okI b q = true) : decode b q.1 = .ok q.2 := by
  unfold okI at h
  split at h
  · rename_i i n e
    obtain ⟨h1, h2⟩ := of_decide_eq_true h
    rw [e, h1, h2]
  · cases h
def CX (G : GT) (Y : MT) (p : Program) (s : State) (m : MethodId) (args : Array Value) (meth : Method) (c : Code) : Prop :=
  p.tables.exec = Jvm.exec ∧ c.code = yB Y ∧ c.maxLocals = yM Y ∧ s.vm.findClass (yN Y).cls = some m.cls ∧ (∀ w ∈ GW, w.before args s = true) ∧ meth.locks = false ∧ meth.sig.returnType = yT Y ∧ (∀ q ∈ yP Y, okI (yB Y) q = true) ∧ KS G s ∧ SX G s s.heap ∧ g0 G ≤ s.heap.size ∧ meth.name = (yN Y).name ∧ c.exceptionTable.toList = tableOf (yH Y)
def QC (G : GT) (Q : Option Value → MU → Prop) : Array Value → State → Outcome → State → Prop := fun _ st o t => (∃ v u, o = .returned (v.map (cv G)) ∧ Q v u ∧ HS G u t.heap) ∧ va_F (AA G) st t
def XC (G : GT) (QX : String → MU → Prop) : String → State → State → Prop := fun E st t => ∃ u, QX E u ∧ HS G u t.heap ∧ va_F (AA G) st t
def lcv (G : GT) (ls : List (Nat × Value)) : List (Nat × Value) := ls.map (fun q => (q.1, cv G q.2))
/-- from here the method comes to its end, with Q of its answer, or throws, with QX -/
def V (G : GT) (Y : MT) (pc : Nat) (ls : List (Nat × Value)) (st : List Value) (u : MU) (c0 s0 : Nat) (Q : Option Value → MU → Prop) (QX : String → MU → Prop) : Prop :=
  ∀ (p : Program) (e : Env) (s : State) (m : MethodId) (args : Array Value) (below : List Frame) (meth : Method) (c : Code), CX G Y p s m args meth c → ∀ (H : Heap) (locs : List Loc) (arr : Array Slot), HS G u H → va_S (AA G) s.heap H locs → lv_has arr (yM Y) (lcv G ls) → (u.2.2.2 < 457 → s.heap.size + c0 = g0 G + (u.2.2.2 + 2)) →
    W p (gl G) e (yR Y) s m args below meth c H locs c0 s0 (vx_MQ below (QC G Q) (XC G QX) args s (yR Y).cells (yR Y).slots (AA G)) (F0 m pc arr (st.map (cv G)))
def PC (G : GT) (args : List Value) (u : MU) : Array Value → State → Prop := va_Pc (args.map (cv G)) (fun U => HS G u U.heap ∧ KS G U ∧ SX G U U.heap ∧ g0 G ≤ U.heap.size ∧ (u.2.2.2 < 457 → U.heap.size = g0 G + (u.2.2.2 + 2)))
/-- the method, called with these values in this world: Q of its answer, QX of what it throws -/
def MW (G : GT) (Y : MT) (args : List Value) (u : MU) (Q : Option Value → MU → Prop) (QX : String → MU → Prop) : Prop :=
  vx_Met (gl G) (yN Y) (yW Y) (yR Y) (PC G args u) (QC G Q) (XC G QX) (yR Y).cells (yR Y).slots (AA G)
theorem cv_cat (G : GT) (v : Value) : (cv G v).category = v.category := by cases v <;> rfl
theorem lcv_args (G : GT) : ∀ (vs : List Value) (i : Nat), lv_args i (vs.map (cv G)) = lcv G (lv_args i vs)
  | [], i => rfl
  | v :: vs, i => by
    show (i, cv G v) :: lv_args (if (cv G v).category = 2 then i + 2 else i + 1) (vs.map (cv G)) = (i, cv G v) :: lcv G (lv_args (if v.category = 2 then i + 2 else i + 1) vs)
    rw [cv_cat, lcv_args G vs]
theorem lsl_cv (G : GT) : ∀ (vs : List Value), (lg_sl (vs.map (cv G))).length = (lg_sl vs).length
  | [] => rfl
  | v :: vs => by
    have ih := lsl_cv G vs
    have key : ∀ w : Value, (if (cv G w).category = 2 then [Slot.val (cv G w), Slot.second] else [Slot.val (cv G w)]).length = (if w.category = 2 then [Slot.val w, Slot.second] else [Slot.val w]).length := by
      intro w
      rw [cv_cat]
      split <;> rfl
    simp only [lg_sl, List.map_cons, List.flatMap_cons, List.length_append, key] at ih ⊢
    rw [ih]
theorem PC_blind (G : GT) (args : List Value) (u : MU) : FrameBlind (PC G args u) := by
  intro a U g mk h
  obtain ⟨h1, h2, h3, h4, h5⟩ := h
  refine ⟨h1, h2, ?_, ?_, h5⟩
  · exact KS.warm (s := U) (State.WarmedH.refl U) h3
  · exact SX.moved (u := U) (Vm.Alike.refl U.vm) h4
theorem MW.intro {G : GT} {Y : MT} {args : List Value} {u : MU} {Q : Option Value → MU → Prop} {QX : String → MU → Prop} (hY : yH Y = []) (hy : plainName (yN Y).cls = true) (hP : (yP Y).all (okI (yB Y)) = true) (hl : (lg_sl args).length ≤ yM Y) (k : V G Y 0 (lv_args 0 args) [] u 0 0 Q QX) : MW G Y args u Q QX := by
  have hw : yW Y = Cond.code (yN Y) (yB Y) (yM Y) (yT Y) :: GW := by simp [yW, yC, hY]
  refine vx_ofW (cc := yB Y) (maxL := yM Y) (ret := yT Y) hy hw ?_
  intro p e s m args' below meth c s₁ B hml htab hv
  obtain ⟨rfl, hH, hK, hX, hn, hz⟩ := hv
  have hts := atoms_spec (ws := yW Y) B.pre
  have htb : c.exceptionTable.toList = tableOf (yH Y) := by
    rw [hY]
    cases hc : c.exceptionTable.toList with
    | nil => rfl
    | cons x r => exact absurd (htab x (by rw [hc]; exact List.mem_cons_self)) id
  have C : CX G Y p s m (args.map (cv G)).toArray meth c := ⟨B.exec, B.bytes, hml, findClass_of_methodNamed B.named, fun w h => hts w (List.mem_cons_of_mem _ h), B.notSynchronized, B.returns, List.all_eq_true.mp hP, hK, hX, hn, (name_of_methodNamed B.named B.method).1, htb⟩
  rw [lg_entry_eq]
  have hlen : (lg_sl (args.map (cv G))).length ≤ yM Y := by rw [lsl_cv]; exact hl
  have hl9 := lv_entry (args.map (cv G)) hlen
  rw [lcv_args] at hl9
  exact k p e s m _ below meth c C s.heap [] _ hH va_S.rf hl9 hz

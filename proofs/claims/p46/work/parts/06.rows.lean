section CXA
variable {G : GT} {Y : MT} {p : Program} {s : State} {m : MethodId} {args : Array Value} {meth : Method} {c : Code}
theorem cxx (C : CX G Y p s m args meth c) : p.tables.exec = Jvm.exec := C.1
theorem cxb (C : CX G Y p s m args meth c) : c.code = yB Y := C.2.1
theorem cxm (C : CX G Y p s m args meth c) : c.maxLocals = yM Y := C.2.2.1
theorem cxo (C : CX G Y p s m args meth c) : s.vm.findClass (yN Y).cls = some m.cls := C.2.2.2.1
theorem cxw (C : CX G Y p s m args meth c) : ∀ w ∈ GW, w.before args s = true := C.2.2.2.2.1
theorem cxl (C : CX G Y p s m args meth c) : meth.locks = false := C.2.2.2.2.2.1
theorem cxr (C : CX G Y p s m args meth c) : meth.sig.returnType = yT Y := C.2.2.2.2.2.2.1
theorem cxp (C : CX G Y p s m args meth c) : ∀ q ∈ yP Y, okI (yB Y) q = true := C.2.2.2.2.2.2.2.1
theorem cxk (C : CX G Y p s m args meth c) : KS G s := C.2.2.2.2.2.2.2.2.1
theorem cxs (C : CX G Y p s m args meth c) : SX G s s.heap := C.2.2.2.2.2.2.2.2.2.1
theorem cxn (C : CX G Y p s m args meth c) : g0 G ≤ s.heap.size := C.2.2.2.2.2.2.2.2.2.2.1
theorem cxi (C : CX G Y p s m args meth c) : meth.name = (yN Y).name := C.2.2.2.2.2.2.2.2.2.2.2.1
theorem cxt (C : CX G Y p s m args meth c) : c.exceptionTable.toList = tableOf (yH Y) := C.2.2.2.2.2.2.2.2.2.2.2.2
theorem cxd (C : CX G Y p s m args meth c) {k pc n : Nat} {i : Instr} (h : (yP Y)[k]? = some (pc, i, n)) : decode (yB Y) pc = .ok (i, n) :=
  okI_s (q := (pc, i, n)) (cxp C (pc, i, n) (List.mem_of_getElem? h))
end CXA
theorem lcv_get {G : GT} {ls : List (Nat × Value)} {j i : Nat} {v : Value} (h : ls[j]? = some (i, v)) : (lcv G ls)[j]? = some (i, cv G v) := by simp [lcv, List.getElem?_map, h]
theorem lcv_f1 {G : GT} {ls ls' : List (Nat × Value)} {i : Nat} {v : Value} (h : (i, v) :: ls.filter (fun q => !(q.1 == i) && !(q.1 + 1 == i && q.2.category == 2)) = ls') : (i, cv G v) :: (lcv G ls).filter (fun q => !(q.1 == i) && !(q.1 + 1 == i && q.2.category == 2)) = lcv G ls' := by
  subst h
  simp only [lcv, List.map_cons, List.filter_map]
  congr 2
  apply List.filter_congr
  intro q _
  simp [cv_cat]
theorem lcv_f2 {G : GT} {ls ls' : List (Nat × Value)} {i : Nat} {v : Value} (h : (i, v) :: ls.filter (fun q => !(q.1 == i) && (!(q.1 == i + 1) && !(q.1 + 1 == i && q.2.category == 2))) = ls') : (i, cv G v) :: (lcv G ls).filter (fun q => !(q.1 == i) && (!(q.1 == i + 1) && !(q.1 + 1 == i && q.2.category == 2))) = lcv G ls' := by
  subst h
  simp only [lcv, List.map_cons, List.filter_map]
  congr 2
  apply List.filter_congr
  intro q _
  simp [cv_cat]
/-- fewer locals known -/
theorem V.sub {G : GT} {Y : MT} {pc : Nat} {ls ls' : List (Nat × Value)} {st : List Value} {u : MU} {c0 s0 : Nat} {Q : Option Value → MU → Prop} {QX : String → MU → Prop} (ks : List Nat) (h : lv_pick ls ks = ls') (kk : V G Y pc ls' st u c0 s0 Q QX) : V G Y pc ls st u c0 s0 Q QX :=
  fun p e s m args below meth c C H locs arr hH hS hl hz => kk p e s m args below meth c C H locs arr hH hS (lv_sub hl ks (by
    subst h
    simp only [lv_pick, lcv, List.getElem?_map, List.map_filterMap])) hz
theorem V.widen {G : GT} {Y : MT} {pc : Nat} {ls : List (Nat × Value)} {st : List Value} {u : MU} {c0 s0 c1 s1 : Nat} {Q : Option Value → MU → Prop} {QX : String → MU → Prop} (h1 : c0 ≤ c1) (h2 : s0 ≤ s1) (hc : u.2.2.2 < 457 → c0 = c1) (kk : V G Y pc ls st u c1 s1 Q QX) : V G Y pc ls st u c0 s0 Q QX :=
  fun p e s m args below meth c C H locs arr hH hS hl hz => W.widen h1 h2 (kk p e s m args below meth c C H locs arr hH hS hl (fun q => by rw [← hc q]; exact hz q))
section VR
variable {G : GT} {Y : MT} {pc pc' : Nat} {ls ls' : List (Nat × Value)} {st : List Value} {u : MU} {c0 s0 : Nat} {Q : Option Value → MU → Prop} {QX : String → MU → Prop}
theorem v_iconst (k : Nat) {n : Int} {v : Int32} (hd : (yP Y)[k]? = some (pc, .iconst n, 1)) (hp : pc + 1 = pc') (hv : Int32.ofInt n = v) (kk : V G Y pc' ls (.int v :: st) u c0 s0 Q QX) : V G Y pc ls st u c0 s0 Q QX := by
  subst hp
  exact fun p e s m args below meth c C H locs arr hH hS hl hz => lv_iconst (cxx C) (cxb C) (cxd C hd) hv (kk p e s m args below meth c C H locs arr hH hS hl hz)
theorem v_bipush (k : Nat) {n : Int} {v : Int32} (hd : (yP Y)[k]? = some (pc, .bipush n, 2)) (hp : pc + 2 = pc') (hv : (Int8.ofInt n).toInt32 = v) (kk : V G Y pc' ls (.int v :: st) u c0 s0 Q QX) : V G Y pc ls st u c0 s0 Q QX := by
  subst hp
  exact fun p e s m args below meth c C H locs arr hH hS hl hz => lv_bipush (cxx C) (cxb C) (cxd C hd) hv (kk p e s m args below meth c C H locs arr hH hS hl hz)
theorem v_sipush (k : Nat) {n : Int} {v : Int32} (hd : (yP Y)[k]? = some (pc, .sipush n, 3)) (hp : pc + 3 = pc') (hv : (Int16.ofInt n).toInt32 = v) (kk : V G Y pc' ls (.int v :: st) u c0 s0 Q QX) : V G Y pc ls st u c0 s0 Q QX := by
  subst hp
  exact fun p e s m args below meth c C H locs arr hH hS hl hz => lv_sipush (cxx C) (cxb C) (cxd C hd) hv (kk p e s m args below meth c C H locs arr hH hS hl hz)
theorem v_lconst (k : Nat) {n : Fin 2} {v : Int64} (hd : (yP Y)[k]? = some (pc, .lconst n, 1)) (hp : pc + 1 = pc') (hv : Int64.ofNat (n : Nat) = v) (kk : V G Y pc' ls (.long v :: st) u c0 s0 Q QX) : V G Y pc ls st u c0 s0 Q QX := by
  subst hp
  exact fun p e s m args below meth c C H locs arr hH hS hl hz => lv_lconst (cxx C) (cxb C) (cxd C hd) hv (kk p e s m args below meth c C H locs arr hH hS hl hz)
theorem v_dconst0 (k : Nat)  (hd : (yP Y)[k]? = some (pc, .dconst 0, 1)) (hp : pc + 1 = pc') (kk : V G Y pc' ls (.double FP.dconst0 :: st) u c0 s0 Q QX) : V G Y pc ls st u c0 s0 Q QX := by
  subst hp
  exact fun p e s m args below meth c C H locs arr hH hS hl hz => lv_dconst0 (cxx C) (cxb C) (cxd C hd) (kk p e s m args below meth c C H locs arr hH hS hl hz)
theorem v_fconst0 (k : Nat)  (hd : (yP Y)[k]? = some (pc, .fconst 0, 1)) (hp : pc + 1 = pc') (kk : V G Y pc' ls (.float FP.fconst0 :: st) u c0 s0 Q QX) : V G Y pc ls st u c0 s0 Q QX := by
  subst hp
  exact fun p e s m args below meth c C H locs arr hH hS hl hz => lv_fconst0 (cxx C) (cxb C) (cxd C hd) (kk p e s m args below meth c C H locs arr hH hS hl hz)
theorem v_iload_n (k : Nat) (j : Nat) {f : Fin 4} {i : Nat} {x : Int32} (hd : (yP Y)[k]? = some (pc, .iload_n f, 1)) (hp : pc + 1 = pc') (hi : (f : Nat) = i) (hl0 : ls[j]? = some (i, .int x)) (kk : V G Y pc' ls (.int x :: st) u c0 s0 Q QX) : V G Y pc ls st u c0 s0 Q QX := by
  subst hp
  exact fun p e s m args below meth c C H locs arr hH hS hl hz => lv_iload_n (cxx C) (cxb C) (cxd C hd) hi (lv_at hl j (lcv_get hl0)) (kk p e s m args below meth c C H locs arr hH hS hl hz)
theorem v_iload (k : Nat) (j : Nat) {i : Nat} {x : Int32} (hd : (yP Y)[k]? = some (pc, .iload i, 2)) (hp : pc + 2 = pc') (hl0 : ls[j]? = some (i, .int x)) (kk : V G Y pc' ls (.int x :: st) u c0 s0 Q QX) : V G Y pc ls st u c0 s0 Q QX := by
  subst hp
  exact fun p e s m args below meth c C H locs arr hH hS hl hz => lv_iload (cxx C) (cxb C) (cxd C hd) (lv_at hl j (lcv_get hl0)) (kk p e s m args below meth c C H locs arr hH hS hl hz)
theorem v_istore_n (k : Nat) {f : Fin 4} {i : Nat} {x : Int32} (hd : (yP Y)[k]? = some (pc, .istore_n f, 1)) (hp : pc + 1 = pc') (hi : (f : Nat) = i) (hn : i < yM Y) (hf : (i, Value.int x) :: ls.filter (fun q => !(q.1 == i) && !(q.1 + 1 == i && q.2.category == 2)) = ls') (kk : V G Y pc' ls' st u c0 s0 Q QX) : V G Y pc ls (.int x :: st) u c0 s0 Q QX := by
  subst hp
  exact fun p e s m args below meth c C H locs arr hH hS hl hz => lv_istore_n (cxx C) (cxb C) (cxd C hd) hi hl hn (lcv_f1 (G := G) hf) (fun arr2 hl2 => kk p e s m args below meth c C H locs arr2 hH hS hl2 hz)
theorem v_istore (k : Nat) {i : Nat} {x : Int32} (hd : (yP Y)[k]? = some (pc, .istore i, 2)) (hp : pc + 2 = pc') (hn : i < yM Y) (hf : (i, Value.int x) :: ls.filter (fun q => !(q.1 == i) && !(q.1 + 1 == i && q.2.category == 2)) = ls') (kk : V G Y pc' ls' st u c0 s0 Q QX) : V G Y pc ls (.int x :: st) u c0 s0 Q QX := by
  subst hp
  exact fun p e s m args below meth c C H locs arr hH hS hl hz => lv_istore (cxx C) (cxb C) (cxd C hd) hl hn (lcv_f1 (G := G) hf) (fun arr2 hl2 => kk p e s m args below meth c C H locs arr2 hH hS hl2 hz)
theorem v_lload_n (k : Nat) (j : Nat) {f : Fin 4} {i : Nat} {x : Int64} (hd : (yP Y)[k]? = some (pc, .lload_n f, 1)) (hp : pc + 1 = pc') (hi : (f : Nat) = i) (hl0 : ls[j]? = some (i, .long x)) (kk : V G Y pc' ls (.long x :: st) u c0 s0 Q QX) : V G Y pc ls st u c0 s0 Q QX := by
  subst hp
  exact fun p e s m args below meth c C H locs arr hH hS hl hz => lv_lload_n (cxx C) (cxb C) (cxd C hd) hi (lv_at hl j (lcv_get hl0)) (kk p e s m args below meth c C H locs arr hH hS hl hz)
theorem v_lload (k : Nat) (j : Nat) {i : Nat} {x : Int64} (hd : (yP Y)[k]? = some (pc, .lload i, 2)) (hp : pc + 2 = pc') (hl0 : ls[j]? = some (i, .long x)) (kk : V G Y pc' ls (.long x :: st) u c0 s0 Q QX) : V G Y pc ls st u c0 s0 Q QX := by
  subst hp
  exact fun p e s m args below meth c C H locs arr hH hS hl hz => lv_lload (cxx C) (cxb C) (cxd C hd) (lv_at hl j (lcv_get hl0)) (kk p e s m args below meth c C H locs arr hH hS hl hz)
theorem v_lstore_n (k : Nat) {f : Fin 4} {i : Nat} {x : Int64} (hd : (yP Y)[k]? = some (pc, .lstore_n f, 1)) (hp : pc + 1 = pc') (hi : (f : Nat) = i) (hn : i + 1 < yM Y) (hf : (i, Value.long x) :: ls.filter (fun q => !(q.1 == i) && (!(q.1 == i + 1) && !(q.1 + 1 == i && q.2.category == 2))) = ls') (kk : V G Y pc' ls' st u c0 s0 Q QX) : V G Y pc ls (.long x :: st) u c0 s0 Q QX := by
  subst hp
  exact fun p e s m args below meth c C H locs arr hH hS hl hz => lv_lstore_n (cxx C) (cxb C) (cxd C hd) hi hl hn (lcv_f2 (G := G) hf) (fun arr2 hl2 => kk p e s m args below meth c C H locs arr2 hH hS hl2 hz)
theorem v_lstore (k : Nat) {i : Nat} {x : Int64} (hd : (yP Y)[k]? = some (pc, .lstore i, 2)) (hp : pc + 2 = pc') (hn : i + 1 < yM Y) (hf : (i, Value.long x) :: ls.filter (fun q => !(q.1 == i) && (!(q.1 == i + 1) && !(q.1 + 1 == i && q.2.category == 2))) = ls') (kk : V G Y pc' ls' st u c0 s0 Q QX) : V G Y pc ls (.long x :: st) u c0 s0 Q QX := by
  subst hp
  exact fun p e s m args below meth c C H locs arr hH hS hl hz => lv_lstore (cxx C) (cxb C) (cxd C hd) hl hn (lcv_f2 (G := G) hf) (fun arr2 hl2 => kk p e s m args below meth c C H locs arr2 hH hS hl2 hz)
theorem v_dload_n (k : Nat) (j : Nat) {f : Fin 4} {i : Nat} {x : UInt64} (hd : (yP Y)[k]? = some (pc, .dload_n f, 1)) (hp : pc + 1 = pc') (hi : (f : Nat) = i) (hl0 : ls[j]? = some (i, .double x)) (kk : V G Y pc' ls (.double x :: st) u c0 s0 Q QX) : V G Y pc ls st u c0 s0 Q QX := by
  subst hp
  exact fun p e s m args below meth c C H locs arr hH hS hl hz => lv_dload_n (cxx C) (cxb C) (cxd C hd) hi (lv_at hl j (lcv_get hl0)) (kk p e s m args below meth c C H locs arr hH hS hl hz)
theorem v_dload (k : Nat) (j : Nat) {i : Nat} {x : UInt64} (hd : (yP Y)[k]? = some (pc, .dload i, 2)) (hp : pc + 2 = pc') (hl0 : ls[j]? = some (i, .double x)) (kk : V G Y pc' ls (.double x :: st) u c0 s0 Q QX) : V G Y pc ls st u c0 s0 Q QX := by
  subst hp
  exact fun p e s m args below meth c C H locs arr hH hS hl hz => lv_dload (cxx C) (cxb C) (cxd C hd) (lv_at hl j (lcv_get hl0)) (kk p e s m args below meth c C H locs arr hH hS hl hz)
theorem v_dstore_n (k : Nat) {f : Fin 4} {i : Nat} {x : UInt64} (hd : (yP Y)[k]? = some (pc, .dstore_n f, 1)) (hp : pc + 1 = pc') (hi : (f : Nat) = i) (hn : i + 1 < yM Y) (hf : (i, Value.double x) :: ls.filter (fun q => !(q.1 == i) && (!(q.1 == i + 1) && !(q.1 + 1 == i && q.2.category == 2))) = ls') (kk : V G Y pc' ls' st u c0 s0 Q QX) : V G Y pc ls (.double x :: st) u c0 s0 Q QX := by
  subst hp
  exact fun p e s m args below meth c C H locs arr hH hS hl hz => lv_dstore_n (cxx C) (cxb C) (cxd C hd) hi hl hn (lcv_f2 (G := G) hf) (fun arr2 hl2 => kk p e s m args below meth c C H locs arr2 hH hS hl2 hz)
theorem v_dstore (k : Nat) {i : Nat} {x : UInt64} (hd : (yP Y)[k]? = some (pc, .dstore i, 2)) (hp : pc + 2 = pc') (hn : i + 1 < yM Y) (hf : (i, Value.double x) :: ls.filter (fun q => !(q.1 == i) && (!(q.1 == i + 1) && !(q.1 + 1 == i && q.2.category == 2))) = ls') (kk : V G Y pc' ls' st u c0 s0 Q QX) : V G Y pc ls (.double x :: st) u c0 s0 Q QX := by
  subst hp
  exact fun p e s m args below meth c C H locs arr hH hS hl hz => lv_dstore (cxx C) (cxb C) (cxd C hd) hl hn (lcv_f2 (G := G) hf) (fun arr2 hl2 => kk p e s m args below meth c C H locs arr2 hH hS hl2 hz)
theorem v_aload_n (k : Nat) (j : Nat) {f : Fin 4} {i : Nat} {x : Nat} (hd : (yP Y)[k]? = some (pc, .aload_n f, 1)) (hp : pc + 1 = pc') (hi : (f : Nat) = i) (hl0 : ls[j]? = some (i, .ref x)) (kk : V G Y pc' ls (.ref x :: st) u c0 s0 Q QX) : V G Y pc ls st u c0 s0 Q QX := by
  subst hp
  exact fun p e s m args below meth c C H locs arr hH hS hl hz => lv_aload_n (cxx C) (cxb C) (cxd C hd) hi (lv_at hl j (lcv_get hl0)) (kk p e s m args below meth c C H locs arr hH hS hl hz)
theorem v_aload (k : Nat) (j : Nat) {i : Nat} {x : Nat} (hd : (yP Y)[k]? = some (pc, .aload i, 2)) (hp : pc + 2 = pc') (hl0 : ls[j]? = some (i, .ref x)) (kk : V G Y pc' ls (.ref x :: st) u c0 s0 Q QX) : V G Y pc ls st u c0 s0 Q QX := by
  subst hp
  exact fun p e s m args below meth c C H locs arr hH hS hl hz => lv_aload (cxx C) (cxb C) (cxd C hd) (lv_at hl j (lcv_get hl0)) (kk p e s m args below meth c C H locs arr hH hS hl hz)
theorem v_astore_n (k : Nat) {f : Fin 4} {i : Nat} {x : Nat} (hd : (yP Y)[k]? = some (pc, .astore_n f, 1)) (hp : pc + 1 = pc') (hi : (f : Nat) = i) (hn : i < yM Y) (hf : (i, Value.ref x) :: ls.filter (fun q => !(q.1 == i) && !(q.1 + 1 == i && q.2.category == 2)) = ls') (kk : V G Y pc' ls' st u c0 s0 Q QX) : V G Y pc ls (.ref x :: st) u c0 s0 Q QX := by
  subst hp
  exact fun p e s m args below meth c C H locs arr hH hS hl hz => lv_astore_n (cxx C) (cxb C) (cxd C hd) hi hl hn (lcv_f1 (G := G) hf) (fun arr2 hl2 => kk p e s m args below meth c C H locs arr2 hH hS hl2 hz)
theorem v_astore (k : Nat) {i : Nat} {x : Nat} (hd : (yP Y)[k]? = some (pc, .astore i, 2)) (hp : pc + 2 = pc') (hn : i < yM Y) (hf : (i, Value.ref x) :: ls.filter (fun q => !(q.1 == i) && !(q.1 + 1 == i && q.2.category == 2)) = ls') (kk : V G Y pc' ls' st u c0 s0 Q QX) : V G Y pc ls (.ref x :: st) u c0 s0 Q QX := by
  subst hp
  exact fun p e s m args below meth c C H locs arr hH hS hl hz => lv_astore (cxx C) (cxb C) (cxd C hd) hl hn (lcv_f1 (G := G) hf) (fun arr2 hl2 => kk p e s m args below meth c C H locs arr2 hH hS hl2 hz)
theorem v_iinc (k j : Nat) {i : Nat} {n : Int} {x v : Int32} (hd : (yP Y)[k]? = some (pc, .iinc i n, 3)) (hp : pc + 3 = pc') (hl0 : ls[j]? = some (i, .int x)) (hv : x + Int32.ofInt n = v) (hn : i < yM Y) (hf : (i, Value.int v) :: ls.filter (fun q => !(q.1 == i) && !(q.1 + 1 == i && q.2.category == 2)) = ls') (kk : V G Y pc' ls' st u c0 s0 Q QX) : V G Y pc ls st u c0 s0 Q QX := by
  subst hp
  exact fun p e s m args below meth c C H locs arr hH hS hl hz => lv_iinc (cxx C) (cxb C) (cxd C hd) hl (lcv_get hl0) hv hn (lcv_f1 (G := G) hf) (fun arr2 hl2 => kk p e s m args below meth c C H locs arr2 hH hS hl2 hz)
theorem v_iadd (k : Nat) {x y : Int32} (hd : (yP Y)[k]? = some (pc, .iadd, 1)) (hp : pc + 1 = pc') (kk : V G Y pc' ls (.int (x + y) :: st) u c0 s0 Q QX) : V G Y pc ls (.int y :: .int x :: st) u c0 s0 Q QX := by
  subst hp
  exact fun p e s m args below meth c C H locs arr hH hS hl hz => lv_iadd (cxx C) (cxb C) (cxd C hd) (kk p e s m args below meth c C H locs arr hH hS hl hz)
theorem v_isub (k : Nat) {x y : Int32} (hd : (yP Y)[k]? = some (pc, .isub, 1)) (hp : pc + 1 = pc') (kk : V G Y pc' ls (.int (x - y) :: st) u c0 s0 Q QX) : V G Y pc ls (.int y :: .int x :: st) u c0 s0 Q QX := by
  subst hp
  exact fun p e s m args below meth c C H locs arr hH hS hl hz => lv_isub (cxx C) (cxb C) (cxd C hd) (kk p e s m args below meth c C H locs arr hH hS hl hz)
theorem v_imul (k : Nat) {x y : Int32} (hd : (yP Y)[k]? = some (pc, .imul, 1)) (hp : pc + 1 = pc') (kk : V G Y pc' ls (.int (x * y) :: st) u c0 s0 Q QX) : V G Y pc ls (.int y :: .int x :: st) u c0 s0 Q QX := by
  subst hp
  exact fun p e s m args below meth c C H locs arr hH hS hl hz => lv_imul (cxx C) (cxb C) (cxd C hd) (kk p e s m args below meth c C H locs arr hH hS hl hz)
theorem v_iand (k : Nat) {x y : Int32} (hd : (yP Y)[k]? = some (pc, .iand, 1)) (hp : pc + 1 = pc') (kk : V G Y pc' ls (.int (x &&& y) :: st) u c0 s0 Q QX) : V G Y pc ls (.int y :: .int x :: st) u c0 s0 Q QX := by
  subst hp
  exact fun p e s m args below meth c C H locs arr hH hS hl hz => lv_iand (cxx C) (cxb C) (cxd C hd) (kk p e s m args below meth c C H locs arr hH hS hl hz)
theorem v_ior (k : Nat) {x y : Int32} (hd : (yP Y)[k]? = some (pc, .ior, 1)) (hp : pc + 1 = pc') (kk : V G Y pc' ls (.int (x ||| y) :: st) u c0 s0 Q QX) : V G Y pc ls (.int y :: .int x :: st) u c0 s0 Q QX := by
  subst hp
  exact fun p e s m args below meth c C H locs arr hH hS hl hz => lv_ior (cxx C) (cxb C) (cxd C hd) (kk p e s m args below meth c C H locs arr hH hS hl hz)
theorem v_ixor (k : Nat) {x y : Int32} (hd : (yP Y)[k]? = some (pc, .ixor, 1)) (hp : pc + 1 = pc') (kk : V G Y pc' ls (.int (x ^^^ y) :: st) u c0 s0 Q QX) : V G Y pc ls (.int y :: .int x :: st) u c0 s0 Q QX := by
  subst hp
  exact fun p e s m args below meth c C H locs arr hH hS hl hz => lv_ixor (cxx C) (cxb C) (cxd C hd) (kk p e s m args below meth c C H locs arr hH hS hl hz)
theorem v_ladd (k : Nat) {x y : Int64} (hd : (yP Y)[k]? = some (pc, .ladd, 1)) (hp : pc + 1 = pc') (kk : V G Y pc' ls (.long (x + y) :: st) u c0 s0 Q QX) : V G Y pc ls (.long y :: .long x :: st) u c0 s0 Q QX := by
  subst hp
  exact fun p e s m args below meth c C H locs arr hH hS hl hz => lv_ladd (cxx C) (cxb C) (cxd C hd) (kk p e s m args below meth c C H locs arr hH hS hl hz)
theorem v_lsub (k : Nat) {x y : Int64} (hd : (yP Y)[k]? = some (pc, .lsub, 1)) (hp : pc + 1 = pc') (kk : V G Y pc' ls (.long (x - y) :: st) u c0 s0 Q QX) : V G Y pc ls (.long y :: .long x :: st) u c0 s0 Q QX := by
  subst hp
  exact fun p e s m args below meth c C H locs arr hH hS hl hz => lv_lsub (cxx C) (cxb C) (cxd C hd) (kk p e s m args below meth c C H locs arr hH hS hl hz)
theorem v_lmul (k : Nat) {x y : Int64} (hd : (yP Y)[k]? = some (pc, .lmul, 1)) (hp : pc + 1 = pc') (kk : V G Y pc' ls (.long (x * y) :: st) u c0 s0 Q QX) : V G Y pc ls (.long y :: .long x :: st) u c0 s0 Q QX := by
  subst hp
  exact fun p e s m args below meth c C H locs arr hH hS hl hz => lv_lmul (cxx C) (cxb C) (cxd C hd) (kk p e s m args below meth c C H locs arr hH hS hl hz)
theorem v_land (k : Nat) {x y : Int64} (hd : (yP Y)[k]? = some (pc, .land, 1)) (hp : pc + 1 = pc') (kk : V G Y pc' ls (.long (x &&& y) :: st) u c0 s0 Q QX) : V G Y pc ls (.long y :: .long x :: st) u c0 s0 Q QX := by
  subst hp
  exact fun p e s m args below meth c C H locs arr hH hS hl hz => lv_land (cxx C) (cxb C) (cxd C hd) (kk p e s m args below meth c C H locs arr hH hS hl hz)
theorem v_lor (k : Nat) {x y : Int64} (hd : (yP Y)[k]? = some (pc, .lor, 1)) (hp : pc + 1 = pc') (kk : V G Y pc' ls (.long (x ||| y) :: st) u c0 s0 Q QX) : V G Y pc ls (.long y :: .long x :: st) u c0 s0 Q QX := by
  subst hp
  exact fun p e s m args below meth c C H locs arr hH hS hl hz => lv_lor (cxx C) (cxb C) (cxd C hd) (kk p e s m args below meth c C H locs arr hH hS hl hz)
theorem v_lxor (k : Nat) {x y : Int64} (hd : (yP Y)[k]? = some (pc, .lxor, 1)) (hp : pc + 1 = pc') (kk : V G Y pc' ls (.long (x ^^^ y) :: st) u c0 s0 Q QX) : V G Y pc ls (.long y :: .long x :: st) u c0 s0 Q QX := by
  subst hp
  exact fun p e s m args below meth c C H locs arr hH hS hl hz => lv_lxor (cxx C) (cxb C) (cxd C hd) (kk p e s m args below meth c C H locs arr hH hS hl hz)
theorem v_ishl (k : Nat) {x y : Int32} (hd : (yP Y)[k]? = some (pc, .ishl, 1)) (hp : pc + 1 = pc') (kk : V G Y pc' ls (.int (x <<< (y &&& 31)) :: st) u c0 s0 Q QX) : V G Y pc ls (.int y :: .int x :: st) u c0 s0 Q QX := by
  subst hp
  exact fun p e s m args below meth c C H locs arr hH hS hl hz => lv_ishl (cxx C) (cxb C) (cxd C hd) (kk p e s m args below meth c C H locs arr hH hS hl hz)
theorem v_ishr (k : Nat) {x y : Int32} (hd : (yP Y)[k]? = some (pc, .ishr, 1)) (hp : pc + 1 = pc') (kk : V G Y pc' ls (.int (x >>> (y &&& 31)) :: st) u c0 s0 Q QX) : V G Y pc ls (.int y :: .int x :: st) u c0 s0 Q QX := by
  subst hp
  exact fun p e s m args below meth c C H locs arr hH hS hl hz => lv_ishr (cxx C) (cxb C) (cxd C hd) (kk p e s m args below meth c C H locs arr hH hS hl hz)
def ushI (x y : Int32) : Int32 := (x.toUInt32 >>> (y.toUInt32 &&& Int32.toUInt32 31)).toInt32
def ushL (x : Int64) (y : Int32) : Int64 := (x.toUInt64 >>> (y.toInt64.toUInt64 &&& Int64.toUInt64 63)).toInt64
def shlL (x : Int64) (y : Int32) : Int64 := x <<< (y.toInt64 &&& 63)
def shrL (x : Int64) (y : Int32) : Int64 := x >>> (y.toInt64 &&& 63)
theorem v_iushr (k : Nat) {x y : Int32} (hd : (yP Y)[k]? = some (pc, .iushr, 1)) (hp : pc + 1 = pc') (kk : V G Y pc' ls (.int (ushI x y) :: st) u c0 s0 Q QX) : V G Y pc ls (.int y :: .int x :: st) u c0 s0 Q QX := by
  subst hp
  exact fun p e s m args below meth c C H locs arr hH hS hl hz => lv_iushr (cxx C) (cxb C) (cxd C hd) rfl (kk p e s m args below meth c C H locs arr hH hS hl hz)
theorem v_lushr (k : Nat) {x : Int64} {y : Int32} (hd : (yP Y)[k]? = some (pc, .lushr, 1)) (hp : pc + 1 = pc') (kk : V G Y pc' ls (.long (ushL x y) :: st) u c0 s0 Q QX) : V G Y pc ls (.int y :: .long x :: st) u c0 s0 Q QX := by
  subst hp
  exact fun p e s m args below meth c C H locs arr hH hS hl hz => lv_lushr (cxx C) (cxb C) (cxd C hd) rfl (kk p e s m args below meth c C H locs arr hH hS hl hz)
theorem v_lshl (k : Nat) {x : Int64} {y : Int32} (hd : (yP Y)[k]? = some (pc, .lshl, 1)) (hp : pc + 1 = pc') (kk : V G Y pc' ls (.long (shlL x y) :: st) u c0 s0 Q QX) : V G Y pc ls (.int y :: .long x :: st) u c0 s0 Q QX := by
  subst hp
  exact fun p e s m args below meth c C H locs arr hH hS hl hz => lv_lshl (cxx C) (cxb C) (cxd C hd) rfl (kk p e s m args below meth c C H locs arr hH hS hl hz)
theorem v_lshr (k : Nat) {x : Int64} {y : Int32} (hd : (yP Y)[k]? = some (pc, .lshr, 1)) (hp : pc + 1 = pc') (kk : V G Y pc' ls (.long (shrL x y) :: st) u c0 s0 Q QX) : V G Y pc ls (.int y :: .long x :: st) u c0 s0 Q QX := by
  subst hp
  exact fun p e s m args below meth c C H locs arr hH hS hl hz => lv_lshr (cxx C) (cxb C) (cxd C hd) rfl (kk p e s m args below meth c C H locs arr hH hS hl hz)
theorem v_i2l (k : Nat) {x : Int32} (hd : (yP Y)[k]? = some (pc, .i2l, 1)) (hp : pc + 1 = pc') (kk : V G Y pc' ls (.long x.toInt64 :: st) u c0 s0 Q QX) : V G Y pc ls (.int x :: st) u c0 s0 Q QX := by
  subst hp
  exact fun p e s m args below meth c C H locs arr hH hS hl hz => lv_i2l (cxx C) (cxb C) (cxd C hd) rfl (kk p e s m args below meth c C H locs arr hH hS hl hz)
theorem v_l2i (k : Nat) {x : Int64} (hd : (yP Y)[k]? = some (pc, .l2i, 1)) (hp : pc + 1 = pc') (kk : V G Y pc' ls (.int x.toInt32 :: st) u c0 s0 Q QX) : V G Y pc ls (.long x :: st) u c0 s0 Q QX := by
  subst hp
  exact fun p e s m args below meth c C H locs arr hH hS hl hz => lv_l2i (cxx C) (cxb C) (cxd C hd) rfl (kk p e s m args below meth c C H locs arr hH hS hl hz)
theorem v_i2b (k : Nat) {x : Int32} (hd : (yP Y)[k]? = some (pc, .i2b, 1)) (hp : pc + 1 = pc') (kk : V G Y pc' ls (.int x.toInt8.toInt32 :: st) u c0 s0 Q QX) : V G Y pc ls (.int x :: st) u c0 s0 Q QX := by
  subst hp
  exact fun p e s m args below meth c C H locs arr hH hS hl hz => lv_i2b (cxx C) (cxb C) (cxd C hd) rfl (kk p e s m args below meth c C H locs arr hH hS hl hz)
theorem v_i2c (k : Nat) {x : Int32} (hd : (yP Y)[k]? = some (pc, .i2c, 1)) (hp : pc + 1 = pc') (kk : V G Y pc' ls (.int (x.toUInt32 % 65536).toInt32 :: st) u c0 s0 Q QX) : V G Y pc ls (.int x :: st) u c0 s0 Q QX := by
  subst hp
  exact fun p e s m args below meth c C H locs arr hH hS hl hz => lv_i2c (cxx C) (cxb C) (cxd C hd) rfl (kk p e s m args below meth c C H locs arr hH hS hl hz)
theorem v_i2d (k : Nat) {x : Int32} (hd : (yP Y)[k]? = some (pc, .i2d, 1)) (hp : pc + 1 = pc') (kk : V G Y pc' ls (.double (FP.i2d x) :: st) u c0 s0 Q QX) : V G Y pc ls (.int x :: st) u c0 s0 Q QX := by
  subst hp
  exact fun p e s m args below meth c C H locs arr hH hS hl hz => lv_i2d (cxx C) (cxb C) (cxd C hd) (kk p e s m args below meth c C H locs arr hH hS hl hz)
theorem v_i2f (k : Nat) {x : Int32} (hd : (yP Y)[k]? = some (pc, .i2f, 1)) (hp : pc + 1 = pc') (kk : V G Y pc' ls (.float (FP.i2f x) :: st) u c0 s0 Q QX) : V G Y pc ls (.int x :: st) u c0 s0 Q QX := by
  subst hp
  exact fun p e s m args below meth c C H locs arr hH hS hl hz => lv_i2f (cxx C) (cxb C) (cxd C hd) (kk p e s m args below meth c C H locs arr hH hS hl hz)
theorem v_ddiv (k : Nat) {x y : UInt64} (hd : (yP Y)[k]? = some (pc, .ddiv, 1)) (hp : pc + 1 = pc') (hne : vf_n64 (FP.ddiv x y)) (kk : V G Y pc' ls (.double (FP.ddiv x y) :: st) u c0 s0 Q QX) : V G Y pc ls (.double y :: .double x :: st) u c0 s0 Q QX := by
  subst hp
  exact fun p e s m args below meth c C H locs arr hH hS hl hz => lv_ddiv (cxx C) (cxb C) (cxd C hd) hne (kk p e s m args below meth c C H locs arr hH hS hl hz)
theorem v_fdiv (k : Nat) {x y : UInt32} (hd : (yP Y)[k]? = some (pc, .fdiv, 1)) (hp : pc + 1 = pc') (hne : vf_n32 (FP.fdiv x y)) (kk : V G Y pc' ls (.float (FP.fdiv x y) :: st) u c0 s0 Q QX) : V G Y pc ls (.float y :: .float x :: st) u c0 s0 Q QX := by
  subst hp
  exact fun p e s m args below meth c C H locs arr hH hS hl hz => lv_fdiv (cxx C) (cxb C) (cxd C hd) hne (kk p e s m args below meth c C H locs arr hH hS hl hz)
theorem v_f2d (k : Nat) {x : UInt32} (hd : (yP Y)[k]? = some (pc, .f2d, 1)) (hp : pc + 1 = pc') (hne : vf_n64 (FP.f2d x)) (kk : V G Y pc' ls (.double (FP.f2d x) :: st) u c0 s0 Q QX) : V G Y pc ls (.float x :: st) u c0 s0 Q QX := by
  subst hp
  exact fun p e s m args below meth c C H locs arr hH hS hl hz => lv_f2d (cxx C) (cxb C) (cxd C hd) hne (kk p e s m args below meth c C H locs arr hH hS hl hz)
theorem v_dcmp (k : Nat) {x y : UInt64} {op : CmpOp} (hd : (yP Y)[k]? = some (pc, .dcmp op, 1)) (hp : pc + 1 = pc') (kk : V G Y pc' ls (.int (Op.cmpValue (FP.dcmp x y) op) :: st) u c0 s0 Q QX) : V G Y pc ls (.double y :: .double x :: st) u c0 s0 Q QX := by
  subst hp
  exact fun p e s m args below meth c C H locs arr hH hS hl hz => lv_dcmp (cxx C) (cxb C) (cxd C hd) (kk p e s m args below meth c C H locs arr hH hS hl hz)
theorem v_lcmp (k : Nat) {x y : Int64} (hd : (yP Y)[k]? = some (pc, .lcmp, 1)) (hp : pc + 1 = pc') (kk : V G Y pc' ls (.int (lg_cmp x y) :: st) u c0 s0 Q QX) : V G Y pc ls (.long y :: .long x :: st) u c0 s0 Q QX := by
  subst hp
  exact fun p e s m args below meth c C H locs arr hH hS hl hz => W.lcmp (cxx C) (cxb C) (cxd C hd) (kk p e s m args below meth c C H locs arr hH hS hl hz)
theorem v_dup (k : Nat) {v : Value} (hd : (yP Y)[k]? = some (pc, .dup, 1)) (hp : pc + 1 = pc') (hv : v.category = 1) (kk : V G Y pc' ls (v :: v :: st) u c0 s0 Q QX) : V G Y pc ls (v :: st) u c0 s0 Q QX := by
  subst hp
  exact fun p e s m args below meth c C H locs arr hH hS hl hz => lv_dup (cxx C) (cxb C) (cxd C hd) (by rw [cv_cat]; exact hv) (kk p e s m args below meth c C H locs arr hH hS hl hz)
theorem v_dup2 (k : Nat) {v v2 : Value} (hd : (yP Y)[k]? = some (pc, .dup2, 1)) (hp : pc + 1 = pc') (hv : v.category = 1) (hv2 : v2.category = 1) (kk : V G Y pc' ls (v :: v2 :: v :: v2 :: st) u c0 s0 Q QX) : V G Y pc ls (v :: v2 :: st) u c0 s0 Q QX := by
  subst hp
  exact fun p e s m args below meth c C H locs arr hH hS hl hz => lv_dup2_11 (cxx C) (cxb C) (cxd C hd) (by rw [cv_cat]; exact hv) (by rw [cv_cat]; exact hv2) (kk p e s m args below meth c C H locs arr hH hS hl hz)
theorem v_pop (k : Nat) {v : Value} (hd : (yP Y)[k]? = some (pc, .pop, 1)) (hp : pc + 1 = pc') (hv : v.category = 1) (kk : V G Y pc' ls st u c0 s0 Q QX) : V G Y pc ls (v :: st) u c0 s0 Q QX := by
  subst hp
  exact fun p e s m args below meth c C H locs arr hH hS hl hz => lv_pop (cxx C) (cxb C) (cxd C hd) (by rw [cv_cat]; exact hv) (kk p e s m args below meth c C H locs arr hH hS hl hz)
theorem v_ldc (k : Nat) {i : Nat} {v : Int32} (hd : (yP Y)[k]? = some (pc, .ldc i, 2)) (hp : pc + 2 = pc') (hc : Cond.constant (yN Y).cls i v ∈ GW) (kk : V G Y pc' ls (.int v :: st) u c0 s0 Q QX) : V G Y pc ls st u c0 s0 Q QX := by
  subst hp
  exact fun p e s m args below meth c C H locs arr hH hS hl hz => lv_ldc (cxx C) (cxb C) (cxo C) (cxw C _ hc) (cxd C hd) (kk p e s m args below meth c C H locs arr hH hS hl hz)
theorem v_ldc_w (k : Nat) {i : Nat} {v : Int32} (hd : (yP Y)[k]? = some (pc, .ldc_w i, 3)) (hp : pc + 3 = pc') (hc : Cond.constant (yN Y).cls i v ∈ GW) (kk : V G Y pc' ls (.int v :: st) u c0 s0 Q QX) : V G Y pc ls st u c0 s0 Q QX := by
  subst hp
  exact fun p e s m args below meth c C H locs arr hH hS hl hz => lv_ldcw (cxx C) (cxb C) (cxo C) (cxw C _ hc) (cxd C hd) (kk p e s m args below meth c C H locs arr hH hS hl hz)
theorem v_ldc2 (k : Nat) {i : Nat} {v : Int64} (hd : (yP Y)[k]? = some (pc, .ldc2_w i, 3)) (hp : pc + 3 = pc') (hc : Cond.constantLong (yN Y).cls i v ∈ GW) (kk : V G Y pc' ls (.long v :: st) u c0 s0 Q QX) : V G Y pc ls st u c0 s0 Q QX := by
  subst hp
  exact fun p e s m args below meth c C H locs arr hH hS hl hz => lv_ldc2 (cxx C) (cxb C) (cxo C) (cxw C _ hc) (cxd C hd) (kk p e s m args below meth c C H locs arr hH hS hl hz)
theorem v_if_eq (k : Nat) {x : Int32} {off : Int} {tgt : Nat} (hd : (yP Y)[k]? = some (pc, .ifCond .eq off, 3)) (hp : pc + 3 = pc') (ht : (pc : Int) + off = (tgt : Int)) (kt : x = 0 → V G Y tgt ls st u c0 s0 Q QX) (kf : ¬ x = 0 → V G Y pc' ls st u c0 s0 Q QX) : V G Y pc ls (.int x :: st) u c0 s0 Q QX := by
  subst hp
  exact fun p e s m args below meth c C H locs arr hH hS hl hz => lv_if_eq (cxx C) (cxb C) (cxd C hd) ht (fun h => kt h p e s m args below meth c C H locs arr hH hS hl hz) (fun h => kf h p e s m args below meth c C H locs arr hH hS hl hz)
theorem v_icmp_eq (k : Nat) {x y : Int32} {off : Int} {tgt : Nat} (hd : (yP Y)[k]? = some (pc, .if_icmp .eq off, 3)) (hp : pc + 3 = pc') (ht : (pc : Int) + off = (tgt : Int)) (kt : x = y → V G Y tgt ls st u c0 s0 Q QX) (kf : ¬ x = y → V G Y pc' ls st u c0 s0 Q QX) : V G Y pc ls (.int y :: .int x :: st) u c0 s0 Q QX := by
  subst hp
  exact fun p e s m args below meth c C H locs arr hH hS hl hz => lv_icmp_eq (cxx C) (cxb C) (cxd C hd) ht (fun h => kt h p e s m args below meth c C H locs arr hH hS hl hz) (fun h => kf h p e s m args below meth c C H locs arr hH hS hl hz)
theorem v_if_ne (k : Nat) {x : Int32} {off : Int} {tgt : Nat} (hd : (yP Y)[k]? = some (pc, .ifCond .ne off, 3)) (hp : pc + 3 = pc') (ht : (pc : Int) + off = (tgt : Int)) (kt : ¬ x = 0 → V G Y tgt ls st u c0 s0 Q QX) (kf : x = 0 → V G Y pc' ls st u c0 s0 Q QX) : V G Y pc ls (.int x :: st) u c0 s0 Q QX := by
  subst hp
  exact fun p e s m args below meth c C H locs arr hH hS hl hz => lv_if_ne (cxx C) (cxb C) (cxd C hd) ht (fun h => kt h p e s m args below meth c C H locs arr hH hS hl hz) (fun h => kf h p e s m args below meth c C H locs arr hH hS hl hz)
theorem v_icmp_ne (k : Nat) {x y : Int32} {off : Int} {tgt : Nat} (hd : (yP Y)[k]? = some (pc, .if_icmp .ne off, 3)) (hp : pc + 3 = pc') (ht : (pc : Int) + off = (tgt : Int)) (kt : ¬ x = y → V G Y tgt ls st u c0 s0 Q QX) (kf : x = y → V G Y pc' ls st u c0 s0 Q QX) : V G Y pc ls (.int y :: .int x :: st) u c0 s0 Q QX := by
  subst hp
  exact fun p e s m args below meth c C H locs arr hH hS hl hz => lv_icmp_ne (cxx C) (cxb C) (cxd C hd) ht (fun h => kt h p e s m args below meth c C H locs arr hH hS hl hz) (fun h => kf h p e s m args below meth c C H locs arr hH hS hl hz)
theorem v_if_lt (k : Nat) {x : Int32} {off : Int} {tgt : Nat} (hd : (yP Y)[k]? = some (pc, .ifCond .lt off, 3)) (hp : pc + 3 = pc') (ht : (pc : Int) + off = (tgt : Int)) (kt : x < 0 → V G Y tgt ls st u c0 s0 Q QX) (kf : ¬ x < 0 → V G Y pc' ls st u c0 s0 Q QX) : V G Y pc ls (.int x :: st) u c0 s0 Q QX := by
  subst hp
  exact fun p e s m args below meth c C H locs arr hH hS hl hz => lv_if_lt (cxx C) (cxb C) (cxd C hd) ht (fun h => kt h p e s m args below meth c C H locs arr hH hS hl hz) (fun h => kf h p e s m args below meth c C H locs arr hH hS hl hz)
theorem v_icmp_lt (k : Nat) {x y : Int32} {off : Int} {tgt : Nat} (hd : (yP Y)[k]? = some (pc, .if_icmp .lt off, 3)) (hp : pc + 3 = pc') (ht : (pc : Int) + off = (tgt : Int)) (kt : x < y → V G Y tgt ls st u c0 s0 Q QX) (kf : ¬ x < y → V G Y pc' ls st u c0 s0 Q QX) : V G Y pc ls (.int y :: .int x :: st) u c0 s0 Q QX := by
  subst hp
  exact fun p e s m args below meth c C H locs arr hH hS hl hz => lv_icmp_lt (cxx C) (cxb C) (cxd C hd) ht (fun h => kt h p e s m args below meth c C H locs arr hH hS hl hz) (fun h => kf h p e s m args below meth c C H locs arr hH hS hl hz)
theorem v_if_ge (k : Nat) {x : Int32} {off : Int} {tgt : Nat} (hd : (yP Y)[k]? = some (pc, .ifCond .ge off, 3)) (hp : pc + 3 = pc') (ht : (pc : Int) + off = (tgt : Int)) (kt : 0 ≤ x → V G Y tgt ls st u c0 s0 Q QX) (kf : ¬ 0 ≤ x → V G Y pc' ls st u c0 s0 Q QX) : V G Y pc ls (.int x :: st) u c0 s0 Q QX := by
  subst hp
  exact fun p e s m args below meth c C H locs arr hH hS hl hz => lv_if_ge (cxx C) (cxb C) (cxd C hd) ht (fun h => kt h p e s m args below meth c C H locs arr hH hS hl hz) (fun h => kf h p e s m args below meth c C H locs arr hH hS hl hz)
theorem v_icmp_ge (k : Nat) {x y : Int32} {off : Int} {tgt : Nat} (hd : (yP Y)[k]? = some (pc, .if_icmp .ge off, 3)) (hp : pc + 3 = pc') (ht : (pc : Int) + off = (tgt : Int)) (kt : y ≤ x → V G Y tgt ls st u c0 s0 Q QX) (kf : ¬ y ≤ x → V G Y pc' ls st u c0 s0 Q QX) : V G Y pc ls (.int y :: .int x :: st) u c0 s0 Q QX := by
  subst hp
  exact fun p e s m args below meth c C H locs arr hH hS hl hz => lv_icmp_ge (cxx C) (cxb C) (cxd C hd) ht (fun h => kt h p e s m args below meth c C H locs arr hH hS hl hz) (fun h => kf h p e s m args below meth c C H locs arr hH hS hl hz)
theorem v_if_gt (k : Nat) {x : Int32} {off : Int} {tgt : Nat} (hd : (yP Y)[k]? = some (pc, .ifCond .gt off, 3)) (hp : pc + 3 = pc') (ht : (pc : Int) + off = (tgt : Int)) (kt : 0 < x → V G Y tgt ls st u c0 s0 Q QX) (kf : ¬ 0 < x → V G Y pc' ls st u c0 s0 Q QX) : V G Y pc ls (.int x :: st) u c0 s0 Q QX := by
  subst hp
  exact fun p e s m args below meth c C H locs arr hH hS hl hz => lv_if_gt (cxx C) (cxb C) (cxd C hd) ht (fun h => kt h p e s m args below meth c C H locs arr hH hS hl hz) (fun h => kf h p e s m args below meth c C H locs arr hH hS hl hz)
theorem v_icmp_gt (k : Nat) {x y : Int32} {off : Int} {tgt : Nat} (hd : (yP Y)[k]? = some (pc, .if_icmp .gt off, 3)) (hp : pc + 3 = pc') (ht : (pc : Int) + off = (tgt : Int)) (kt : y < x → V G Y tgt ls st u c0 s0 Q QX) (kf : ¬ y < x → V G Y pc' ls st u c0 s0 Q QX) : V G Y pc ls (.int y :: .int x :: st) u c0 s0 Q QX := by
  subst hp
  exact fun p e s m args below meth c C H locs arr hH hS hl hz => lv_icmp_gt (cxx C) (cxb C) (cxd C hd) ht (fun h => kt h p e s m args below meth c C H locs arr hH hS hl hz) (fun h => kf h p e s m args below meth c C H locs arr hH hS hl hz)
theorem v_if_le (k : Nat) {x : Int32} {off : Int} {tgt : Nat} (hd : (yP Y)[k]? = some (pc, .ifCond .le off, 3)) (hp : pc + 3 = pc') (ht : (pc : Int) + off = (tgt : Int)) (kt : x ≤ 0 → V G Y tgt ls st u c0 s0 Q QX) (kf : ¬ x ≤ 0 → V G Y pc' ls st u c0 s0 Q QX) : V G Y pc ls (.int x :: st) u c0 s0 Q QX := by
  subst hp
  exact fun p e s m args below meth c C H locs arr hH hS hl hz => lv_if_le (cxx C) (cxb C) (cxd C hd) ht (fun h => kt h p e s m args below meth c C H locs arr hH hS hl hz) (fun h => kf h p e s m args below meth c C H locs arr hH hS hl hz)
theorem v_icmp_le (k : Nat) {x y : Int32} {off : Int} {tgt : Nat} (hd : (yP Y)[k]? = some (pc, .if_icmp .le off, 3)) (hp : pc + 3 = pc') (ht : (pc : Int) + off = (tgt : Int)) (kt : x ≤ y → V G Y tgt ls st u c0 s0 Q QX) (kf : ¬ x ≤ y → V G Y pc' ls st u c0 s0 Q QX) : V G Y pc ls (.int y :: .int x :: st) u c0 s0 Q QX := by
  subst hp
  exact fun p e s m args below meth c C H locs arr hH hS hl hz => lv_icmp_le (cxx C) (cxb C) (cxd C hd) ht (fun h => kt h p e s m args below meth c C H locs arr hH hS hl hz) (fun h => kf h p e s m args below meth c C H locs arr hH hS hl hz)
theorem v_goto (k : Nat) {off : Int} {tgt : Nat} (hd : (yP Y)[k]? = some (pc, .goto off, 3)) (ht : (pc : Int) + off = (tgt : Int)) (kk : V G Y tgt ls st u c0 s0 Q QX) : V G Y pc ls st u c0 s0 Q QX :=
  fun p e s m args below meth c C H locs arr hH hS hl hz => lv_goto (cxx C) (cxb C) (cxd C hd) ht (kk p e s m args below meth c C H locs arr hH hS hl hz)
theorem v_tsOut (k : Nat) {dflt lo hi : Int} {offs : Array Int} {len : Nat} {x : Int32} {tgt : Nat} (hd : (yP Y)[k]? = some (pc, .tableswitch dflt lo hi offs, len)) (h : x.toInt < lo ∨ hi < x.toInt) (ht : (pc : Int) + dflt = (tgt : Int)) (kk : V G Y tgt ls st u c0 s0 Q QX) : V G Y pc ls (.int x :: st) u c0 s0 Q QX :=
  fun p e s m args below meth c C H locs arr hH hS hl hz => lv_tableOut (cxx C) (cxb C) (cxd C hd) h ht (kk p e s m args below meth c C H locs arr hH hS hl hz)
theorem v_tsIn (k : Nat) {dflt lo hi : Int} {offs : Array Int} {len : Nat} {x : Int32} {off : Int} {tgt : Nat} (hd : (yP Y)[k]? = some (pc, .tableswitch dflt lo hi offs, len)) (h1 : ¬ x.toInt < lo) (h2 : ¬ hi < x.toInt) (ho : offs[(x.toInt - lo).toNat]? = some off) (ht : (pc : Int) + off = (tgt : Int)) (kk : V G Y tgt ls st u c0 s0 Q QX) : V G Y pc ls (.int x :: st) u c0 s0 Q QX :=
  fun p e s m args below meth c C H locs arr hH hS hl hz => lv_tableIn (cxx C) (cxb C) (cxd C hd) h1 h2 ho ht (kk p e s m args below meth c C H locs arr hH hS hl hz)
theorem lgc_eq {x y : Int64} : lg_cmp x y = 0 ↔ x = y := by
  unfold lg_cmp
  by_cases h1 : x > y
  · rw [if_pos h1]
    exact ⟨fun q => absurd q (by decide), fun q => absurd (q ▸ h1 : x > x) Int64.lt_irrefl⟩
  · rw [if_neg h1]
    by_cases h2 : x = y
    · rw [if_pos h2]; exact ⟨fun _ => h2, fun _ => rfl⟩
    · rw [if_neg h2]; exact ⟨fun q => absurd q (by decide), fun q => absurd q h2⟩
theorem lgc_lt {x y : Int64} : lg_cmp x y < 0 ↔ x < y := by
  unfold lg_cmp
  by_cases h1 : x > y
  · rw [if_pos h1]
    exact ⟨fun q => absurd q (by decide), fun q => absurd (Int64.lt_trans q h1) Int64.lt_irrefl⟩
  · rw [if_neg h1]
    by_cases h2 : x = y
    · rw [if_pos h2]; subst h2; exact ⟨fun q => absurd q (by decide), fun q => absurd q Int64.lt_irrefl⟩
    · rw [if_neg h2]
      refine ⟨fun _ => ?_, fun _ => by decide⟩
      exact Int64.lt_of_le_of_ne (Int64.not_lt.mp h1) h2
theorem lgc_gt {x y : Int64} : 0 < lg_cmp x y ↔ y < x := by
  unfold lg_cmp
  by_cases h1 : x > y
  · rw [if_pos h1]
    exact ⟨fun _ => h1, fun _ => by decide⟩
  · rw [if_neg h1]
    by_cases h2 : x = y
    · rw [if_pos h2]; exact ⟨fun q => absurd q (by decide), fun q => absurd q h1⟩
    · rw [if_neg h2]; exact ⟨fun q => absurd q (by decide), fun q => absurd q h1⟩
theorem lgc_ge {x y : Int64} : 0 ≤ lg_cmp x y ↔ y ≤ x := by
  rw [← Int32.not_lt, ← Int64.not_lt, lgc_lt]
theorem lgc_le {x y : Int64} : lg_cmp x y ≤ 0 ↔ x ≤ y := by
  rw [← Int32.not_lt, ← Int64.not_lt, lgc_gt]
theorem v_lc_eq (k k2 : Nat) {x y : Int64} {off : Int} {tgt : Nat} (hd : (yP Y)[k]? = some (pc, .lcmp, 1)) (hd2 : (yP Y)[k2]? = some (pc + 1, .ifCond .eq off, 3)) (hp : pc + 1 + 3 = pc') (ht : ((pc + 1 : Nat) : Int) + off = (tgt : Int)) (kt : x = y → V G Y tgt ls st u c0 s0 Q QX) (kf : ¬ x = y → V G Y pc' ls st u c0 s0 Q QX) : V G Y pc ls (.long y :: .long x :: st) u c0 s0 Q QX :=
  v_lcmp k hd rfl (v_if_eq k2 hd2 hp ht (fun h => kt (lgc_eq.mp h)) (fun h => kf (fun q => h (lgc_eq.mpr q))))
theorem v_lc_ne (k k2 : Nat) {x y : Int64} {off : Int} {tgt : Nat} (hd : (yP Y)[k]? = some (pc, .lcmp, 1)) (hd2 : (yP Y)[k2]? = some (pc + 1, .ifCond .ne off, 3)) (hp : pc + 1 + 3 = pc') (ht : ((pc + 1 : Nat) : Int) + off = (tgt : Int)) (kt : ¬ x = y → V G Y tgt ls st u c0 s0 Q QX) (kf : x = y → V G Y pc' ls st u c0 s0 Q QX) : V G Y pc ls (.long y :: .long x :: st) u c0 s0 Q QX :=
  v_lcmp k hd rfl (v_if_ne k2 hd2 hp ht (fun h => kt (fun q => h (lgc_eq.mpr q))) (fun h => kf (lgc_eq.mp h)))
theorem v_lc_lt (k k2 : Nat) {x y : Int64} {off : Int} {tgt : Nat} (hd : (yP Y)[k]? = some (pc, .lcmp, 1)) (hd2 : (yP Y)[k2]? = some (pc + 1, .ifCond .lt off, 3)) (hp : pc + 1 + 3 = pc') (ht : ((pc + 1 : Nat) : Int) + off = (tgt : Int)) (kt : x < y → V G Y tgt ls st u c0 s0 Q QX) (kf : ¬ x < y → V G Y pc' ls st u c0 s0 Q QX) : V G Y pc ls (.long y :: .long x :: st) u c0 s0 Q QX :=
  v_lcmp k hd rfl (v_if_lt k2 hd2 hp ht (fun h => kt (lgc_lt.mp h)) (fun h => kf (fun q => h (lgc_lt.mpr q))))
theorem v_lc_ge (k k2 : Nat) {x y : Int64} {off : Int} {tgt : Nat} (hd : (yP Y)[k]? = some (pc, .lcmp, 1)) (hd2 : (yP Y)[k2]? = some (pc + 1, .ifCond .ge off, 3)) (hp : pc + 1 + 3 = pc') (ht : ((pc + 1 : Nat) : Int) + off = (tgt : Int)) (kt : y ≤ x → V G Y tgt ls st u c0 s0 Q QX) (kf : ¬ y ≤ x → V G Y pc' ls st u c0 s0 Q QX) : V G Y pc ls (.long y :: .long x :: st) u c0 s0 Q QX :=
  v_lcmp k hd rfl (v_if_ge k2 hd2 hp ht (fun h => kt (lgc_ge.mp h)) (fun h => kf (fun q => h (lgc_ge.mpr q))))
theorem v_lc_gt (k k2 : Nat) {x y : Int64} {off : Int} {tgt : Nat} (hd : (yP Y)[k]? = some (pc, .lcmp, 1)) (hd2 : (yP Y)[k2]? = some (pc + 1, .ifCond .gt off, 3)) (hp : pc + 1 + 3 = pc') (ht : ((pc + 1 : Nat) : Int) + off = (tgt : Int)) (kt : y < x → V G Y tgt ls st u c0 s0 Q QX) (kf : ¬ y < x → V G Y pc' ls st u c0 s0 Q QX) : V G Y pc ls (.long y :: .long x :: st) u c0 s0 Q QX :=
  v_lcmp k hd rfl (v_if_gt k2 hd2 hp ht (fun h => kt (lgc_gt.mp h)) (fun h => kf (fun q => h (lgc_gt.mpr q))))
theorem v_lc_le (k k2 : Nat) {x y : Int64} {off : Int} {tgt : Nat} (hd : (yP Y)[k]? = some (pc, .lcmp, 1)) (hd2 : (yP Y)[k2]? = some (pc + 1, .ifCond .le off, 3)) (hp : pc + 1 + 3 = pc') (ht : ((pc + 1 : Nat) : Int) + off = (tgt : Int)) (kt : x ≤ y → V G Y tgt ls st u c0 s0 Q QX) (kf : ¬ x ≤ y → V G Y pc' ls st u c0 s0 Q QX) : V G Y pc ls (.long y :: .long x :: st) u c0 s0 Q QX :=
  v_lcmp k hd rfl (v_if_le k2 hd2 hp ht (fun h => kt (lgc_le.mp h)) (fun h => kf (fun q => h (lgc_le.mpr q))))
end VR

section VR2
variable {G : GT} {Y : MT} {pc pc' : Nat} {ls ls' : List (Nat × Value)} {st : List Value} {u : MU} {c0 s0 : Nat} {Q : Option Value → MU → Prop} {QX : String → MU → Prop}
def remI (x y : Int32) : Int32 := x - x / y * y
theorem v_idiv (k : Nat) {x y : Int32} (hd : (yP Y)[k]? = some (pc, .idiv, 1)) (hp : pc + 1 = pc') (hne : ¬ y = 0) (kk : V G Y pc' ls (.int (x / y) :: st) u c0 s0 Q QX) : V G Y pc ls (.int y :: .int x :: st) u c0 s0 Q QX := by
  subst hp
  exact fun p e s m args below meth c C H locs arr hH hS hl hz => lv_idiv (cxx C) (cxb C) (cxd C hd) hne (kk p e s m args below meth c C H locs arr hH hS hl hz)
theorem v_irem (k : Nat) {x y : Int32} (hd : (yP Y)[k]? = some (pc, .irem, 1)) (hp : pc + 1 = pc') (hne : ¬ y = 0) (kk : V G Y pc' ls (.int (remI x y) :: st) u c0 s0 Q QX) : V G Y pc ls (.int y :: .int x :: st) u c0 s0 Q QX := by
  subst hp
  exact fun p e s m args below meth c C H locs arr hH hS hl hz => lv_irem (cxx C) (cxb C) (cxd C hd) hne (kk p e s m args below meth c C H locs arr hH hS hl hz)
theorem v_ineg (k : Nat) {x : Int32} (hd : (yP Y)[k]? = some (pc, .ineg, 1)) (hp : pc + 1 = pc') (kk : V G Y pc' ls (.int (-x) :: st) u c0 s0 Q QX) : V G Y pc ls (.int x :: st) u c0 s0 Q QX := by
  subst hp
  exact fun p e s m args below meth c C H locs arr hH hS hl hz => lv_ineg (cxx C) (cxb C) (cxd C hd) (kk p e s m args below meth c C H locs arr hH hS hl hz)
end VR2

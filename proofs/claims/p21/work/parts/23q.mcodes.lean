theorem mc_top {s s1 s2 : Nat → Int32} {p1 p2 : Int32} (e1 : upd s (0 : Int32).toNatClampNeg p1 = s1) (e2 : upd s1 (1 : Int32).toNatClampNeg p2 = s2) : mTop s2 / s2 0 = ((1 <<< (p2 &&& 31)) - 1) / p1 := by
  subst e1
  subst e2
  rfl

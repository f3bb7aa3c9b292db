theorem TH.rcv1 {s : State} {H : Heap} {K : Cx} {G : Nat → Nat} {w : va_W} {a : Nat} (hT : TH K G w) (ha : G a = 1) (hK : va_K K.1 vwCl (tyL K) s) (hP : va_P K.1 vwCl w H) : rcv s H RX0 a := by
  obtain ⟨k, q, hk, -⟩ := hT.k1 ha
  exact va_recv hK hP (ci := 0) (q0 := k) rfl hk
theorem TH.rcv2 {s : State} {H : Heap} {K : Cx} {G : Nat → Nat} {w : va_W} {a : Nat} (hT : TH K G w) (ha : G a = 2) (hK : va_K K.1 vwCl (tyL K) s) (hP : va_P K.1 vwCl w H) : rcv s H RX1 a := by
  obtain ⟨k, q, r, hk, -⟩ := hT.k2 ha
  exact va_recv hK hP (ci := 1) (q0 := k) rfl hk
theorem TH.rcv3 {s : State} {H : Heap} {K : Cx} {G : Nat → Nat} {w : va_W} {a : Nat} (hT : TH K G w) (ha : G a = 3) (hK : va_K K.1 vwCl (tyL K) s) (hP : va_P K.1 vwCl w H) : rcv s H RX2 a := by
  obtain ⟨k, x, y, q, r, hk, -⟩ := hT.k3 ha
  exact va_recv hK hP (ci := 2) (q0 := k) rfl hk
theorem TH.rcv4 {s : State} {H : Heap} {K : Cx} {G : Nat → Nat} {w : va_W} {a : Nat} (hT : TH K G w) (ha : G a = 4) (hK : va_K K.1 vwCl (tyL K) s) (hP : va_P K.1 vwCl w H) : rcv s H RX3 a := by
  obtain ⟨k, q, x, y, hk, -⟩ := hT.k4 ha
  exact va_recv hK hP (ci := 3) (q0 := k) rfl hk
theorem TH.rcv5 {s : State} {H : Heap} {K : Cx} {G : Nat → Nat} {w : va_W} {a : Nat} (hT : TH K G w) (ha : G a = 5) (hK : va_K K.1 vwCl (tyL K) s) (hP : va_P K.1 vwCl w H) : rcv s H RX4 a := by
  obtain ⟨k, q, r, t, x, hk, -⟩ := hT.k5 ha
  exact va_recv hK hP (ci := 4) (q0 := k) rfl hk
theorem TH.rcv6 {s : State} {H : Heap} {K : Cx} {G : Nat → Nat} {w : va_W} {a : Nat} (hT : TH K G w) (ha : G a = 6) (hK : va_K K.1 vwCl (tyL K) s) (hP : va_P K.1 vwCl w H) : rcv s H RX5 a := by
  obtain ⟨k, q, r, t, u, v, hk, -⟩ := hT.k6 ha
  exact va_recv hK hP (ci := 5) (q0 := k) rfl hk
section TPUT
variable {p : Program} {l : Launch} {e : Env} {R : Room} {s : State} {m : MethodId} {args : Array Value} {below : List Frame} {meth : Method} {c : Code} {H H0 : Heap} {locs : List Loc} {cells slots : Nat} {Q : State → Prop}
variable {cc : ByteArray} {pc : Nat} {ls : Array Slot} {rest : List Value} {A : Nat → Prop} {a : Nat} {K : Cx} {G : Nat → Nat} {w : va_W}
theorem t_put (hexec : p.tables.exec = Jvm.exec) (hb : c.code = cc) {own ref C : String} {T : u_T} {N ci index : Nat} {Ts : List Cond} (hts : ∀ w ∈ Ts, w.before args s = true) (hin : ∀ w ∈ u_ws C T N, w ∈ Ts) (ty0 : Nat → FieldType) (hty : ∀ k, k < N → parseFieldDescriptor (T k).2.2.1 = some (ty0 k)) (hnm : ∀ a, a < N → ∀ b, b < N → a ≠ b → (T a).2.1 ≠ (T b).2.1) (hown : s.vm.findClass own = some m.cls) (hK : va_K K.1 vwCl (tyL K) s) (hP : va_P K.1 vwCl w H) (hD : va_D A w) (hS : va_S A H0 H locs) (hT : TH K G w) (q0 : Nat) {fs : List Value} (he : w[q0]? = some (a, .inr (ci, fs))) (hc : vwCl[ci]? = some (C, T, N)) (k : Nat) (hk : k < N) (hlink : (Cond.fieldLink own index ref (T k).2.1 (T k).2.2.1).before args s = true) (hsame : ∀ x, s.fieldFound? (T k).1 (T k).2.1 (T k).2.2.1 = some x → s.fieldFound? ref (T k).2.1 (T k).2.2.1 = some x) (hfin : (T k).2.2.2 = false) {ty : FieldType} {v : Value} (hd : parseFieldDescriptor (T k).2.2.1 = some ty) (hn : narrow ty v = v) (hfit : fits ty v = true) (hl : k < fs.length) (ho : okE K G (G a) (.inr (ci, fs.set k v)))
    (hdg : decode cc pc = .ok (.putfield index, 3)) (kk : ∀ (w1 : va_W) (H1 : Heap) (locs1 : List Loc), TH K G w1 → va_P K.1 vwCl w1 H1 → va_D A w1 → va_S A H0 H1 locs1 → w1[q0]? = some (a, .inr (ci, fs.set k v)) → (∀ (j b : Nat) (o : Nat × List Value), b ≠ a → w[j]? = some (b, .inr o) → w1[j]? = some (b, .inr o)) → W p l e R s m args below meth c H1 locs1 cells slots Q (F0 m (pc + 3) ls rest)) : W p l e R s m args below meth c H locs cells slots Q (F0 m pc ls (v :: .ref a :: rest)) :=
  va_put hexec hb hts hin ty0 hty hnm hown hK hP hD hS q0 he hc k hk hlink hsame hfin hd hn hfit hl hdg (fun H1 locs1 h1 h2 h3 => kk _ H1 locs1 (hT.set he (fun _ => ho)) h1 h2 h3 (tw_set he) (fun j b o hb hj => tw_setne hj (fun q => by subst q; rw [he] at hj; cases hj; exact hb rfl)))
theorem t_putN (hexec : p.tables.exec = Jvm.exec) (hb : c.code = cc) {own ref C host : String} {T : u_T} {N ci index : Nat} {Ts : List Cond} (hts : ∀ w ∈ Ts, w.before args s = true) (hin : ∀ w ∈ u_ws C T N, w ∈ Ts) (ty0 : Nat → FieldType) (hty : ∀ k, k < N → parseFieldDescriptor (T k).2.2.1 = some (ty0 k)) (hnm : ∀ a, a < N → ∀ b, b < N → a ≠ b → (T a).2.1 ≠ (T b).2.1) (hown : s.vm.findClass own = some m.cls) (hK : va_K K.1 vwCl (tyL K) s) (hP : va_P K.1 vwCl w H) (hD : va_D A w) (hS : va_S A H0 H locs) (hT : TH K G w) (q0 : Nat) {fs : List Value} (he : w[q0]? = some (a, .inr (ci, fs))) (hc : vwCl[ci]? = some (C, T, N)) (k : Nat) (hk : k < N) (hlink : (Cond.fieldLinkNest own index ref (T k).2.1 (T k).2.2.1 host).before args s = true) (hsame : ∀ x, s.fieldFound? (T k).1 (T k).2.1 (T k).2.2.1 = some x → s.fieldFound? ref (T k).2.1 (T k).2.2.1 = some x) (hfin : (T k).2.2.2 = false) {ty : FieldType} {v : Value} (hd : parseFieldDescriptor (T k).2.2.1 = some ty) (hn : narrow ty v = v) (hfit : fits ty v = true) (hl : k < fs.length) (ho : okE K G (G a) (.inr (ci, fs.set k v)))
    (hdg : decode cc pc = .ok (.putfield index, 3)) (kk : ∀ (w1 : va_W) (H1 : Heap) (locs1 : List Loc), TH K G w1 → va_P K.1 vwCl w1 H1 → va_D A w1 → va_S A H0 H1 locs1 → w1[q0]? = some (a, .inr (ci, fs.set k v)) → (∀ (j b : Nat) (o : Nat × List Value), b ≠ a → w[j]? = some (b, .inr o) → w1[j]? = some (b, .inr o)) → W p l e R s m args below meth c H1 locs1 cells slots Q (F0 m (pc + 3) ls rest)) : W p l e R s m args below meth c H locs cells slots Q (F0 m pc ls (v :: .ref a :: rest)) :=
  va_putN hexec hb hts hin ty0 hty hnm hown hK hP hD hS q0 he hc k hk hlink hsame hfin hd hn hfit hl hdg (fun H1 locs1 h1 h2 h3 => kk _ H1 locs1 (hT.set he (fun _ => ho)) h1 h2 h3 (tw_set he) (fun j b o hb hj => tw_setne hj (fun q => by subst q; rw [he] at hj; cases hj; exact hb rfl)))
theorem t_put5 (hexec : p.tables.exec = Jvm.exec) (hb : c.code = cc) {own ref C : String} {T : u_T} {N ci index : Nat} {Ts : List Cond} (hts : ∀ w ∈ Ts, w.before args s = true) (hin : ∀ w ∈ u_ws C T N, w ∈ Ts) (ty0 : Nat → FieldType) (hty : ∀ k, k < N → parseFieldDescriptor (T k).2.2.1 = some (ty0 k)) (hnm : ∀ a, a < N → ∀ b, b < N → a ≠ b → (T a).2.1 ≠ (T b).2.1) (hown : s.vm.findClass own = some m.cls) (hK : va_K K.1 vwCl (tyL K) s) (hP : va_P K.1 vwCl w H) (hD : va_D A w) (hS : va_S A H0 H locs) (hT : TH K G w) (q0 : Nat) {fs : List Value} (he : w[q0]? = some (a, .inr (ci, fs))) (hc : vwCl[ci]? = some (C, T, N)) (k : Nat) (hk : k < N) (hlink : (Cond.fieldLink own index ref (T k).2.1 (T k).2.2.1).before args s = true) (hsame : ∀ x, s.fieldFound? (T k).1 (T k).2.1 (T k).2.2.1 = some x → s.fieldFound? ref (T k).2.1 (T k).2.2.1 = some x) (hfin : (T k).2.2.2 = false) {ty : FieldType} {v : Value} (hd : parseFieldDescriptor (T k).2.2.1 = some ty) (hn : narrow ty v = v) (hfit : fits ty v = true) (hl : k < fs.length) {n : SN} (ha : G a = 5) (hnn : okN (snK K) → okN n) (h8 : n.2.1 = (snK K).2.1) (h13 : n.2.2 = (snK K).2.2) (ho : okE (Kw K n) G 5 (.inr (ci, fs.set k v)))
    (hdg : decode cc pc = .ok (.putfield index, 3)) (kk : ∀ (w1 : va_W) (H1 : Heap) (locs1 : List Loc), TH (Kw K n) G w1 → va_P K.1 vwCl w1 H1 → va_D A w1 → va_S A H0 H1 locs1 → w1[q0]? = some (a, .inr (ci, fs.set k v)) → (∀ (j b : Nat) (o : Nat × List Value), b ≠ a → w[j]? = some (b, .inr o) → w1[j]? = some (b, .inr o)) → W p l e R s m args below meth c H1 locs1 cells slots Q (F0 m (pc + 3) ls rest)) : W p l e R s m args below meth c H locs cells slots Q (F0 m pc ls (v :: .ref a :: rest)) :=
  va_put hexec hb hts hin ty0 hty hnm hown hK hP hD hS q0 he hc k hk hlink hsame hfin hd hn hfit hl hdg (fun H1 locs1 h1 h2 h3 => kk _ H1 locs1 (hT.wr ha (Or.inl rfl) he hnn (fun q => absurd rfl q) (fun _ => h8) (fun _ => h13) ho) h1 h2 h3 (tw_set he) (fun j b o hb hj => tw_setne hj (fun q => by subst q; rw [he] at hj; cases hj; exact hb rfl)))
theorem t_putN5 (hexec : p.tables.exec = Jvm.exec) (hb : c.code = cc) {own ref C host : String} {T : u_T} {N ci index : Nat} {Ts : List Cond} (hts : ∀ w ∈ Ts, w.before args s = true) (hin : ∀ w ∈ u_ws C T N, w ∈ Ts) (ty0 : Nat → FieldType) (hty : ∀ k, k < N → parseFieldDescriptor (T k).2.2.1 = some (ty0 k)) (hnm : ∀ a, a < N → ∀ b, b < N → a ≠ b → (T a).2.1 ≠ (T b).2.1) (hown : s.vm.findClass own = some m.cls) (hK : va_K K.1 vwCl (tyL K) s) (hP : va_P K.1 vwCl w H) (hD : va_D A w) (hS : va_S A H0 H locs) (hT : TH K G w) (q0 : Nat) {fs : List Value} (he : w[q0]? = some (a, .inr (ci, fs))) (hc : vwCl[ci]? = some (C, T, N)) (k : Nat) (hk : k < N) (hlink : (Cond.fieldLinkNest own index ref (T k).2.1 (T k).2.2.1 host).before args s = true) (hsame : ∀ x, s.fieldFound? (T k).1 (T k).2.1 (T k).2.2.1 = some x → s.fieldFound? ref (T k).2.1 (T k).2.2.1 = some x) (hfin : (T k).2.2.2 = false) {ty : FieldType} {v : Value} (hd : parseFieldDescriptor (T k).2.2.1 = some ty) (hn : narrow ty v = v) (hfit : fits ty v = true) (hl : k < fs.length) {n : SN} (ha : G a = 5) (hnn : okN (snK K) → okN n) (h8 : n.2.1 = (snK K).2.1) (h13 : n.2.2 = (snK K).2.2) (ho : okE (Kw K n) G 5 (.inr (ci, fs.set k v)))
    (hdg : decode cc pc = .ok (.putfield index, 3)) (kk : ∀ (w1 : va_W) (H1 : Heap) (locs1 : List Loc), TH (Kw K n) G w1 → va_P K.1 vwCl w1 H1 → va_D A w1 → va_S A H0 H1 locs1 → w1[q0]? = some (a, .inr (ci, fs.set k v)) → (∀ (j b : Nat) (o : Nat × List Value), b ≠ a → w[j]? = some (b, .inr o) → w1[j]? = some (b, .inr o)) → W p l e R s m args below meth c H1 locs1 cells slots Q (F0 m (pc + 3) ls rest)) : W p l e R s m args below meth c H locs cells slots Q (F0 m pc ls (v :: .ref a :: rest)) :=
  va_putN hexec hb hts hin ty0 hty hnm hown hK hP hD hS q0 he hc k hk hlink hsame hfin hd hn hfit hl hdg (fun H1 locs1 h1 h2 h3 => kk _ H1 locs1 (hT.wr ha (Or.inl rfl) he hnn (fun q => absurd rfl q) (fun _ => h8) (fun _ => h13) ho) h1 h2 h3 (tw_set he) (fun j b o hb hj => tw_setne hj (fun q => by subst q; rw [he] at hj; cases hj; exact hb rfl)))
end TPUT
/-! numbers -/
theorem iq_lt {x y : Int32} : x < y ↔ x.toInt < y.toInt := Int32.lt_iff_toInt_lt
theorem iq_le {x y : Int32} : x ≤ y ↔ x.toInt ≤ y.toInt := Int32.le_iff_toInt_le
theorem iq_lo (x : Int32) : -2147483648 ≤ x.toInt := Int32.le_toInt x
theorem iq_hi (x : Int32) : x.toInt < 2147483648 := Int32.toInt_lt x
theorem iq_eq {x y : Int32} : x = y ↔ x.toInt = y.toInt := ⟨fun h => by rw [h], fun h => Int32.toInt_inj.mp h⟩
theorem iq_add {x y : Int32} (h1 : -2147483648 ≤ x.toInt + y.toInt) (h2 : x.toInt + y.toInt < 2147483648) : (x + y).toInt = x.toInt + y.toInt := by
  rw [Int32.toInt_add]
  exact Int.bmod_eq_of_le (by omega) (by omega)
theorem iq_sub {x y : Int32} (h1 : -2147483648 ≤ x.toInt - y.toInt) (h2 : x.toInt - y.toInt < 2147483648) : (x - y).toInt = x.toInt - y.toInt := by
  rw [Int32.toInt_sub]
  exact Int.bmod_eq_of_le (by omega) (by omega)
theorem iq_add1 {x v : Int32} (hv : v = x + 1) (h : x.toInt < 2147483647) : v.toInt = x.toInt + 1 := by
  have := iq_lo x
  rw [hv, iq_add (by show _ ≤ x.toInt + 1; omega) (by show x.toInt + 1 < _; omega)]
  rfl
theorem iq_add2 {x v : Int32} (hv : v = x + 2) (h : x.toInt < 2147483646) : v.toInt = x.toInt + 2 := by
  have := iq_lo x
  rw [hv, iq_add (by show _ ≤ x.toInt + 2; omega) (by show x.toInt + 2 < _; omega)]
  rfl
/-- a loop that counts upwards ends -/
theorem iq_up {x v b : Int32} {n : Nat} (hm : (2147483647 - x.toInt).toNat < n + 1) (hc : ¬ b ≤ x) (hv : v = x + 1) : (2147483647 - v.toInt).toNat < n := by
  have h1 := iq_hi b
  rw [iq_le] at hc
  have := iq_add1 hv (by omega)
  omega
theorem iq_in {x : Int32} {n : Nat} (h0 : 0 ≤ x.toInt) (h1 : x.toInt < n) : vp_in x n := vp_in_iff.mpr ⟨h0, h1⟩
theorem iq_z01 {v : Int32} (h : v = 0 ∨ v = 1) : narrow .boolean (.int v) = .int v := by rcases h with rfl | rfl <;> rfl
theorem iq_rem (x y : Int32) : (x - x / y * y).toInt = x.toInt.tmod y.toInt := by
  rw [Int32.toInt_sub, Int32.toInt_mul, Int32.toInt_div, Int.bmod_mul_bmod, Int.sub_bmod_bmod]
  have h : x.toInt - x.toInt.tdiv y.toInt * y.toInt = x.toInt.tmod y.toInt := by rw [Int.tmod_def, Int.mul_comm]
  rw [h, ← Int32.toInt_mod]
  have h1 := iq_lo (x % y)
  have h2 := iq_hi (x % y)
  exact Int.bmod_eq_of_le (by omega) (by omega)
theorem iq_msb (z : Int32) : z < 0 ↔ z.toBitVec.msb = true := by
  show z.toBitVec.slt 0#32 = true ↔ _
  exact BitVec.slt_zero_iff_msb_cond
theorem iq_xneg {x y : Int32} (hy : 0 < y.toInt) : x ^^^ y < 0 ↔ x < 0 := by
  have h : ¬ y < 0 := by rw [iq_lt]; show ¬ y.toInt < 0; omega
  rw [iq_msb] at h ⊢
  rw [iq_msb, Int32.toBitVec_xor, BitVec.msb_xor]
  cases x.toBitVec.msb <;> cases hm : y.toBitVec.msb <;> simp_all
theorem iq_fm {x y md r : Int32} (hy : 0 < y.toInt) (hmd : md.toInt = x.toInt.tmod y.toInt) (h : (0 ≤ x.toInt ∧ r = md) ∨ (x.toInt < 0 ∧ md.toInt = 0 ∧ r = md) ∨ (x.toInt < 0 ∧ md.toInt ≠ 0 ∧ r = md + y)) : r.toInt = x.toInt % y.toInt := by
  have e1 := Int.emod_nonneg x.toInt (show y.toInt ≠ 0 by omega)
  have e2 := Int.emod_lt_of_pos x.toInt hy
  have t : x.toInt.tmod y.toInt = if 0 ≤ x.toInt ∨ x.toInt % y.toInt = 0 then x.toInt % y.toInt else x.toInt % y.toInt - y.toInt := by
    rw [Int.tmod_eq_emod]
    by_cases hq : 0 ≤ x.toInt ∨ y.toInt ∣ x.toInt
    · rw [if_pos hq, if_pos (hq.imp id Int.emod_eq_zero_of_dvd)]; omega
    · rw [if_neg hq, if_neg (fun h => hq (h.imp id Int.dvd_of_emod_eq_zero))]; omega
  rw [t] at hmd
  have hb := iq_hi y
  rcases h with ⟨h0, rfl⟩ | ⟨h0, h1, rfl⟩ | ⟨h0, h1, rfl⟩
  · rw [hmd, if_pos (Or.inl h0)]
  · by_cases hz : x.toInt % y.toInt = 0
    · omega
    · rw [if_neg (by omega)] at hmd; omega
  · by_cases hz : x.toInt % y.toInt = 0
    · rw [if_pos (Or.inr hz)] at hmd; omega
    · rw [if_neg (by omega)] at hmd
      rw [iq_add (by omega) (by omega)]; omega
theorem iq_width {x : Int32} (h1 : 4 ≤ x.toInt) (h2 : x.toInt ≤ 16) : x = 4 ∨ x = 5 ∨ x = 6 ∨ x = 7 ∨ x = 8 ∨ x = 9 ∨ x = 10 ∨ x = 11 ∨ x = 12 ∨ x = 13 ∨ x = 14 ∨ x = 15 ∨ x = 16 := by
  simp only [iq_eq]
  show x.toInt = 4 ∨ x.toInt = 5 ∨ x.toInt = 6 ∨ x.toInt = 7 ∨ x.toInt = 8 ∨ x.toInt = 9 ∨ x.toInt = 10 ∨ x.toInt = 11 ∨ x.toInt = 12 ∨ x.toInt = 13 ∨ x.toInt = 14 ∨ x.toInt = 15 ∨ x.toInt = 16
  omega
theorem iq_end {x : Int32} (h1 : 4 ≤ x.toInt) (h2 : x.toInt ≤ 16) : ((1 : Int32) <<< (x &&& 31)).toInt ≤ 65536 ∧ 16 ≤ ((1 : Int32) <<< (x &&& 31)).toInt := by
  rcases iq_width h1 h2 with rfl | rfl | rfl | rfl | rfl | rfl | rfl | rfl | rfl | rfl | rfl | rfl | rfl <;> decide
theorem iq_mul2 {x v : Int32} (h1 : 0 ≤ x.toInt) (h2 : x.toInt ≤ 1000000) (hv : v = 2 * x) : v.toInt = 2 * x.toInt := by
  rw [hv, Int32.toInt_mul]
  show ((2 : Int) * x.toInt).bmod (2 ^ 32) = _
  exact Int.bmod_eq_of_le (by omega) (by omega)
theorem iq_upl {x v b : Int32} {n : Nat} (hm : (2147483647 - x.toInt).toNat < n + 1) (hc : ¬ b < x) (hb : b.toInt ≤ 1000000) (hv : v = x + 1) : (2147483647 - v.toInt).toNat < n := by
  rw [iq_lt] at hc
  have := iq_add1 hv (by omega)
  omega
theorem iq_upl2 {x v b : Int32} {n : Nat} (hm : (2147483647 - x.toInt).toNat < n + 1) (hc : ¬ b < x) (hb : b.toInt ≤ 1000000) (hv : v = x + 2) : (2147483647 - v.toInt).toNat < n := by
  rw [iq_lt] at hc
  have := iq_add2 hv (by omega)
  omega
theorem iq_nn1 {x v b : Int32} (h : 0 ≤ x.toInt) (hc : ¬ b ≤ x) (hv : v = x + 1) : 0 ≤ v.toInt := by
  have h1 := iq_hi b
  rw [iq_le] at hc
  have := iq_add1 hv (by omega)
  omega
theorem iq_inr {x b : Int32} {n : Nat} (h0 : 0 ≤ x.toInt) (hc : ¬ b ≤ x) (hb : b.toInt ≤ n) : vp_in x n := iq_in h0 (by rw [iq_le] at hc; omega)
theorem iq_mod {r x b : Int32} {n : Nat} (hb : 0 < b.toInt) (hn : b.toInt = n) (h : r.toInt = x.toInt % b.toInt) : vp_in r n := iq_in (by rw [h]; exact Int.emod_nonneg _ (by omega)) (by rw [h, ← hn]; exact Int.emod_lt_of_pos _ hb)
theorem ia_le {kd n : Nat} (h : iaLen kd = some n) : n ≤ 199 := by
  match kd, h with
  | 7, h => simp [iaLen] at h; omega
  | 9, h => simp [iaLen] at h; omega
  | 10, h => simp [iaLen] at h; omega
theorem iq_min {x v : Int32} (h : v = if 199 < x then 199 else x) : v.toInt ≤ 199 := by
  by_cases hq : 199 < x
  · rw [h, if_pos hq]; decide
  · rw [h, if_neg hq]; rw [iq_lt] at hq; exact Int.not_lt.mp hq
theorem iq_upm {x v : Int32} {n : Nat} (hm : (2147483647 - x.toInt).toNat < n + 1) (h : x.toInt < 2147483647) (hv : v = x + 1) : (2147483647 - v.toInt).toNat < n := by
  have := iq_add1 hv h
  omega
theorem iq_below {x b : Int32} (hc : ¬ b ≤ x) : x.toInt < 2147483647 := by
  have := iq_hi b
  rw [iq_le] at hc
  omega
theorem iq_sub1 {x v : Int32} (hv : v = x - 1) (h : -2147483648 < x.toInt) : v.toInt = x.toInt - 1 := by
  have := iq_hi x
  rw [hv, iq_sub (by show _ ≤ x.toInt - 1; omega) (by show x.toInt - 1 < _; omega)]
  rfl
theorem iq_half {x v : Int32} (h : 0 ≤ x.toInt) (e : v = x / 2) : v.toInt = x.toInt / 2 := by
  rw [e, Int32.toInt_div_of_ne_right _ _ (by decide)]
  show x.toInt.tdiv 2 = _
  exact Int.tdiv_eq_ediv_of_nonneg h
theorem iq_remn {x v k : Int32} (h : 0 ≤ x.toInt) (e : v = x - x / k * k) : v.toInt = x.toInt % k.toInt := by
  rw [e, iq_rem]
  exact Int.tmod_eq_emod_of_nonneg h

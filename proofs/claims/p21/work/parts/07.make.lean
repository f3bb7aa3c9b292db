theorem tw_fresh {A : Nat → Prop} {w : va_W} {q : Nat} {e : va_E} {j : Nat} {x : Nat × va_E} (hD : va_D A (w ++ [(q, e)])) (hj : w[j]? = some x) : x.1 ≠ q := fun h => by
  have h1 := hD.1 j w.length _ _ (tw_push hj) tw_last h
  have h2 := (List.getElem?_eq_some_iff.mp hj).1
  omega
theorem TH.type {K : Cx} {G : Nat → Nat} {w : va_W} {k a kd : Nat} {e : va_E} (h : TH K G w) (hk : w[k]? = some (a, e)) (h0 : G a = 0) (hu : uqK kd → ∀ b : Nat, G b ≠ kd) (ho : ∀ G1 : Nat → Nat, gLe G G1 → okE K G1 kd e) : ∃ G1 : Nat → Nat, gLe G G1 ∧ G1 a = kd ∧ TH K G1 w :=
  ⟨va_up G a kd, gLe.up kd h0, va_up_self _ _ _, h.new hk h0 hu (ho _ (gLe.up kd h0))⟩
section TNEW
variable {p : Program} {l : Launch} {e : Env} {R : Room} {s : State} {m : MethodId} {args : Array Value} {below : List Frame} {meth : Method} {c : Code} {H H0 : Heap} {locs : List Loc} {cells slots : Nat} {Q : State → Prop}
variable {cc : ByteArray} {pc : Nat} {ls : Array Slot} {rest : List Value} {A : Nat → Prop} {K : Cx} {G : Nat → Nat} {w : va_W}
theorem t_newi (hexec : p.tables.exec = Jvm.exec) (hb : c.code = cc) (harr : (Cond.arrayClass .int).before args s = true) (hK : va_K K.1 vwCl (tyL K) s) (hP : va_P K.1 vwCl w H) (hD : va_D A w) (hS : va_S A H0 H locs) (hA : ∀ q, H0.size ≤ q → A q) (hT : TH K G w) {n : Int32} {N : Nat} (kd : Nat) (hkd : iaLen kd = some N) (hn : ¬ n < 0) (hN : n.toNatClampNeg = N) (hcells : cells + 1 ≤ R.cells) (hslots : slots + N ≤ R.slots) (hdg : decode cc pc = .ok (.newarray .int, 2))
    (kk : ∀ (q : Nat) (G1 : Nat → Nat) (w1 : va_W) (H1 : Heap), gLe G G1 → G1 q = kd → (∀ b : Nat, b ≠ q → G1 b = G b) → TH K G1 w1 → (∀ (j : Nat) (x : Nat × va_E), w[j]? = some x → w1[j]? = some x ∧ x.1 ≠ q) → va_P K.1 vwCl w1 H1 → va_D A w1 → va_S A H0 H1 locs → W p l e R s m args below meth c H1 locs (cells + 1) (slots + N) Q (F0 m (pc + 2) ls (.ref q :: rest))) : W p l e R s m args below meth c H locs cells slots Q (F0 m pc ls (.int n :: rest)) := by
  have hb9 := ia_le hkd
  refine va_newa (atype := .int) (ty := .int) (a0 := (N, .inl (fun _ => 0))) hexec hb harr rfl hK hP hD hS hA (fun cA => rfl) hn hN (by show N * 4 ≤ _; omega) hcells hslots hdg (fun q cA H1 hK1 hP1 hD1 hS1 => ?_)
  have e1 : s.vm.findClass ("[" ++ FieldType.int.toString) = some cA := (hK1.2 4 (cA, .int) rfl).2
  have e2 : s.vm.findClass ("[" ++ FieldType.int.toString) = some K.2.1 := (hK.2 0 (K.2.1, .int) rfl).2
  have e3 : cA = K.2.1 := Option.some.inj (e1.symm.trans e2)
  subst e3
  have h0 := hT.fresh hD1
  exact kk q _ _ H1 (gLe.up kd h0) (va_up_self _ _ _) (fun b hb => va_up_ne _ _ hb) ((hT.push).new tw_last h0 (fun q => absurd q (ia_uq hkd)) (okE.ia hkd _)) (fun j x hj => ⟨tw_push hj, tw_fresh hD1 hj⟩) hP1 hD1 hS1
theorem t_newi6 (hexec : p.tables.exec = Jvm.exec) (hb : c.code = cc) (harr : (Cond.arrayClass .int).before args s = true) (hK : va_K K.1 vwCl (tyL K) s) (hP : va_P K.1 vwCl w H) (hD : va_D A w) (hS : va_S A H0 H locs) (hA : ∀ q, H0.size ≤ q → A q) (hT : TH K G w) {n : Int32} {N : Nat} (kd : Nat) (hkd : N = 6) (hku : kd ≠ 0) (hu : ∀ b : Nat, G b ≠ kd) (hok : ∀ G1 : Nat → Nat, okE K G1 kd (.inl (K.2.1, 6, .inl (fun _ => 0)))) (hn : ¬ n < 0) (hN : n.toNatClampNeg = N) (hcells : cells + 1 ≤ R.cells) (hslots : slots + N ≤ R.slots) (hdg : decode cc pc = .ok (.newarray .int, 2))
    (kk : ∀ (q : Nat) (G1 : Nat → Nat) (w1 : va_W) (H1 : Heap), gLe G G1 → G1 q = kd → (∀ b : Nat, b ≠ q → G1 b = G b) → TH K G1 w1 → (∀ (j : Nat) (x : Nat × va_E), w[j]? = some x → w1[j]? = some x ∧ x.1 ≠ q) → va_P K.1 vwCl w1 H1 → va_D A w1 → va_S A H0 H1 locs → W p l e R s m args below meth c H1 locs (cells + 1) (slots + N) Q (F0 m (pc + 2) ls (.ref q :: rest))) : W p l e R s m args below meth c H locs cells slots Q (F0 m pc ls (.int n :: rest)) := by
  subst hkd
  refine va_newa (atype := .int) (ty := .int) (a0 := (6, .inl (fun _ => 0))) hexec hb harr rfl hK hP hD hS hA (fun cA => rfl) hn hN (by decide) hcells hslots hdg (fun q cA H1 hK1 hP1 hD1 hS1 => ?_)
  have e1 : s.vm.findClass ("[" ++ FieldType.int.toString) = some cA := (hK1.2 4 (cA, .int) rfl).2
  have e2 : s.vm.findClass ("[" ++ FieldType.int.toString) = some K.2.1 := (hK.2 0 (K.2.1, .int) rfl).2
  have e3 : cA = K.2.1 := Option.some.inj (e1.symm.trans e2)
  subst e3
  have h0 := hT.fresh hD1
  exact kk q _ _ H1 (gLe.up kd h0) (va_up_self _ _ _) (fun b hb => va_up_ne _ _ hb) ((hT.push).new tw_last h0 (fun _ => hu) (hok _)) (fun j x hj => ⟨tw_push hj, tw_fresh hD1 hj⟩) hP1 hD1 hS1
theorem t_newq (hexec : p.tables.exec = Jvm.exec) (hb : c.code = cc) {own : String} {index : Nat} (hown : s.vm.findClass own = some m.cls) (hclink : (Cond.classLink own index "CodedWords$Code").before args s = true) (hN0 : NW s) (hK : va_K K.1 vwCl (tyL K) s) (hP : va_P K.1 vwCl w H) (hD : va_D A w) (hS : va_S A H0 H locs) (hA : ∀ q, H0.size ≤ q → A q) (hT : TH K G w) {n : Int32} {N : Nat} (kd : Nat) (hkd : raLen kd = some N) (hn : ¬ n < 0) (hN : n.toNatClampNeg = N) (hbytes : N * 4 ≤ 536870912) (hcells : cells + 1 ≤ R.cells) (hslots : slots + N ≤ R.slots) (hdg : decode cc pc = .ok (.anewarray index, 3))
    (kk : ∀ (q : Nat) (G1 : Nat → Nat) (w1 : va_W) (H1 : Heap), gLe G G1 → G1 q = kd → (∀ b : Nat, b ≠ q → G1 b = G b) → TH K G1 w1 → (∀ (j : Nat) (x : Nat × va_E), w[j]? = some x → w1[j]? = some x ∧ x.1 ≠ q) → va_P K.1 vwCl w1 H1 → va_D A w1 → va_S A H0 H1 locs → W p l e R s m args below meth c H1 locs (cells + 1) (slots + N) Q (F0 m (pc + 3) ls (.ref q :: rest))) : W p l e R s m args below meth c H locs cells slots Q (F0 m pc ls (.int n :: rest)) := by
  refine va_newq (C := "CodedWords$Code") hexec hb hown hclink hN0.2.2 hK hP hD hS hA hn hN hbytes hcells hslots hdg (fun q cA H1 hK1 hP1 hD1 hS1 => ?_)
  obtain ⟨_, _, -, -, -, e1⟩ := (hK1.2 4 (cA, .object "CodedWords$Code") rfl).2
  obtain ⟨_, _, -, -, -, e2⟩ := (hK.2 3 (K.2.2.2.2.1, .object "CodedWords$Code") rfl).2
  have e3 : cA = K.2.2.2.2.1 := Option.some.inj (e1.symm.trans e2)
  subst e3
  have h0 := hT.fresh hD1
  exact kk q _ _ H1 (gLe.up kd h0) (va_up_self _ _ _) (fun b hb => va_up_ne _ _ hb) ((hT.push).new tw_last h0 (fun q => absurd q (ra_uq hkd)) (okE.ra hkd _ (fun j q hq => by cases hq))) (fun j x hj => ⟨tw_push hj, tw_fresh hD1 hj⟩) hP1 hD1 hS1
theorem t_new (hexec : p.tables.exec = Jvm.exec) (hb : c.code = cc) {own C : String} {T : u_T} {N ci index : Nat} {Ts : List Cond} (hts : ∀ w ∈ Ts, w.before args s = true) (hin : ∀ w ∈ u_ws C T N, w ∈ Ts) (ty : Nat → FieldType) (hty : ∀ k, k < N → parseFieldDescriptor (T k).2.2.1 = some (ty k)) (hown : s.vm.findClass own = some m.cls) (hcl : (Cond.classLink own index C).before args s = true) (hinst : (Cond.instantiable C N).before args s = true) (hini : (Cond.initialized C).before args s = true)
    (hK : va_K K.1 vwCl (tyL K) s) (hP : va_P K.1 vwCl w H) (hD : va_D A w) (hS : va_S A H0 H locs) (hA : ∀ q, H0.size ≤ q → A q) (hT : TH K G w) (hc : vwCl[ci]? = some (C, T, N)) {fs : List Value} (hfs : ∀ j, j < N → defaultValue (ty j) = vp_V fs j) (hcells : cells + 1 ≤ R.cells) (hslots : slots + N ≤ R.slots) (hdg : decode cc pc = .ok (.new index, 3))
    (kk : ∀ (q k : Nat) (w1 : va_W) (H1 : Heap), G q = 0 → TH K G w1 → w1[k]? = some (q, .inr (ci, fs)) → (∀ (j : Nat) (x : Nat × va_E), w[j]? = some x → w1[j]? = some x ∧ x.1 ≠ q) → va_P K.1 vwCl w1 H1 → va_D A w1 → va_S A H0 H1 locs → W p l e R s m args below meth c H1 locs (cells + 1) (slots + N) Q (F0 m (pc + 3) ls (.ref q :: rest))) : W p l e R s m args below meth c H locs cells slots Q (F0 m pc ls rest) :=
  va_new hexec hb hts hin ty hty hown hcl hinst hini hK hP hD hS hA hc hfs hcells hslots hdg (fun q H1 hP1 hD1 hS1 => kk q _ _ H1 (hT.fresh hD1) hT.push tw_last (fun j x hj => ⟨tw_push hj, tw_fresh hD1 hj⟩) hP1 hD1 hS1)
end TNEW

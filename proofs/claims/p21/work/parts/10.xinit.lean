section HEAD
variable {p : Program} {l : Launch} {e : Env} {R : Room} {s : State} {m : MethodId} {args : Array Value} {below : List Frame} {meth : Method} {c : Code} {H H0 : Heap} {locs : List Loc} {cells slots : Nat} {Q : State → Prop}
variable {cc : ByteArray} {pc : Nat} {ls : Array Slot} {rest st0 : List Value} {a : Array Value} {A : Nat → Prop} {mc ms : Nat} {K : Cx} {G : Nat → Nat} {w : va_W} {x : Nat × va_E}
theorem hd_P (h : va_P K.1 vwCl (x :: w) H) : va_P K.1 vwCl w H := fun k q hk => h (k + 1) q hk
theorem hd_D (h : va_D A (x :: w)) : va_D A w := ⟨fun i j p q hi hj hpq => by have := h.1 (i + 1) (j + 1) p q hi hj hpq; omega, fun k q hk => h.2 (k + 1) q hk⟩
theorem hd_ne (h : va_D A (x :: w)) {k : Nat} {q : Nat × va_E} (hk : w[k]? = some q) : q.1 ≠ x.1 := fun hq => by
  have := h.1 0 (k + 1) x q rfl hk hq.symm
  omega
theorem hd_z (hT : TH K G w) (h : va_D A (x :: w)) : G x.1 = 0 := Classical.byContradiction fun hq => by
  obtain ⟨k, e2, hk, -⟩ := hT.2 x.1 hq
  exact hd_ne h hk rfl
theorem hd_T (hT : TH K G w) : TH K G (x :: w) := ⟨hT.1, fun b hb => by
  obtain ⟨k, e2, hk, ho⟩ := hT.2 b hb
  exact ⟨k + 1, e2, hk, ho⟩⟩
theorem hd_newD {A : Nat → Prop} (h1 : va_P K.1 vwCl w H) (hx : va_at K.1 vwCl x H) (hD : va_D A w) (hxA : A x.1) (hne : ∀ (k : Nat) (q : Nat × va_E), w[k]? = some q → q.1 ≠ x.1) : va_P K.1 vwCl (x :: w) H ∧ va_D A (x :: w) := by
  refine ⟨fun k q hk => ?_, fun i j p q hi hj hpq => ?_, fun k q hk => ?_⟩
  · match k, hk with
    | 0, hk => cases hk; exact hx
    | k + 1, hk => exact h1 k q hk
  · match i, j, hi, hj with
    | 0, 0, _, _ => rfl
    | 0, j + 1, hi, hj => cases hi; exact absurd hpq.symm (hne j q hj)
    | i + 1, 0, hi, hj => cases hj; exact absurd hpq (hne i p hi)
    | i + 1, j + 1, hi, hj => exact congrArg (· + 1) (hD.1 i j p q hi hj hpq)
  · match k, hk with
    | 0, hk => cases hk; exact hxA
    | k + 1, hk => exact hD.2 k q hk
theorem c_vh {K2 : Cx} {post : (Nat → Nat) → va_W → Prop} (hr : va_Run p l e R s m args below meth c H locs cells slots mc ms (F0 m pc ls st0) rest (va_Qv (fun (u : (Nat → Nat) × va_W) => post u.1 u.2 ∧ gLe G u.1 ∧ TH K2 u.1 u.2) (fun u t => va_P K.1 vwCl u.2 t.heap ∧ va_D (va_A w H.size) u.2) (va_A w H.size) a) (va_A w H.size)) (hP : va_P K.1 vwCl (x :: w) H) (hD : va_D A (x :: w)) (hS : va_S A H0 H locs) (hA : ∀ q, H0.size ≤ q → A q)
    (kk : ∀ (G1 : Nat → Nat) (w1 : va_W) (H1 : Heap) (locs1 : List Loc), post G1 w1 → gLe G G1 → TH K2 G1 w1 → va_P K.1 vwCl (x :: w1) H1 → va_D A (x :: w1) → va_S A H0 H1 locs1 → W p l e R s m args below meth c H1 locs1 (cells + mc) (slots + ms) Q (F0 m (pc + 3) ls rest)) : W p l e R s m args below meth c H locs cells slots Q (F0 m pc ls st0) := by
  have hF := kFree (hd_D hD) hS hA
  have hx : va_at K.1 vwCl x H := hP 0 x rfl
  have hnA : ¬ va_A w H.size x.1 := fun h => by
    rcases h with ⟨k, e2, h⟩ | h
    · exact hd_ne hD h rfl
    · have := hx.lt; omega
  refine va_callv hr hS (fun q _ h => hF q h) hF (fun u t H1 locs1 ht hvm hp hB hz hk hS1 => ?_)
  obtain ⟨h1, h2⟩ := hd_newD (x := x) (by rw [← ht]; exact hB.1) (hx.kept (hk x.1 hx.lt hnA)) (hB.2.weaken (fun _ q _ h => hF q.1 h)) (hD.2 0 x rfl) (fun k q hq h => hnA (by rw [← h]; exact hB.2.2 k q hq))
  exact kk u.1 u.2 H1 locs1 hp.1 hp.2.1 hp.2.2 h1 h2 hS1
theorem t_newh (hexec : p.tables.exec = Jvm.exec) (hb : c.code = cc) {own C : String} {T : u_T} {N ci index : Nat} {Ts : List Cond} (hts : ∀ w ∈ Ts, w.before args s = true) (hin : ∀ w ∈ u_ws C T N, w ∈ Ts) (ty : Nat → FieldType) (hty : ∀ k, k < N → parseFieldDescriptor (T k).2.2.1 = some (ty k)) (hown : s.vm.findClass own = some m.cls) (hcl : (Cond.classLink own index C).before args s = true) (hinst : (Cond.instantiable C N).before args s = true) (hini : (Cond.initialized C).before args s = true)
    (hK : va_K K.1 vwCl (tyL K) s) (hP : va_P K.1 vwCl (x :: w) H) (hD : va_D A (x :: w)) (hS : va_S A H0 H locs) (hA : ∀ q, H0.size ≤ q → A q) (hT : TH K G w) (hc : vwCl[ci]? = some (C, T, N)) {fs : List Value} (hfs : ∀ j, j < N → defaultValue (ty j) = vp_V fs j) (hcells : cells + 1 ≤ R.cells) (hslots : slots + N ≤ R.slots) (hdg : decode cc pc = .ok (.new index, 3))
    (kk : ∀ (q k : Nat) (w1 : va_W) (H1 : Heap), G q = 0 → TH K G w1 → w1[k]? = some (q, .inr (ci, fs)) → va_P K.1 vwCl (x :: w1) H1 → va_D A (x :: w1) → va_S A H0 H1 locs → W p l e R s m args below meth c H1 locs (cells + 1) (slots + N) Q (F0 m (pc + 3) ls (.ref q :: rest))) : W p l e R s m args below meth c H locs cells slots Q (F0 m pc ls rest) :=
  va_new hexec hb hts hin ty hty hown hcl hinst hini hK hP hD hS hA hc hfs hcells hslots hdg (fun q H1 hP1 hD1 hS1 => by
    have hP2 : va_P K.1 vwCl (x :: (w ++ [(q, .inr (ci, fs))])) H1 := hP1
    have hD2 : va_D A (x :: (w ++ [(q, .inr (ci, fs))])) := hD1
    exact kk q _ _ H1 (hT.fresh (hd_D hD2)) hT.push tw_last hP2 hD2 hS1)
end HEAD
abbrev rmX5_init : Room := { frames := 3, cells := 50, slots := 689, locals := 53 }
set_option maxHeartbeats 4000000 in
set_option maxRecDepth 100000 in
theorem k_X5_init (l : Launch) {K : Cx} (hK0 : ¬ okN (snK K)) (sz : Nat) {h0 : Nat} : CvK l K (Kw K sn0) yX5_init wsX5_init rmX5_init 50 689 [.ref h0] (fun _ => 0) [(h0, .inr (5, [.null, .null, .null, .null, .null]))] sz (fun G1 _ => G1 h0 = 6) := by
  refine Met.ofW (cc := cX5_init) (maxL := 1) (ret := none) (by decide) rfl ?_
  intro p e s m args below meth c s₁ B hml hv
  obtain ⟨rfl, hsz, hP, hK, hD0, hN⟩ := hv
  have hx := B.exec
  have hb := B.bytes
  have hr := B.returns
  have hts := atoms_spec (ws := wsX5_init) B.pre
  have hown : s.vm.findClass RX5 = some m.cls := findClass_of_methodNamed B.named
  have hlocks := B.notSynchronized
  have hin : meth.name = "<init>" := (name_of_methodNamed B.named B.method).1
  have hinX0 : ∀ w ∈ wsX00, w ∈ wsX5_init := by decide +kernel
  have hinX1 : ∀ w ∈ wsX10, w ∈ wsX5_init := by decide +kernel
  have hinX2 : ∀ w ∈ wsX20, w ∈ wsX5_init := by decide +kernel
  have hinX3 : ∀ w ∈ wsX30, w ∈ wsX5_init := by decide +kernel
  have hinX4 : ∀ w ∈ wsX40, w ∈ wsX5_init := by decide +kernel
  have hinX5 : ∀ w ∈ wsX50, w ∈ wsX5_init := by decide +kernel
  subst hsz
  have hD := hD0.self (sz := s.heap.size)
  generalize hAe : va_A [(h0, .inr (5, [.null, .null, .null, .null, .null]))] s.heap.size = A at hD ⊢
  have hA : ∀ q : Nat, s.heap.size ≤ q → A q := fun q h => by rw [← hAe]; exact Or.inr h
  have hS : va_S A s.heap s.heap [] := va_S.rf
  have hG : gLe (fun _ => 0) (fun _ : Nat => 0) := gLe.rf
  have hT : TH K (fun _ => 0) [] := ⟨fun _ _ ha => absurd (show uqK 0 from ha) (by decide), fun _ ha => absurd rfl ha⟩
  have hl := lv_entry ([.ref h0]) (n := 1) (Nat.le_of_ble_eq_true rfl)
  rw [lg_entry_eq]
  generalize (lg_sl ([.ref h0]) ++ List.replicate (1 - (lg_sl ([.ref h0])).length) Slot.unset).toArray = ls at hl ⊢
  have hl : lv_has ls 1 [(0, .ref h0)] := hl
  refine lv_aload_n hx hb dX5_init_0 rfl (lv_at hl 0 rfl) ?_
  refine W.objInit hx hb hown (hts (.methodLink RX5 1 objectInit) (by decide +kernel)) (hts (.instanceMethod objectInit) (by decide +kernel)) (hts (.code objectInit ⟨#[0xb1]⟩ 1 none) (by decide +kernel)) rfl (by rw [hml]; exact hl.1) rfl dX5_init_1 (Nat.le_of_ble_eq_true rfl) (Nat.le_of_ble_eq_true rfl) ?_
  refine W.eq (g2 := F0 m 4 ls []) rfl ?_
  refine lv_aload_n hx hb dX5_init_4 rfl (lv_at hl 0 rfl) ?_
  refine t_newh (K := K) (ci := 2) (fs := [.int 0, .int 0, .null, .null]) (C := RX2) (T := TX2) (N := 4) hx hb hts hinX2 tyX2 tyX2_ok hown (hts (.classLink RX5 7 RX2) (by decide +kernel)) (hts (.instantiable RX2 4) (by decide +kernel)) (hts (.initialized RX2) (by decide +kernel)) hK hP hD hS hA hT rfl (fun j hj => by rcases (show j = 0 ∨ j = 1 ∨ j = 2 ∨ j = 3 by omega) with rfl | rfl | rfl | rfl <;> rfl) (Nat.le_of_ble_eq_true rfl) (Nat.le_of_ble_eq_true rfl) dX5_init_5 (fun q_X2 k_n w H z_n hT hk_n hP hD hS => ?_)
  refine lv_dup hx hb dX5_init_8 rfl ?_
  refine c_vh (K := K) (K2 := K) (G := (fun _ => 0)) (w := w) (post := fun G1 _ => G1 q_X2 = 3) (va_runIN (mc := 2) (ms := 8) (rm := rmX2_init) (As := []) (rest := [.ref q_X2, .ref h0]) ⟨hx, hb, hml, hown, hts⟩ (k_X2_init l hT H.size z_n hk_n) ⟨va_cnB 0 hts gX5_init_X2_init_n9 rfl rfl rfl (hN.m (o := RX5) (by decide +kernel)) (hts (.initialized RX2) (by decide +kernel)) (by decide +kernel) ⟨Nat.le_of_ble_eq_true rfl, Nat.le_of_ble_eq_true rfl⟩, rfl, hts (.instanceMethod yX2_init) (by decide +kernel)⟩ (kPreS (hd_P hP) hK (hd_D hD) hN) rfl rfl hl.1 rfl (lv_room (Nat.le_of_ble_eq_true rfl)) dX5_init_9 ⟨Nat.le_of_ble_eq_true rfl, Nat.le_of_ble_eq_true rfl⟩) hP hD hS hA (fun G w H locs g_q_X2 hg hT hP hD hS => ?_)
  have hG := hG.tr hg
  refine va_putF (D := K.1) (ci := 5) (v := .ref q_X2) (ty := .object "CodedWords$Code") (C := RX5) (T := TX5) (N := 5) hx hb hts hinX5 tyX5 tyX5_ok nmX5 hown hK hP hD hS 0 rfl rfl 0 (by decide) (hts (.fieldLink RX5 10 "CodedWords" "code" "LCodedWords$Code;") (by decide +kernel)) (fun _ h9 => h9) rfl hin rfl (by decide +kernel) rfl rfl (Nat.le_of_ble_eq_true rfl) dX5_init_12 (fun H locs hP hD hS => ?_)
  have hP : va_P K.1 vwCl ((h0, .inr (5, [.ref q_X2, .null, .null, .null, .null])) :: w) H := hP
  have hD : va_D A ((h0, .inr (5, [.ref q_X2, .null, .null, .null, .null])) :: w) := hD
  refine lv_aload_n hx hb dX5_init_15 rfl (lv_at hl 0 rfl) ?_
  refine t_newh (K := K) (ci := 3) (fs := [.null, .int 0, .int 0]) (C := RX3) (T := TX3) (N := 3) hx hb hts hinX3 tyX3 tyX3_ok hown (hts (.classLink RX5 16 RX3) (by decide +kernel)) (hts (.instantiable RX3 3) (by decide +kernel)) (hts (.initialized RX3) (by decide +kernel)) hK hP hD hS hA hT rfl (fun j hj => by rcases (show j = 0 ∨ j = 1 ∨ j = 2 by omega) with rfl | rfl | rfl <;> rfl) (Nat.le_of_ble_eq_true rfl) (Nat.le_of_ble_eq_true rfl) dX5_init_16 (fun q_X3 k_n w H z_n hT hk_n hP hD hS => ?_)
  refine lv_dup hx hb dX5_init_19 rfl ?_
  refine c_vh (K := K) (K2 := K) (G := G) (w := w) (post := fun G1 _ => G1 q_X3 = 4) (va_runI (mc := 37) (ms := 156) (rm := rmX3_init) (As := []) (rest := [.ref q_X3, .ref h0]) ⟨hx, hb, hml, hown, hts⟩ (k_X3_init l hT H.size z_n hk_n) (cwI 0 hts gX5_init_X3_init rfl rfl rfl (hts (.initialized RX3) (by decide +kernel)) (hts (.methodLink RX5 18 yX3_init) (by decide +kernel)) (hts (.instanceMethod yX3_init) (by decide +kernel)) rfl (by decide +kernel) ⟨Nat.le_of_ble_eq_true rfl, Nat.le_of_ble_eq_true rfl⟩) (kPreS (hd_P hP) hK (hd_D hD) hN) rfl rfl hl.1 rfl (lv_room (Nat.le_of_ble_eq_true rfl)) dX5_init_20 ⟨Nat.le_of_ble_eq_true rfl, Nat.le_of_ble_eq_true rfl⟩) hP hD hS hA (fun G w H locs g_q_X3 hg hT hP hD hS => ?_)
  have hG := hG.tr hg
  have g_q_X2 := hg.at g_q_X2 (by decide)
  refine va_putF (D := K.1) (ci := 5) (v := .ref q_X3) (ty := .object "CodedWords$Past") (C := RX5) (T := TX5) (N := 5) hx hb hts hinX5 tyX5 tyX5_ok nmX5 hown hK hP hD hS 0 rfl rfl 1 (by decide) (hts (.fieldLink RX5 19 "CodedWords" "past" "LCodedWords$Past;") (by decide +kernel)) (fun _ h9 => h9) rfl hin rfl (by decide +kernel) rfl rfl (Nat.le_of_ble_eq_true rfl) dX5_init_23 (fun H locs hP hD hS => ?_)
  have hP : va_P K.1 vwCl ((h0, .inr (5, [.ref q_X2, .ref q_X3, .null, .null, .null])) :: w) H := hP
  have hD : va_D A ((h0, .inr (5, [.ref q_X2, .ref q_X3, .null, .null, .null])) :: w) := hD
  refine lv_aload_n hx hb dX5_init_26 rfl (lv_at hl 0 rfl) ?_
  refine t_newh (K := K) (ci := 0) (fs := [.null]) (C := RX0) (T := TX0) (N := 1) hx hb hts hinX0 tyX0 tyX0_ok hown (hts (.classLink RX5 23 RX0) (by decide +kernel)) (hts (.instantiable RX0 1) (by decide +kernel)) (hts (.initialized RX0) (by decide +kernel)) hK hP hD hS hA hT rfl (fun j hj => by rcases (show j = 0 by omega) with rfl <;> rfl) (Nat.le_of_ble_eq_true rfl) (Nat.le_of_ble_eq_true rfl) dX5_init_27 (fun q_X0 k_n w H z_n hT hk_n hP hD hS => ?_)
  refine lv_dup hx hb dX5_init_30 rfl ?_
  refine c_vh (K := K) (K2 := K) (G := G) (w := w) (post := fun G1 _ => G1 q_X0 = 1) (va_runIN (mc := 1) (ms := 2) (rm := rmX0_init) (As := []) (rest := [.ref q_X0, .ref h0]) ⟨hx, hb, hml, hown, hts⟩ (k_X0_init l hT H.size z_n hk_n) ⟨va_cnB 0 hts gX5_init_X0_init_n25 rfl rfl rfl (hN.m (o := RX5) (by decide +kernel)) (hts (.initialized RX0) (by decide +kernel)) (by decide +kernel) ⟨Nat.le_of_ble_eq_true rfl, Nat.le_of_ble_eq_true rfl⟩, rfl, hts (.instanceMethod yX0_init) (by decide +kernel)⟩ (kPreS (hd_P hP) hK (hd_D hD) hN) rfl rfl hl.1 rfl (lv_room (Nat.le_of_ble_eq_true rfl)) dX5_init_31 ⟨Nat.le_of_ble_eq_true rfl, Nat.le_of_ble_eq_true rfl⟩) hP hD hS hA (fun G w H locs g_q_X0 hg hT hP hD hS => ?_)
  have hG := hG.tr hg
  have g_q_X2 := hg.at g_q_X2 (by decide)
  have g_q_X3 := hg.at g_q_X3 (by decide)
  refine va_putF (D := K.1) (ci := 5) (v := .ref q_X0) (ty := .object "CodedWords$Album") (C := RX5) (T := TX5) (N := 5) hx hb hts hinX5 tyX5 tyX5_ok nmX5 hown hK hP hD hS 0 rfl rfl 2 (by decide) (hts (.fieldLink RX5 26 "CodedWords" "album" "LCodedWords$Album;") (by decide +kernel)) (fun _ h9 => h9) rfl hin rfl (by decide +kernel) rfl rfl (Nat.le_of_ble_eq_true rfl) dX5_init_34 (fun H locs hP hD hS => ?_)
  have hP : va_P K.1 vwCl ((h0, .inr (5, [.ref q_X2, .ref q_X3, .ref q_X0, .null, .null])) :: w) H := hP
  have hD : va_D A ((h0, .inr (5, [.ref q_X2, .ref q_X3, .ref q_X0, .null, .null])) :: w) := hD
  refine lv_aload_n hx hb dX5_init_37 rfl (lv_at hl 0 rfl) ?_
  refine t_newh (K := K) (ci := 4) (fs := [.null, .null, .null, .int 0]) (C := RX4) (T := TX4) (N := 4) hx hb hts hinX4 tyX4 tyX4_ok hown (hts (.classLink RX5 30 RX4) (by decide +kernel)) (hts (.instantiable RX4 4) (by decide +kernel)) (hts (.initialized RX4) (by decide +kernel)) hK hP hD hS hA hT rfl (fun j hj => by rcases (show j = 0 ∨ j = 1 ∨ j = 2 ∨ j = 3 by omega) with rfl | rfl | rfl | rfl <;> rfl) (Nat.le_of_ble_eq_true rfl) (Nat.le_of_ble_eq_true rfl) dX5_init_38 (fun q_X4 k_n w H z_n hT hk_n hP hD hS => ?_)
  refine lv_dup hx hb dX5_init_41 rfl ?_
  refine c_vh (K := K) (K2 := Kw K sn0) (G := G) (w := w) (post := fun G1 _ => G1 q_X4 = 5) (va_runIN (mc := 3) (ms := 111) (rm := rmX4_init) (As := []) (rest := [.ref q_X4, .ref h0]) ⟨hx, hb, hml, hown, hts⟩ (k_X4_init l hT H.size z_n hk_n hK0) ⟨va_cnB 0 hts gX5_init_X4_init_n32 rfl rfl rfl (hN.m (o := RX5) (by decide +kernel)) (hts (.initialized RX4) (by decide +kernel)) (by decide +kernel) ⟨Nat.le_of_ble_eq_true rfl, Nat.le_of_ble_eq_true rfl⟩, rfl, hts (.instanceMethod yX4_init) (by decide +kernel)⟩ (kPreS (hd_P hP) hK (hd_D hD) hN) rfl rfl hl.1 rfl (lv_room (Nat.le_of_ble_eq_true rfl)) dX5_init_42 ⟨Nat.le_of_ble_eq_true rfl, Nat.le_of_ble_eq_true rfl⟩) hP hD hS hA (fun G w H locs g_q_X4 hg hT hP hD hS => ?_)
  have hG := hG.tr hg
  have g_q_X2 := hg.at g_q_X2 (by decide)
  have g_q_X3 := hg.at g_q_X3 (by decide)
  have g_q_X0 := hg.at g_q_X0 (by decide)
  refine va_putF (D := K.1) (ci := 5) (v := .ref q_X4) (ty := .object "CodedWords$Search") (C := RX5) (T := TX5) (N := 5) hx hb hts hinX5 tyX5 tyX5_ok nmX5 hown hK hP hD hS 0 rfl rfl 3 (by decide) (hts (.fieldLink RX5 33 "CodedWords" "search" "LCodedWords$Search;") (by decide +kernel)) (fun _ h9 => h9) rfl hin rfl (by decide +kernel) rfl rfl (Nat.le_of_ble_eq_true rfl) dX5_init_45 (fun H locs hP hD hS => ?_)
  have hP : va_P K.1 vwCl ((h0, .inr (5, [.ref q_X2, .ref q_X3, .ref q_X0, .ref q_X4, .null])) :: w) H := hP
  have hD : va_D A ((h0, .inr (5, [.ref q_X2, .ref q_X3, .ref q_X0, .ref q_X4, .null])) :: w) := hD
  refine lv_aload_n hx hb dX5_init_48 rfl (lv_at hl 0 rfl) ?_
  refine t_newh (K := Kw K sn0) (ci := 1) (fs := [.null, .null]) (C := RX1) (T := TX1) (N := 2) hx hb hts hinX1 tyX1 tyX1_ok hown (hts (.classLink RX5 37 RX1) (by decide +kernel)) (hts (.instantiable RX1 2) (by decide +kernel)) (hts (.initialized RX1) (by decide +kernel)) hK hP hD hS hA hT rfl (fun j hj => by rcases (show j = 0 ∨ j = 1 by omega) with rfl | rfl <;> rfl) (Nat.le_of_ble_eq_true rfl) (Nat.le_of_ble_eq_true rfl) dX5_init_49 (fun q_X1 k_n w H z_n hT hk_n hP hD hS => ?_)
  refine lv_dup hx hb dX5_init_52 rfl ?_
  refine c_vh (K := Kw K sn0) (K2 := Kw K sn0) (G := G) (w := w) (post := fun G1 _ => G1 q_X1 = 2) (va_runIN (mc := 2) (ms := 398) (rm := rmX1_init) (As := []) (rest := [.ref q_X1, .ref h0]) ⟨hx, hb, hml, hown, hts⟩ (k_X1_init l hT H.size z_n hk_n) ⟨va_cnB 0 hts gX5_init_X1_init_n39 rfl rfl rfl (hN.m (o := RX5) (by decide +kernel)) (hts (.initialized RX1) (by decide +kernel)) (by decide +kernel) ⟨Nat.le_of_ble_eq_true rfl, Nat.le_of_ble_eq_true rfl⟩, rfl, hts (.instanceMethod yX1_init) (by decide +kernel)⟩ (kPreS (hd_P hP) hK (hd_D hD) hN) rfl rfl hl.1 rfl (lv_room (Nat.le_of_ble_eq_true rfl)) dX5_init_53 ⟨Nat.le_of_ble_eq_true rfl, Nat.le_of_ble_eq_true rfl⟩) hP hD hS hA (fun G w H locs g_q_X1 hg hT hP hD hS => ?_)
  have hG := hG.tr hg
  have g_q_X2 := hg.at g_q_X2 (by decide)
  have g_q_X3 := hg.at g_q_X3 (by decide)
  have g_q_X0 := hg.at g_q_X0 (by decide)
  have g_q_X4 := hg.at g_q_X4 (by decide)
  refine va_putF (D := K.1) (ci := 5) (v := .ref q_X1) (ty := .object "CodedWords$Chances") (C := RX5) (T := TX5) (N := 5) hx hb hts hinX5 tyX5 tyX5_ok nmX5 hown hK hP hD hS 0 rfl rfl 4 (by decide) (hts (.fieldLink RX5 40 "CodedWords" "chances" "LCodedWords$Chances;") (by decide +kernel)) (fun _ h9 => h9) rfl hin rfl (by decide +kernel) rfl rfl (Nat.le_of_ble_eq_true rfl) dX5_init_56 (fun H locs hP hD hS => ?_)
  have hP : va_P K.1 vwCl ((h0, .inr (5, [.ref q_X2, .ref q_X3, .ref q_X0, .ref q_X4, .ref q_X1])) :: w) H := hP
  have hD : va_D A ((h0, .inr (5, [.ref q_X2, .ref q_X3, .ref q_X0, .ref q_X4, .ref q_X1])) :: w) := hD
  have z_h0 : G h0 = 0 := hd_z hT hD
  obtain ⟨G, hg, g_h0, hT⟩ := (hd_T (x := (h0, .inr (5, [.ref q_X2, .ref q_X3, .ref q_X0, .ref q_X4, .ref q_X1]))) hT).type (kd := 6) (k := 0) (a := h0) rfl z_h0 (fun qu => absurd qu (by decide)) (fun G1 hg1 => ⟨_, _, _, _, _, rfl, hg1.at g_q_X2 (by decide), hg1.at g_q_X3 (by decide), hg1.at g_q_X0 (by decide), hg1.at g_q_X4 (by decide), hg1.at g_q_X1 (by decide)⟩)
  exact W.vret hx hb hr (fun t ht hW => ⟨⟨(G, (h0, .inr (5, [.ref q_X2, .ref q_X3, .ref q_X0, .ref q_X4, .ref q_X1])) :: w), rfl, ⟨g_h0, hG.tr hg, hT⟩, by rw [ht]; exact hP, hD⟩, hS.F ht⟩) hS.2.2 dX5_init_59

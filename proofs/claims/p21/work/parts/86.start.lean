section LAWS
variable {p : Program} {l : Launch} {e : Env} {R : Room} {s : State} {m : MethodId} {args : Array Value} {below : List Frame} {meth : Method} {c : Code} {H H0 : Heap} {locs : List Loc} {cells slots : Nat} {Q : State → Prop}
variable {cc : ByteArray} {pc : Nat} {ls : Array Slot} {rest st0 : List Value} {aa : Array Value} {A : Nat → Prop} {mc ms : Nat} {K : Cx} {w w2 : va_W}
theorem t_newX (hexec : p.tables.exec = Jvm.exec) (hb : c.code = cc) {own C : String} {T : u_T} {N ci index : Nat} {Ts : List Cond} (hts : ∀ w ∈ Ts, w.before args s = true) (hin : ∀ w ∈ u_ws C T N, w ∈ Ts) (ty : Nat → FieldType) (hty : ∀ k, k < N → parseFieldDescriptor (T k).2.2.1 = some (ty k)) (hown : s.vm.findClass own = some m.cls) (hcl : (Cond.classLink own index C).before args s = true) (hinst : (Cond.instantiable C N).before args s = true) (hini : (Cond.initialized C).before args s = true)
    (hK : va_K K.1 vwCl (tyL K) s) (hP : va_P K.1 vwCl w H) (hD : va_D A w) (hS : va_S A H0 H locs) (hA : ∀ q, H0.size ≤ q → A q) (hc : vwCl[ci]? = some (C, T, N)) {fs : List Value} (hfs : ∀ j, j < N → defaultValue (ty j) = vp_V fs j) (hcells : cells + 1 ≤ R.cells) (hslots : slots + N ≤ R.slots) (hdg : decode cc pc = .ok (.new index, 3))
    (kk : ∀ (q : Nat) (H1 : Heap), va_P K.1 vwCl w H1 → va_D A w → va_P K.1 vwCl [(q, .inr (ci, fs))] H1 → va_D A [(q, .inr (ci, fs))] → dj [(q, .inr (ci, fs))] w → va_S A H0 H1 locs → W p l e R s m args below meth c H1 locs (cells + 1) (slots + N) Q (F0 m (pc + 3) ls (.ref q :: rest))) : W p l e R s m args below meth c H locs cells slots Q (F0 m pc ls rest) :=
  va_new hexec hb hts hin ty hty hown hcl hinst hini hK hP hD hS hA hc hfs hcells hslots hdg (fun q H1 hP1 hD1 hS1 => by
    refine kk q H1 (fun k x hk => hP1 k x (tw_push hk)) hD (fun k x hk => ?_) ⟨fun i j x y hi hj _ => ?_, fun k x hk => ?_⟩ (fun i j x y hi hj hxy => ?_) hS1
    · match k, hk with
      | 0, hk => cases hk; exact hP1 w.length _ tw_last
    · match i, j, hi, hj with
      | 0, 0, _, _ => rfl
    · match k, hk with
      | 0, hk => cases hk; exact hD1.2 w.length _ tw_last
    · match i, hi with
      | 0, hi => cases hi; exact tw_fresh hD1 hj hxy.symm)
theorem l_mv {K2 : Cx} {h0 : Nat} (hr : va_Run p l e R s m args below meth c H locs cells slots mc ms (F0 m pc ls st0) rest (va_Qv (fun (u : (Nat → Nat) × MZ) => u.1 0 = h0 ∧ MI K2 u.2) (fun u t => va_P K.1 vwCl (mZ K u.1 u.2) t.heap ∧ va_D (va_A w H.size) (mZ K u.1 u.2)) (va_A w H.size) aa) (va_A w H.size)) (hD : va_D A w) (hS : va_S A H0 H locs) (hA : ∀ q, H0.size ≤ q → A q) (hP2 : va_P K.1 vwCl w2 H) (hX : dj w w2)
    (kk : ∀ (a : Nat → Nat) (z : MZ) (H1 : Heap) (locs1 : List Loc), a 0 = h0 → MI K2 z → va_P K.1 vwCl (mZ K a z) H1 → va_D A (mZ K a z) → va_P K.1 vwCl w2 H1 → dj (mZ K a z) w2 → va_S A H0 H1 locs1 → W p l e R s m args below meth c H1 locs1 (cells + mc) (slots + ms) Q (F0 m (pc + 3) ls rest)) : W p l e R s m args below meth c H locs cells slots Q (F0 m pc ls st0) := by
  have hF := kFree hD hS hA
  refine va_callv hr hS (fun q _ h => hF q h) hF (fun u t H1 locs1 ht hvm hp hB hz hk hS1 => ?_)
  exact kk u.1 u.2 H1 locs1 hp.1 hp.2 (by rw [← ht]; exact hB.1) (hB.2.weaken (fun _ q _ h => hF q.1 h)) (dj_keep hP2 hX hk) (dj_new hP2 hX hB.2) hS1
end LAWS
set_option maxHeartbeats 8000000 in
set_option maxRecDepth 100000 in
theorem whole_start {p : Program} {e : Env} {s : State} {m : MethodId} {below : List Frame} {meth : Method} {c : Code} (l : Launch) (hflags : l.flags = flags0) {b L : Nat} {xs : Nat → Int32} (hL : L ≤ 2048) (C0 : lw_At p s m meth c b L xs) : W p l e room_1 s m #[Value.ref b] below meth c s.heap [] 0 0 (lw_Z below #[Value.ref b] s) (entryFrame m ([Value.ref b] : List Value).toArray 4) := by
  obtain ⟨hx, hb, hr, hml, hown, hts, hX, hbl, hlocks, hgv⟩ := id C0
  have hb : c.code = cL_law := hb
  have hown : s.vm.findClass RL = some m.cls := hown
  have htl : ∀ w ∈ wsL_law, w.before #[Value.ref b] s = true := fun w h => hts w (wsL_law_in w h)
  have hA : ∀ q : Nat, s.heap.size ≤ q → (fun q : Nat => s.heap.size ≤ q) q := fun _ h => h
  have hN : NW s := lw_NW hts
  obtain ⟨K, hK0, hK⟩ := lw_K hts
  have hS : va_S (fun q : Nat => s.heap.size ≤ q) s.heap s.heap [] := va_S.rf
  have hP : va_P K.1 vwCl [] s.heap := fun k q h => by simp at h
  have hD : va_D (fun q : Nat => s.heap.size ≤ q) [] := ⟨fun i j p q h => by simp at h, fun k q h => by simp at h⟩
  have hl := lv_entry ([.ref b]) (n := 4) (Nat.le_of_ble_eq_true rfl)
  rw [lg_entry_eq]
  generalize (lg_sl ([.ref b]) ++ List.replicate (4 - (lg_sl ([.ref b])).length) Slot.unset).toArray = ls at hl ⊢
  have hl : lv_has ls 4 [(0, .ref b)] := hl
  refine va_new (ci := 5) (fs := [.null, .null, .null, .null, .null]) (C := RX5) (T := TX5) (N := 5) hx hb hts inX5 tyX5 tyX5_ok hown (htl (.classLink RL 7 RX5) (by decide +kernel)) (htl (.instantiable RX5 5) (by decide +kernel)) (htl (.initialized RX5) (by decide +kernel)) hK hP hD hS hA rfl (fun j hj => by rcases (show j = 0 ∨ j = 1 ∨ j = 2 ∨ j = 3 ∨ j = 4 by omega) with rfl | rfl | rfl | rfl | rfl <;> rfl) (Nat.le_of_ble_eq_true rfl) (Nat.le_of_ble_eq_true rfl) dL_law_0 (fun h1 H hP hD hS => ?_)
  have hP : va_P K.1 vwCl [(h1, .inr (5, [.null, .null, .null, .null, .null]))] H := hP
  have hD : va_D (fun q : Nat => s.heap.size ≤ q) [(h1, .inr (5, [.null, .null, .null, .null, .null]))] := hD
  refine lv_dup hx hb dL_law_3 rfl ?_
  refine l_cv (K := K) (K2 := Kw K sn0) (G := fun _ => 0) (w := [(h1, .inr (5, [.null, .null, .null, .null, .null]))]) (post := fun G1 _ => G1 h1 = 6) (va_runI (mc := 50) (ms := 689) (rm := rmX5_init) (As := []) (rest := [.ref h1]) ⟨hx, hb, hml, hown, htl⟩ (k_X5_init l hK0 H.size) (cwI 0 htl gL_law_X5_init rfl rfl rfl (htl (.initialized RX5) (by decide +kernel)) (htl (.methodLink RL 9 yX5_init) (by decide +kernel)) (htl (.instanceMethod yX5_init) (by decide +kernel)) rfl (by decide +kernel) ⟨Nat.le_of_ble_eq_true rfl, Nat.le_of_ble_eq_true rfl⟩) (kPreS hP hK hD hN) rfl rfl hl.1 rfl (lv_room (Nat.le_of_ble_eq_true rfl)) dL_law_4 ⟨Nat.le_of_ble_eq_true rfl, Nat.le_of_ble_eq_true rfl⟩) hD hS hA (fun G w H locs g_h1 hT hP hD hS => ?_)
  refine lv_astore_n (lv' := [(1, .ref h1), (0, .ref b)]) hx hb dL_law_7 rfl hl (by decide) rfl (fun ls hl => ?_)
  refine t_newX hx hb hts inX6 tyX6 tyX6_ok hown (htl (.classLink RL 10 RX6) (by decide +kernel)) (htl (.instantiable RX6 12) (by decide +kernel)) (htl (.initialized RX6) (by decide +kernel)) hK hP hD hS hA (ci := 6) (fs := [.int 0, .null, .null, .int 0, .null, .null, .null, .null, .int 0, .null, .null, .null]) (C := RX6) (T := TX6) (N := 12) rfl (fun j hj => by rcases (show j = 0 ∨ j = 1 ∨ j = 2 ∨ j = 3 ∨ j = 4 ∨ j = 5 ∨ j = 6 ∨ j = 7 ∨ j = 8 ∨ j = 9 ∨ j = 10 ∨ j = 11 by omega) with rfl | rfl | rfl | rfl | rfl | rfl | rfl | rfl | rfl | rfl | rfl | rfl <;> rfl) (Nat.le_of_ble_eq_true rfl) (Nat.le_of_ble_eq_true rfl) dL_law_8 (fun h2 H hP hD hPm hDm hdj hS => ?_)
  refine lv_dup hx hb dL_law_11 rfl ?_
  refine l_mv (K := K) (K2 := Kw K sn0) (h0 := h2) (w := [(h2, .inr (6, [.int 0, .null, .null, .int 0, .null, .null, .null, .null, .int 0, .null, .null, .null]))]) (w2 := w) (va_runI (mc := 9) (ms := 764) (rm := rmX6_init) (As := []) (rest := [.ref h2]) ⟨hx, hb, hml, hown, htl⟩ (k_X6_init l H.size) (cwI 0 htl gL_law_X6_init rfl rfl rfl (htl (.initialized RX6) (by decide +kernel)) (htl (.methodLink RL 12 yX6_init) (by decide +kernel)) (htl (.instanceMethod yX6_init) (by decide +kernel)) rfl (by decide +kernel) ⟨Nat.le_of_ble_eq_true rfl, Nat.le_of_ble_eq_true rfl⟩) (kPreS hPm hK hDm hN) rfl rfl hl.1 rfl (lv_room (Nat.le_of_ble_eq_true rfl)) dL_law_12 ⟨Nat.le_of_ble_eq_true rfl, Nat.le_of_ble_eq_true rfl⟩) hDm hS hA hP hdj (fun a z H locs ha hM hPm hDm hP hdj hS => ?_)
  refine lv_astore_n (lv' := [(2, .ref h2), (1, .ref h1), (0, .ref b)]) hx hb dL_law_15 rfl hl (by decide) rfl (fun ls hl => ?_)
  refine lv_iconst (v := 0) hx hb dL_law_16 (by decide) ?_
  refine lv_istore_n (lv' := [(3, .int 0), (2, .ref h2), (1, .ref h1), (0, .ref b)]) hx hb dL_law_17 rfl hl (by decide) rfl (fun ls hl => ?_)
  have hl : lv_has ls 4 [(0, .ref b), (1, .ref h1), (2, .ref h2), (3, .int 0)] := lv_sub hl [3, 2, 1, 0] rfl
  rw [← ha] at hl
  exact law_loop hL C0 hN (L + 1) (Kw K sn0) 0 _ _ G w a z h1 H locs hK (by decide) (by show (0 : Int) ≤ _; omega) (by show ((L : Int) - 0).toNat < _; omega) (by decide) (by decide) hT g_h1 hM hP hD hPm hDm hdj.sym hS ls hl

abbrev rmJ7_fill_53178 : Room := { frames := 0, cells := 0, slots := 0, locals := 0 }
set_option maxHeartbeats 4000000 in
set_option maxRecDepth 100000 in
theorem k_J7_fill_53178 (l : Launch) {K : Cx} {G0 : Nat → Nat} {w0 : va_W} (hT : TH K G0 w0) (sz : Nat) {h0 : Nat} {kd0 n0 : Nat} (g_h0 : G0 h0 = kd0) (n_h0 : iaLen kd0 = some n0) (pq1 : Int32)  : Cv l K yJ7_fill_53178 wsJ7_fill_53178 rmJ7_fill_53178 0 0 [.ref h0, .int pq1] G0 w0 sz (fun _ w1 => kpA w0 w1) := by
  refine va_MetF (cc := cJ7_fill_53178) (maxL := 4) (ret := none) (by decide +kernel) rfl ?_
  intro p e s m args below meth c s₁ B hml hv
  obtain ⟨rfl, hsz, hP, hK, hD0, hN⟩ := hv
  have hx := B.exec
  have hb := B.bytes
  have hr := B.returns
  have hts := atoms_spec (ws := wsJ7_fill_53178) B.pre
  have hown : s.vm.findClass RJ7 = some m.cls := findClass_of_methodNamed B.named
  have hlocks := B.notSynchronized
  subst hsz
  have hD := hD0.self (sz := s.heap.size)
  generalize hAe : va_A w0 s.heap.size = A at hD ⊢
  have hA : ∀ q : Nat, s.heap.size ≤ q → A q := fun q h => by rw [← hAe]; exact Or.inr h
  have hS : va_S A s.heap s.heap [] := va_S.rf
  have hG : gLe G0 G0 := gLe.rf
  have hl := lv_entry ([.ref h0, .int pq1]) (n := 4) (Nat.le_of_ble_eq_true rfl)
  rw [lg_entry_eq]
  generalize (lg_sl ([.ref h0, .int pq1]) ++ List.replicate (4 - (lg_sl ([.ref h0, .int pq1])).length) Slot.unset).toArray = ls at hl ⊢
  have hl : lv_has ls 4 [(0, .ref h0), (1, .int pq1)] := hl
  have hJ5 : ∀ (n5 : Nat) (G : Nat → Nat) (w : va_W) (H : Heap) (locs : List Loc) (zq2 : Int32) (zq3 : Int32), (gLe G0 G) → (TH K G w) → (va_P K.1 vwCl w H) → (va_D A w) → (va_S A s.heap H locs) → (G h0 = kd0) → (0 ≤ zq2.toInt) → (zq3 = Int32.ofNat n0) → (kpA w0 w) → ((2147483647 - zq2.toInt).toNat < n5) → ∀ (ls : Array Slot), lv_has ls 4 [(0, .ref h0), (1, .int pq1), (2, .int zq2), (3, .int zq3)] → W p l e rmJ7_fill_53178 s m [.ref h0, .int pq1].toArray below meth c H locs 0 0 (MQ below (va_Qv (fun (u : (Nat → Nat) × va_W) => (fun _ w1 => kpA w0 w1) u.1 u.2 ∧ gLe G0 u.1 ∧ TH (K) u.1 u.2) (fun u t => va_P K.1 vwCl u.2 t.heap ∧ va_D A u.2) A) [.ref h0, .int pq1].toArray s 0 0 A) (F0 m 5 ls []) := by
    intro n5
    induction n5 with
    | zero =>
      intro G w H locs zq2 zq3 hG hT hP hD hS g_h0 i5_0 i5_1 i5_2 hm5 ls hl
      exact absurd hm5 (Nat.not_lt_zero _)
    | succ n5 ih5 =>
      intro G w H locs zq2 zq3 hG hT hP hD hS g_h0 i5_0 i5_1 i5_2 hm5 ls hl
      refine lv_iload_n hx hb dJ7_fill_53178_5 rfl (lv_at hl 2 rfl) ?_
      refine lv_iload_n hx hb dJ7_fill_53178_6 rfl (lv_at hl 3 rfl) ?_
      refine lv_icmp_ge (tgt := 20) hx hb dJ7_fill_53178_7 (by decide) (fun cq7 => ?_) (fun cq7 => ?_)
      · skip
        exact W.vret hx hb hr (fun t ht hW => ⟨⟨(G, w), rfl, ⟨i5_2, hG, hT⟩, by rw [ht]; exact hP, hD⟩, hS.F ht⟩) hS.2.2 dJ7_fill_53178_20
      · skip
        refine lv_aload_n hx hb dJ7_fill_53178_10 rfl (lv_at hl 0 rfl) ?_
        refine lv_iload_n hx hb dJ7_fill_53178_11 rfl (lv_at hl 2 rfl) ?_
        refine lv_iload_n hx hb dJ7_fill_53178_12 rfl (lv_at hl 1 rfl) ?_
        refine t_iast hx hb hK hP hD hS hT g_h0 n_h0 (iq_inr i5_0 cq7 (by rw [i5_1]; have h := ia_le n_h0; show (nI n0).toInt ≤ _; rw [nI_toInt (by omega)]; omega)) dJ7_fill_53178_13 (fun w H locs hT hP hD hS hkp => ?_)
        obtain ⟨vq14, eq14⟩ : ∃ y : Int32, y = zq2 + 1 := ⟨_, rfl⟩
        refine lv_iinc (v := vq14) (lv' := [(2, .int vq14), (0, .ref h0), (1, .int pq1), (3, .int zq3)]) hx hb dJ7_fill_53178_14 hl (k := 2) rfl (by rw [eq14]; rfl) (by decide) rfl (fun ls hl => ?_)
        refine lv_goto (tgt := 5) hx hb dJ7_fill_53178_17 (by decide) ?_
        exact ih5 _ _ _ _ vq14 zq3 hG hT hP hD hS g_h0 (by first | exact iq_nn1 i5_0 cq7 eq14 | decide) (by first | exact i5_1 | exact eq3) (by first | exact (fun j b o h => hkp _ _ _ (i5_2 j b o h)) | exact (fun _ _ _ h => h)) (iq_up hm5 cq7 eq14) _ (lv_sub hl [1, 2, 0, 3] rfl)
  refine lv_iconst (v := 0) hx hb dJ7_fill_53178_0 (by decide) ?_
  refine lv_istore_n (lv' := [(2, .int 0), (0, .ref h0), (1, .int pq1)]) hx hb dJ7_fill_53178_1 rfl hl (by decide) rfl (fun ls hl => ?_)
  refine lv_aload_n hx hb dJ7_fill_53178_2 rfl (lv_at hl 1 rfl) ?_
  refine t_alen (v := Int32.ofNat n0) hx hb hK hP hT g_h0 n_h0 rfl dJ7_fill_53178_3 ?_
  refine lv_topi (fun vq3 eq3 => ?_)
  refine lv_istore_n (lv' := [(3, .int vq3), (2, .int 0), (0, .ref h0), (1, .int pq1)]) hx hb dJ7_fill_53178_4 rfl hl (by decide) rfl (fun ls hl => ?_)
  exact hJ5 ((2147483647 - (0 : Int32).toInt).toNat + 1) _ _ _ _ 0 vq3 hG hT hP hD hS g_h0 (by first | exact iq_nn1 i5_0 cq7 eq14 | decide) (by first | exact i5_1 | exact eq3) (by first | exact (fun j b o h => hkp _ _ _ (i5_2 j b o h)) | exact (fun _ _ _ h => h)) (Nat.lt_succ_self _) _ (lv_sub hl [2, 3, 1, 0] rfl)
abbrev rmX2_top : Room := { frames := 0, cells := 0, slots := 0, locals := 0 }
set_option maxHeartbeats 4000000 in
set_option maxRecDepth 100000 in
theorem k_X2_top (l : Launch) {K : Cx} {G0 : Nat → Nat} {w0 : va_W} (hT : TH K G0 w0) {h0 : Nat} (g_h0 : G0 h0 = 3)  : Ri l K yX2_top wsX2_top rmX2_top [.ref h0] w0 (fun r : Int32 => ∀ x y : Int32, cell3 w0 h0 x y → r = (1 <<< (y &&& 31)) - 1) := by
  refine Met.ofW (cc := cX2_top) (maxL := 1) (ret := (some .int)) (by decide) rfl ?_
  intro p e s m args below meth c s₁ B hml hv
  obtain ⟨rfl, hP, hK, hD, hN⟩ := hv
  have hx := B.exec
  have hb := B.bytes
  have hr := B.returns
  have hts := atoms_spec (ws := wsX2_top) B.pre
  have hown : s.vm.findClass RX2 = some m.cls := findClass_of_methodNamed B.named
  have hlocks := B.notSynchronized
  have hinX2 : ∀ w ∈ wsX20, w ∈ wsX2_top := by decide +kernel
  have hS : va_S (fun _ => False) s.heap s.heap [] := va_S.rf
  have hl := lv_entry ([.ref h0]) (n := 1) (Nat.le_of_ble_eq_true rfl)
  rw [lg_entry_eq]
  generalize (lg_sl ([.ref h0]) ++ List.replicate (1 - (lg_sl ([.ref h0])).length) Slot.unset).toArray = ls at hl ⊢
  have hl : lv_has ls 1 [(0, .ref h0)] := hl
  refine lv_iconst (v := 1) hx hb dX2_top_0 (by decide) ?_
  refine lv_aload_n hx hb dX2_top_1 rfl (lv_at hl 0 rfl) ?_
  obtain ⟨kq2, xq2, yq2, qq2, rq2, hk2, g_q2, g_r2⟩ := hT.k3 g_h0
  refine va_get (D := K.1) (ci := 2) (v := .int yq2) (C := RX2) (T := TX2) (N := 4) hx hb hts hinX2 hown hK hP kq2 hk2 rfl 1 (by decide) (hts (.fieldLink RX2 15 "CodedWords$Code" "width" "I") (by decide +kernel)) (fun _ h9 => h9) rfl dX2_top_2 ?_
  refine lv_ishl hx hb dX2_top_5 ?_
  refine lv_topi (fun vq5 eq5 => ?_)
  refine lv_iconst (v := 1) hx hb dX2_top_6 (by decide) ?_
  refine lv_isub hx hb dX2_top_7 ?_
  refine lv_topi (fun vq7 eq7 => ?_)
  exact W.iret (v := vq7) hx hb hr (fun t ht hW => ⟨⟨vq7, (), rfl, fun x y hc => by have h9 := (hc.eq hD hk2).2; rw [eq7, eq5, h9], trivial⟩, hS.F ht⟩) hS.2.2 dX2_top_8
abbrev rmX2_reach : Room := { frames := 1, cells := 0, slots := 0, locals := 22 }
set_option maxHeartbeats 4000000 in
set_option maxRecDepth 100000 in
theorem k_X2_reach (l : Launch) {K : Cx} {G0 : Nat → Nat} {w0 : va_W} (hT : TH K G0 w0) {h0 : Nat} (g_h0 : G0 h0 = 3)  : Ri l K yX2_reach wsX2_reach rmX2_reach [.ref h0] w0 (fun r : Int32 => ∀ x y : Int32, cell3 w0 h0 x y → 1 ≤ x.toInt → r = ((1 <<< (y &&& 31)) - 1) / x) := by
  refine Met.ofW (cc := cX2_reach) (maxL := 1) (ret := (some .int)) (by decide) rfl ?_
  intro p e s m args below meth c s₁ B hml hv
  obtain ⟨rfl, hP, hK, hD, hN⟩ := hv
  have hx := B.exec
  have hb := B.bytes
  have hr := B.returns
  have hts := atoms_spec (ws := wsX2_reach) B.pre
  have hown : s.vm.findClass RX2 = some m.cls := findClass_of_methodNamed B.named
  have hlocks := B.notSynchronized
  have hinX2 : ∀ w ∈ wsX20, w ∈ wsX2_reach := by decide +kernel
  have hS : va_S (fun _ => False) s.heap s.heap [] := va_S.rf
  have hl := lv_entry ([.ref h0]) (n := 1) (Nat.le_of_ble_eq_true rfl)
  rw [lg_entry_eq]
  generalize (lg_sl ([.ref h0]) ++ List.replicate (1 - (lg_sl ([.ref h0])).length) Slot.unset).toArray = ls at hl ⊢
  have hl : lv_has ls 1 [(0, .ref h0)] := hl
  refine lv_aload_n hx hb dX2_reach_0 rfl (lv_at hl 0 rfl) ?_
  refine r_i (va_runV (As := []) (rest := []) ⟨hx, hb, hml, hown, hts⟩ (k_X2_top l hT g_h0) (cwV 0 hts gX2_reach_X2_top rfl rfl rfl (by decide +kernel) ⟨Nat.le_of_ble_eq_true rfl, Nat.le_of_ble_eq_true rfl⟩) (rPreV (hT.rcv3 g_h0 hK hP) hP hK hD hN) rfl rfl hl.1 rfl (lv_room (Nat.le_of_ble_eq_true rfl)) dX2_reach_1 ⟨Nat.le_of_ble_eq_true rfl, Nat.le_of_ble_eq_true rfl⟩) hP hS (fun rq1 H locs hp1 hP hS => ?_)
  refine lv_i2l (v := (rq1 : Int32).toInt64) hx hb dX2_reach_4 rfl ?_
  refine lv_topl (fun vq4 eq4 => ?_)
  refine lv_aload_n hx hb dX2_reach_5 rfl (lv_at hl 0 rfl) ?_
  obtain ⟨kq6, xq6, yq6, qq6, rq6, hk6, g_q6, g_r6⟩ := hT.k3 g_h0
  refine va_get (D := K.1) (ci := 2) (v := .int xq6) (C := RX2) (T := TX2) (N := 4) hx hb hts hinX2 hown hK hP kq6 hk6 rfl 0 (by decide) (hts (.fieldLink RX2 9 "CodedWords$Code" "a" "I") (by decide +kernel)) (fun _ h9 => h9) rfl dX2_reach_6 ?_
  refine r_l (va_runSN (As := [.long vq4, .int xq6]) (rest := []) ⟨hx, hb, hml, hown, hts⟩ (k_X5_cut l vq4 xq6) ⟨va_cnB 2 hts gX2_reach_X5_cut_n50 rfl rfl rfl (hN.m (o := RX5) (by decide +kernel)) (hts (.initialized RX5) (by decide +kernel)) (by decide +kernel) ⟨Nat.le_of_ble_eq_true rfl, Nat.le_of_ble_eq_true rfl⟩, hts (.static yX5_cut) (by decide +kernel), trivial⟩ (pPreS) rfl rfl hl.1 rfl (lv_room (Nat.le_of_ble_eq_true rfl)) dX2_reach_9 ⟨Nat.le_of_ble_eq_true rfl, Nat.le_of_ble_eq_true rfl⟩) hP hS (fun rq9 H locs hp9 hP hS => ?_)
  refine lv_l2i (v := (rq9 : Int64).toInt32) hx hb dX2_reach_12 rfl ?_
  refine lv_topi (fun vq12 eq12 => ?_)
  exact W.iret (v := vq12) hx hb hr (fun t ht hW => ⟨⟨vq12, (), rfl, fun x y hc hx9 => by have h9 := hc.eq hD hk6; have h8 := hp1 x y hc; rw [eq12, hp9 (by rw [h9.1]; exact hx9), eq4, h8, h9.1]; exact lq_div, trivial⟩, hS.F ht⟩) hS.2.2 dX2_reach_13
abbrev rmX2_strikeCount : Room := { frames := 0, cells := 0, slots := 0, locals := 0 }
set_option maxHeartbeats 4000000 in
set_option maxRecDepth 100000 in
theorem k_X2_strikeCount (l : Launch) {K : Cx} {G0 : Nat → Nat} {w0 : va_W} (hT : TH K G0 w0) {h0 : Nat} (g_h0 : G0 h0 = 3)  : Ri l K yX2_strikeCount wsX2_strikeCount rmX2_strikeCount [.ref h0] w0 (fun _ => True) := by
  refine Met.ofW (cc := cX2_strikeCount) (maxL := 1) (ret := (some .int)) (by decide) rfl ?_
  intro p e s m args below meth c s₁ B hml hv
  obtain ⟨rfl, hP, hK, hD, hN⟩ := hv
  have hx := B.exec
  have hb := B.bytes
  have hr := B.returns
  have hts := atoms_spec (ws := wsX2_strikeCount) B.pre
  have hown : s.vm.findClass RX2 = some m.cls := findClass_of_methodNamed B.named
  have hlocks := B.notSynchronized
  have hinX2 : ∀ w ∈ wsX20, w ∈ wsX2_strikeCount := by decide +kernel
  have hS : va_S (fun _ => False) s.heap s.heap [] := va_S.rf
  have hl := lv_entry ([.ref h0]) (n := 1) (Nat.le_of_ble_eq_true rfl)
  rw [lg_entry_eq]
  generalize (lg_sl ([.ref h0]) ++ List.replicate (1 - (lg_sl ([.ref h0])).length) Slot.unset).toArray = ls at hl ⊢
  have hl : lv_has ls 1 [(0, .ref h0)] := hl
  refine lv_iconst (v := 2) hx hb dX2_strikeCount_0 (by decide) ?_
  refine lv_aload_n hx hb dX2_strikeCount_1 rfl (lv_at hl 0 rfl) ?_
  obtain ⟨kq2, xq2, yq2, qq2, rq2, hk2, g_q2, g_r2⟩ := hT.k3 g_h0
  refine va_get (D := K.1) (ci := 2) (v := .int yq2) (C := RX2) (T := TX2) (N := 4) hx hb hts hinX2 hown hK hP kq2 hk2 rfl 1 (by decide) (hts (.fieldLink RX2 15 "CodedWords$Code" "width" "I") (by decide +kernel)) (fun _ h9 => h9) rfl dX2_strikeCount_2 ?_
  refine lv_imul hx hb dX2_strikeCount_5 ?_
  refine lv_topi (fun vq5 eq5 => ?_)
  exact W.iret (v := vq5) hx hb hr (fun t ht hW => ⟨⟨vq5, (), rfl, trivial, trivial⟩, hS.F ht⟩) hS.2.2 dX2_strikeCount_6
abbrev rmX2_reaches : Room := { frames := 2, cells := 0, slots := 0, locals := 42 }
set_option maxHeartbeats 4000000 in
set_option maxRecDepth 100000 in
theorem k_X2_reaches (l : Launch) {K : Cx} {G0 : Nat → Nat} {w0 : va_W} (hT : TH K G0 w0) {h0 : Nat} (g_h0 : G0 h0 = 3) (pq1 : Int32)  : Ri l K yX2_reaches wsX2_reaches rmX2_reaches [.ref h0, .int pq1] w0 (fun _ => True) := by
  refine Met.ofW (cc := cX2_reaches) (maxL := 2) (ret := (some .boolean)) (by decide) rfl ?_
  intro p e s m args below meth c s₁ B hml hv
  obtain ⟨rfl, hP, hK, hD, hN⟩ := hv
  have hx := B.exec
  have hb := B.bytes
  have hr := B.returns
  have hts := atoms_spec (ws := wsX2_reaches) B.pre
  have hown : s.vm.findClass RX2 = some m.cls := findClass_of_methodNamed B.named
  have hlocks := B.notSynchronized
  have hS : va_S (fun _ => False) s.heap s.heap [] := va_S.rf
  have hl := lv_entry ([.ref h0, .int pq1]) (n := 2) (Nat.le_of_ble_eq_true rfl)
  rw [lg_entry_eq]
  generalize (lg_sl ([.ref h0, .int pq1]) ++ List.replicate (2 - (lg_sl ([.ref h0, .int pq1])).length) Slot.unset).toArray = ls at hl ⊢
  have hl : lv_has ls 2 [(0, .ref h0), (1, .int pq1)] := hl
  refine lv_iload_n hx hb dX2_reaches_0 rfl (lv_at hl 1 rfl) ?_
  refine lv_aload_n hx hb dX2_reaches_1 rfl (lv_at hl 0 rfl) ?_
  refine r_i (va_runV (As := []) (rest := [.int pq1]) ⟨hx, hb, hml, hown, hts⟩ (k_X2_reach l hT g_h0) (cwV 0 hts gX2_reaches_X2_reach rfl rfl rfl (by decide +kernel) ⟨Nat.le_of_ble_eq_true rfl, Nat.le_of_ble_eq_true rfl⟩) (rPreV (hT.rcv3 g_h0 hK hP) hP hK hD hN) rfl rfl hl.1 rfl (lv_room (Nat.le_of_ble_eq_true rfl)) dX2_reaches_2 ⟨Nat.le_of_ble_eq_true rfl, Nat.le_of_ble_eq_true rfl⟩) hP hS (fun rq2 H locs hp2 hP hS => ?_)
  refine lv_ineg hx hb dX2_reaches_5 ?_
  refine lv_topi (fun vq5 eq5 => ?_)
  refine lv_icmp_lt (tgt := 21) hx hb dX2_reaches_6 (by decide) (fun cq6 => ?_) (fun cq6 => ?_)
  · skip
    refine lv_iconst (v := 0) hx hb dX2_reaches_21 (by decide) ?_
    exact W.zret (v := 0) (ty := .boolean) hx hb hr (rfl) (fun t ht hW => ⟨⟨0, (), rfl, trivial, trivial⟩, hS.F ht⟩) hS.2.2 dX2_reaches_22
  · skip
    refine lv_iload_n hx hb dX2_reaches_9 rfl (lv_at hl 1 rfl) ?_
    refine lv_aload_n hx hb dX2_reaches_10 rfl (lv_at hl 0 rfl) ?_
    refine r_i (va_runV (As := []) (rest := [.int pq1]) ⟨hx, hb, hml, hown, hts⟩ (k_X2_reach l hT g_h0) (cwV 0 hts gX2_reaches_X2_reach rfl rfl rfl (by decide +kernel) ⟨Nat.le_of_ble_eq_true rfl, Nat.le_of_ble_eq_true rfl⟩) (rPreV (hT.rcv3 g_h0 hK hP) hP hK hD hN) rfl rfl hl.1 rfl (lv_room (Nat.le_of_ble_eq_true rfl)) dX2_reaches_11 ⟨Nat.le_of_ble_eq_true rfl, Nat.le_of_ble_eq_true rfl⟩) hP hS (fun rq11 H locs hp11 hP hS => ?_)
    refine lv_icmp_gt (tgt := 21) hx hb dX2_reaches_14 (by decide) (fun cq14 => ?_) (fun cq14 => ?_)
    · skip
      refine lv_iconst (v := 0) hx hb dX2_reaches_21 (by decide) ?_
      exact W.zret (v := 0) (ty := .boolean) hx hb hr (rfl) (fun t ht hW => ⟨⟨0, (), rfl, trivial, trivial⟩, hS.F ht⟩) hS.2.2 dX2_reaches_22
    · skip
      refine lv_iconst (v := 1) hx hb dX2_reaches_17 (by decide) ?_
      refine lv_goto (tgt := 22) hx hb dX2_reaches_18 (by decide) ?_
      exact W.zret (v := 1) (ty := .boolean) hx hb hr (rfl) (fun t ht hW => ⟨⟨1, (), rfl, trivial, trivial⟩, hS.F ht⟩) hS.2.2 dX2_reaches_22
abbrev rmX2_fits : Room := { frames := 2, cells := 0, slots := 0, locals := 43 }
set_option maxHeartbeats 4000000 in
set_option maxRecDepth 100000 in
theorem k_X2_fits (l : Launch) {K : Cx} {G0 : Nat → Nat} {w0 : va_W} (hT : TH K G0 w0) {h0 : Nat} (g_h0 : G0 h0 = 3) (pq1 : Int32)  : Ri l K yX2_fits wsX2_fits rmX2_fits [.ref h0, .int pq1] w0 (fun _ => True) := by
  refine Met.ofW (cc := cX2_fits) (maxL := 2) (ret := (some .boolean)) (by decide) rfl ?_
  intro p e s m args below meth c s₁ B hml hv
  obtain ⟨rfl, hP, hK, hD, hN⟩ := hv
  have hx := B.exec
  have hb := B.bytes
  have hr := B.returns
  have hts := atoms_spec (ws := wsX2_fits) B.pre
  have hown : s.vm.findClass RX2 = some m.cls := findClass_of_methodNamed B.named
  have hlocks := B.notSynchronized
  have hinX2 : ∀ w ∈ wsX20, w ∈ wsX2_fits := by decide +kernel
  have hS : va_S (fun _ => False) s.heap s.heap [] := va_S.rf
  have hl := lv_entry ([.ref h0, .int pq1]) (n := 2) (Nat.le_of_ble_eq_true rfl)
  rw [lg_entry_eq]
  generalize (lg_sl ([.ref h0, .int pq1]) ++ List.replicate (2 - (lg_sl ([.ref h0, .int pq1])).length) Slot.unset).toArray = ls at hl ⊢
  have hl : lv_has ls 2 [(0, .ref h0), (1, .int pq1)] := hl
  refine lv_iload_n hx hb dX2_fits_0 rfl (lv_at hl 1 rfl) ?_
  refine lv_aload_n hx hb dX2_fits_1 rfl (lv_at hl 0 rfl) ?_
  obtain ⟨kq2, xq2, yq2, qq2, rq2, hk2, g_q2, g_r2⟩ := hT.k3 g_h0
  refine va_get (D := K.1) (ci := 2) (v := .int xq2) (C := RX2) (T := TX2) (N := 4) hx hb hts hinX2 hown hK hP kq2 hk2 rfl 0 (by decide) (hts (.fieldLink RX2 9 "CodedWords$Code" "a" "I") (by decide +kernel)) (fun _ h9 => h9) rfl dX2_fits_2 ?_
  refine r_i (va_runSN (As := [.int pq1, .int xq2]) (rest := []) ⟨hx, hb, hml, hown, hts⟩ (k_X5_rest l pq1 xq2) ⟨va_cnB 2 hts gX2_fits_X5_rest_n57 rfl rfl rfl (hN.m (o := RX5) (by decide +kernel)) (hts (.initialized RX5) (by decide +kernel)) (by decide +kernel) ⟨Nat.le_of_ble_eq_true rfl, Nat.le_of_ble_eq_true rfl⟩, hts (.static yX5_rest) (by decide +kernel), trivial⟩ (pPreS) rfl rfl hl.1 rfl (lv_room (Nat.le_of_ble_eq_true rfl)) dX2_fits_5 ⟨Nat.le_of_ble_eq_true rfl, Nat.le_of_ble_eq_true rfl⟩) hP hS (fun rq5 H locs hp5 hP hS => ?_)
  refine lv_if_ne (tgt := 15) hx hb dX2_fits_8 (by decide) (fun cq8 => ?_) (fun cq8 => ?_)
  · skip
    refine lv_iconst (v := 0) hx hb dX2_fits_15 (by decide) ?_
    exact W.zret (v := 0) (ty := .boolean) hx hb hr (rfl) (fun t ht hW => ⟨⟨0, (), rfl, trivial, trivial⟩, hS.F ht⟩) hS.2.2 dX2_fits_16
  · skip
    refine lv_iconst (v := 1) hx hb dX2_fits_11 (by decide) ?_
    refine lv_goto (tgt := 16) hx hb dX2_fits_12 (by decide) ?_
    exact W.zret (v := 1) (ty := .boolean) hx hb hr (rfl) (fun t ht hW => ⟨⟨1, (), rfl, trivial, trivial⟩, hS.F ht⟩) hS.2.2 dX2_fits_16
abbrev rmX2_valueOf : Room := { frames := 1, cells := 0, slots := 0, locals := 22 }
set_option maxHeartbeats 4000000 in
set_option maxRecDepth 100000 in
theorem k_X2_valueOf (l : Launch) {K : Cx} {G0 : Nat → Nat} {w0 : va_W} (hT : TH K G0 w0) {h0 : Nat} (g_h0 : G0 h0 = 3) (pq1 : Int32)  : Ri l K yX2_valueOf wsX2_valueOf rmX2_valueOf [.ref h0, .int pq1] w0 (fun _ => True) := by
  refine Met.ofW (cc := cX2_valueOf) (maxL := 2) (ret := (some .int)) (by decide) rfl ?_
  intro p e s m args below meth c s₁ B hml hv
  obtain ⟨rfl, hP, hK, hD, hN⟩ := hv
  have hx := B.exec
  have hb := B.bytes
  have hr := B.returns
  have hts := atoms_spec (ws := wsX2_valueOf) B.pre
  have hown : s.vm.findClass RX2 = some m.cls := findClass_of_methodNamed B.named
  have hlocks := B.notSynchronized
  have hinX2 : ∀ w ∈ wsX20, w ∈ wsX2_valueOf := by decide +kernel
  have hS : va_S (fun _ => False) s.heap s.heap [] := va_S.rf
  have hl := lv_entry ([.ref h0, .int pq1]) (n := 2) (Nat.le_of_ble_eq_true rfl)
  rw [lg_entry_eq]
  generalize (lg_sl ([.ref h0, .int pq1]) ++ List.replicate (2 - (lg_sl ([.ref h0, .int pq1])).length) Slot.unset).toArray = ls at hl ⊢
  have hl : lv_has ls 2 [(0, .ref h0), (1, .int pq1)] := hl
  refine lv_iload_n hx hb dX2_valueOf_0 rfl (lv_at hl 1 rfl) ?_
  refine lv_i2l (v := (pq1 : Int32).toInt64) hx hb dX2_valueOf_1 rfl ?_
  refine lv_topl (fun vq1 eq1 => ?_)
  refine lv_aload_n hx hb dX2_valueOf_2 rfl (lv_at hl 0 rfl) ?_
  obtain ⟨kq3, xq3, yq3, qq3, rq3, hk3, g_q3, g_r3⟩ := hT.k3 g_h0
  refine va_get (D := K.1) (ci := 2) (v := .int xq3) (C := RX2) (T := TX2) (N := 4) hx hb hts hinX2 hown hK hP kq3 hk3 rfl 0 (by decide) (hts (.fieldLink RX2 9 "CodedWords$Code" "a" "I") (by decide +kernel)) (fun _ h9 => h9) rfl dX2_valueOf_3 ?_
  refine r_l (va_runSN (As := [.long vq1, .int xq3]) (rest := []) ⟨hx, hb, hml, hown, hts⟩ (k_X5_cut l vq1 xq3) ⟨va_cnB 2 hts gX2_valueOf_X5_cut_n50 rfl rfl rfl (hN.m (o := RX5) (by decide +kernel)) (hts (.initialized RX5) (by decide +kernel)) (by decide +kernel) ⟨Nat.le_of_ble_eq_true rfl, Nat.le_of_ble_eq_true rfl⟩, hts (.static yX5_cut) (by decide +kernel), trivial⟩ (pPreS) rfl rfl hl.1 rfl (lv_room (Nat.le_of_ble_eq_true rfl)) dX2_valueOf_6 ⟨Nat.le_of_ble_eq_true rfl, Nat.le_of_ble_eq_true rfl⟩) hP hS (fun rq6 H locs hp6 hP hS => ?_)
  refine lv_l2i (v := (rq6 : Int64).toInt32) hx hb dX2_valueOf_9 rfl ?_
  refine lv_topi (fun vq9 eq9 => ?_)
  exact W.iret (v := vq9) hx hb hr (fun t ht hW => ⟨⟨vq9, (), rfl, trivial, trivial⟩, hS.F ht⟩) hS.2.2 dX2_valueOf_10
abbrev rmX2_dueResidue : Room := { frames := 2, cells := 0, slots := 0, locals := 43 }
set_option maxHeartbeats 4000000 in
set_option maxRecDepth 100000 in
theorem k_X2_dueResidue (l : Launch) {K : Cx} {G0 : Nat → Nat} {w0 : va_W} (hT : TH K G0 w0) {h0 : Nat} (g_h0 : G0 h0 = 3) (pq1 : Int32)  : Ri l K yX2_dueResidue wsX2_dueResidue rmX2_dueResidue [.ref h0, .int pq1] w0 (fun _ => True) := by
  refine Met.ofW (cc := cX2_dueResidue) (maxL := 2) (ret := (some .int)) (by decide) rfl ?_
  intro p e s m args below meth c s₁ B hml hv
  obtain ⟨rfl, hP, hK, hD, hN⟩ := hv
  have hx := B.exec
  have hb := B.bytes
  have hr := B.returns
  have hts := atoms_spec (ws := wsX2_dueResidue) B.pre
  have hown : s.vm.findClass RX2 = some m.cls := findClass_of_methodNamed B.named
  have hlocks := B.notSynchronized
  have hS : va_S (fun _ => False) s.heap s.heap [] := va_S.rf
  have hl := lv_entry ([.ref h0, .int pq1]) (n := 2) (Nat.le_of_ble_eq_true rfl)
  rw [lg_entry_eq]
  generalize (lg_sl ([.ref h0, .int pq1]) ++ List.replicate (2 - (lg_sl ([.ref h0, .int pq1])).length) Slot.unset).toArray = ls at hl ⊢
  have hl : lv_has ls 2 [(0, .ref h0), (1, .int pq1)] := hl
  refine lv_aload_n hx hb dX2_dueResidue_0 rfl (lv_at hl 0 rfl) ?_
  refine lv_iload_n hx hb dX2_dueResidue_1 rfl (lv_at hl 1 rfl) ?_
  refine r_i (va_runV (As := [.int pq1]) (rest := []) ⟨hx, hb, hml, hown, hts⟩ (k_X2_valueOf l hT g_h0 pq1) (cwV 1 hts gX2_dueResidue_X2_valueOf rfl rfl rfl (by decide +kernel) ⟨Nat.le_of_ble_eq_true rfl, Nat.le_of_ble_eq_true rfl⟩) (rPreV (hT.rcv3 g_h0 hK hP) hP hK hD hN) rfl rfl hl.1 rfl (lv_room (Nat.le_of_ble_eq_true rfl)) dX2_dueResidue_2 ⟨Nat.le_of_ble_eq_true rfl, Nat.le_of_ble_eq_true rfl⟩) hP hS (fun rq2 H locs hp2 hP hS => ?_)
  refine lv_bipush (v := 15) hx hb dX2_dueResidue_5 (by decide) ?_
  refine r_i (va_runSN (As := [.int rq2, .int 15]) (rest := []) ⟨hx, hb, hml, hown, hts⟩ (k_X5_rest l rq2 15) ⟨va_cnB 2 hts gX2_dueResidue_X5_rest_n57 rfl rfl rfl (hN.m (o := RX5) (by decide +kernel)) (hts (.initialized RX5) (by decide +kernel)) (by decide +kernel) ⟨Nat.le_of_ble_eq_true rfl, Nat.le_of_ble_eq_true rfl⟩, hts (.static yX5_rest) (by decide +kernel), trivial⟩ (pPreS) rfl rfl hl.1 rfl (lv_room (Nat.le_of_ble_eq_true rfl)) dX2_dueResidue_7 ⟨Nat.le_of_ble_eq_true rfl, Nat.le_of_ble_eq_true rfl⟩) hP hS (fun rq7 H locs hp7 hP hS => ?_)
  exact W.iret (v := rq7) hx hb hr (fun t ht hW => ⟨⟨rq7, (), rfl, trivial, trivial⟩, hS.F ht⟩) hS.2.2 dX2_dueResidue_10
abbrev rmX2_isSound : Room := { frames := 3, cells := 0, slots := 0, locals := 64 }
set_option maxHeartbeats 4000000 in
set_option maxRecDepth 100000 in
theorem k_X2_isSound (l : Launch) {K : Cx} {G0 : Nat → Nat} {w0 : va_W} (hT : TH K G0 w0) {h0 : Nat} (g_h0 : G0 h0 = 3) (pq1 : Int32)  : Ri l K yX2_isSound wsX2_isSound rmX2_isSound [.ref h0, .int pq1] w0 (fun _ => True) := by
  refine Met.ofW (cc := cX2_isSound) (maxL := 2) (ret := (some .boolean)) (by decide) rfl ?_
  intro p e s m args below meth c s₁ B hml hv
  obtain ⟨rfl, hP, hK, hD, hN⟩ := hv
  have hx := B.exec
  have hb := B.bytes
  have hr := B.returns
  have hts := atoms_spec (ws := wsX2_isSound) B.pre
  have hown : s.vm.findClass RX2 = some m.cls := findClass_of_methodNamed B.named
  have hlocks := B.notSynchronized
  have hS : va_S (fun _ => False) s.heap s.heap [] := va_S.rf
  have hl := lv_entry ([.ref h0, .int pq1]) (n := 2) (Nat.le_of_ble_eq_true rfl)
  rw [lg_entry_eq]
  generalize (lg_sl ([.ref h0, .int pq1]) ++ List.replicate (2 - (lg_sl ([.ref h0, .int pq1])).length) Slot.unset).toArray = ls at hl ⊢
  have hl : lv_has ls 2 [(0, .ref h0), (1, .int pq1)] := hl
  refine lv_aload_n hx hb dX2_isSound_0 rfl (lv_at hl 0 rfl) ?_
  refine lv_iload_n hx hb dX2_isSound_1 rfl (lv_at hl 1 rfl) ?_
  refine r_i (va_runV (As := [.int pq1]) (rest := []) ⟨hx, hb, hml, hown, hts⟩ (k_X2_fits l hT g_h0 pq1) (cwV 1 hts gX2_isSound_X2_fits rfl rfl rfl (by decide +kernel) ⟨Nat.le_of_ble_eq_true rfl, Nat.le_of_ble_eq_true rfl⟩) (rPreV (hT.rcv3 g_h0 hK hP) hP hK hD hN) rfl rfl hl.1 rfl (lv_room (Nat.le_of_ble_eq_true rfl)) dX2_isSound_2 ⟨Nat.le_of_ble_eq_true rfl, Nat.le_of_ble_eq_true rfl⟩) hP hS (fun rq2 H locs hp2 hP hS => ?_)
  refine lv_if_eq (tgt := 29) hx hb dX2_isSound_5 (by decide) (fun cq5 => ?_) (fun cq5 => ?_)
  · skip
    refine lv_iconst (v := 0) hx hb dX2_isSound_29 (by decide) ?_
    exact W.zret (v := 0) (ty := .boolean) hx hb hr (rfl) (fun t ht hW => ⟨⟨0, (), rfl, trivial, trivial⟩, hS.F ht⟩) hS.2.2 dX2_isSound_30
  · skip
    refine lv_iload_n hx hb dX2_isSound_8 rfl (lv_at hl 1 rfl) ?_
    refine lv_aload_n hx hb dX2_isSound_9 rfl (lv_at hl 0 rfl) ?_
    refine r_i (va_runV (As := []) (rest := [.int pq1]) ⟨hx, hb, hml, hown, hts⟩ (k_X2_top l hT g_h0) (cwV 0 hts gX2_isSound_X2_top rfl rfl rfl (by decide +kernel) ⟨Nat.le_of_ble_eq_true rfl, Nat.le_of_ble_eq_true rfl⟩) (rPreV (hT.rcv3 g_h0 hK hP) hP hK hD hN) rfl rfl hl.1 rfl (lv_room (Nat.le_of_ble_eq_true rfl)) dX2_isSound_10 ⟨Nat.le_of_ble_eq_true rfl, Nat.le_of_ble_eq_true rfl⟩) hP hS (fun rq10 H locs hp10 hP hS => ?_)
    refine lv_ineg hx hb dX2_isSound_13 ?_
    refine lv_topi (fun vq13 eq13 => ?_)
    refine lv_icmp_lt (tgt := 29) hx hb dX2_isSound_14 (by decide) (fun cq14 => ?_) (fun cq14 => ?_)
    · skip
      refine lv_iconst (v := 0) hx hb dX2_isSound_29 (by decide) ?_
      exact W.zret (v := 0) (ty := .boolean) hx hb hr (rfl) (fun t ht hW => ⟨⟨0, (), rfl, trivial, trivial⟩, hS.F ht⟩) hS.2.2 dX2_isSound_30
    · skip
      refine lv_iload_n hx hb dX2_isSound_17 rfl (lv_at hl 1 rfl) ?_
      refine lv_aload_n hx hb dX2_isSound_18 rfl (lv_at hl 0 rfl) ?_
      refine r_i (va_runV (As := []) (rest := [.int pq1]) ⟨hx, hb, hml, hown, hts⟩ (k_X2_top l hT g_h0) (cwV 0 hts gX2_isSound_X2_top rfl rfl rfl (by decide +kernel) ⟨Nat.le_of_ble_eq_true rfl, Nat.le_of_ble_eq_true rfl⟩) (rPreV (hT.rcv3 g_h0 hK hP) hP hK hD hN) rfl rfl hl.1 rfl (lv_room (Nat.le_of_ble_eq_true rfl)) dX2_isSound_19 ⟨Nat.le_of_ble_eq_true rfl, Nat.le_of_ble_eq_true rfl⟩) hP hS (fun rq19 H locs hp19 hP hS => ?_)
      refine lv_icmp_gt (tgt := 29) hx hb dX2_isSound_22 (by decide) (fun cq22 => ?_) (fun cq22 => ?_)
      · skip
        refine lv_iconst (v := 0) hx hb dX2_isSound_29 (by decide) ?_
        exact W.zret (v := 0) (ty := .boolean) hx hb hr (rfl) (fun t ht hW => ⟨⟨0, (), rfl, trivial, trivial⟩, hS.F ht⟩) hS.2.2 dX2_isSound_30
      · skip
        refine lv_iconst (v := 1) hx hb dX2_isSound_25 (by decide) ?_
        refine lv_goto (tgt := 30) hx hb dX2_isSound_26 (by decide) ?_
        exact W.zret (v := 1) (ty := .boolean) hx hb hr (rfl) (fun t ht hW => ⟨⟨1, (), rfl, trivial, trivial⟩, hS.F ht⟩) hS.2.2 dX2_isSound_30
abbrev rmX2_isRight : Room := { frames := 4, cells := 0, slots := 0, locals := 85 }
set_option maxHeartbeats 4000000 in
set_option maxRecDepth 100000 in
theorem k_X2_isRight (l : Launch) {K : Cx} {G0 : Nat → Nat} {w0 : va_W} (hT : TH K G0 w0) {h0 : Nat} (g_h0 : G0 h0 = 3) (pq1 : Int32) (pq2 : Int32)  : Ri l K yX2_isRight wsX2_isRight rmX2_isRight [.ref h0, .int pq1, .int pq2] w0 (fun _ => True) := by
  refine Met.ofW (cc := cX2_isRight) (maxL := 3) (ret := (some .boolean)) (by decide) rfl ?_
  intro p e s m args below meth c s₁ B hml hv
  obtain ⟨rfl, hP, hK, hD, hN⟩ := hv
  have hx := B.exec
  have hb := B.bytes
  have hr := B.returns
  have hts := atoms_spec (ws := wsX2_isRight) B.pre
  have hown : s.vm.findClass RX2 = some m.cls := findClass_of_methodNamed B.named
  have hlocks := B.notSynchronized
  have hS : va_S (fun _ => False) s.heap s.heap [] := va_S.rf
  have hl := lv_entry ([.ref h0, .int pq1, .int pq2]) (n := 3) (Nat.le_of_ble_eq_true rfl)
  rw [lg_entry_eq]
  generalize (lg_sl ([.ref h0, .int pq1, .int pq2]) ++ List.replicate (3 - (lg_sl ([.ref h0, .int pq1, .int pq2])).length) Slot.unset).toArray = ls at hl ⊢
  have hl : lv_has ls 3 [(0, .ref h0), (1, .int pq1), (2, .int pq2)] := hl
  refine lv_aload_n hx hb dX2_isRight_0 rfl (lv_at hl 0 rfl) ?_
  refine lv_iload_n hx hb dX2_isRight_1 rfl (lv_at hl 1 rfl) ?_
  refine r_i (va_runV (As := [.int pq1]) (rest := []) ⟨hx, hb, hml, hown, hts⟩ (k_X2_isSound l hT g_h0 pq1) (cwV 1 hts gX2_isRight_X2_isSound rfl rfl rfl (by decide +kernel) ⟨Nat.le_of_ble_eq_true rfl, Nat.le_of_ble_eq_true rfl⟩) (rPreV (hT.rcv3 g_h0 hK hP) hP hK hD hN) rfl rfl hl.1 rfl (lv_room (Nat.le_of_ble_eq_true rfl)) dX2_isRight_2 ⟨Nat.le_of_ble_eq_true rfl, Nat.le_of_ble_eq_true rfl⟩) hP hS (fun rq2 H locs hp2 hP hS => ?_)
  refine lv_if_eq (tgt := 21) hx hb dX2_isRight_5 (by decide) (fun cq5 => ?_) (fun cq5 => ?_)
  · skip
    refine lv_iconst (v := 0) hx hb dX2_isRight_21 (by decide) ?_
    exact W.zret (v := 0) (ty := .boolean) hx hb hr (rfl) (fun t ht hW => ⟨⟨0, (), rfl, trivial, trivial⟩, hS.F ht⟩) hS.2.2 dX2_isRight_22
  · skip
    refine lv_aload_n hx hb dX2_isRight_8 rfl (lv_at hl 0 rfl) ?_
    refine lv_iload_n hx hb dX2_isRight_9 rfl (lv_at hl 1 rfl) ?_
    refine r_i (va_runV (As := [.int pq1]) (rest := []) ⟨hx, hb, hml, hown, hts⟩ (k_X2_dueResidue l hT g_h0 pq1) (cwV 1 hts gX2_isRight_X2_dueResidue rfl rfl rfl (by decide +kernel) ⟨Nat.le_of_ble_eq_true rfl, Nat.le_of_ble_eq_true rfl⟩) (rPreV (hT.rcv3 g_h0 hK hP) hP hK hD hN) rfl rfl hl.1 rfl (lv_room (Nat.le_of_ble_eq_true rfl)) dX2_isRight_10 ⟨Nat.le_of_ble_eq_true rfl, Nat.le_of_ble_eq_true rfl⟩) hP hS (fun rq10 H locs hp10 hP hS => ?_)
    refine lv_iload_n hx hb dX2_isRight_13 rfl (lv_at hl 2 rfl) ?_
    refine lv_icmp_ne (tgt := 21) hx hb dX2_isRight_14 (by decide) (fun cq14 => ?_) (fun cq14 => ?_)
    · skip
      refine lv_iconst (v := 0) hx hb dX2_isRight_21 (by decide) ?_
      exact W.zret (v := 0) (ty := .boolean) hx hb hr (rfl) (fun t ht hW => ⟨⟨0, (), rfl, trivial, trivial⟩, hS.F ht⟩) hS.2.2 dX2_isRight_22
    · skip
      refine lv_iconst (v := 1) hx hb dX2_isRight_17 (by decide) ?_
      refine lv_goto (tgt := 22) hx hb dX2_isRight_18 (by decide) ?_
      exact W.zret (v := 1) (ty := .boolean) hx hb hr (rfl) (fun t ht hW => ⟨⟨1, (), rfl, trivial, trivial⟩, hS.F ht⟩) hS.2.2 dX2_isRight_22
abbrev rmX2_wordOf : Room := { frames := 1, cells := 0, slots := 0, locals := 20 }
set_option maxHeartbeats 4000000 in
set_option maxRecDepth 100000 in
theorem k_X2_wordOf (l : Launch) {K : Cx} {G0 : Nat → Nat} {w0 : va_W} (hT : TH K G0 w0) {h0 : Nat} (g_h0 : G0 h0 = 3) (pq1 : Int32)  : Ri l K yX2_wordOf wsX2_wordOf rmX2_wordOf [.ref h0, .int pq1] w0 (fun _ => True) := by
  refine Met.ofW (cc := cX2_wordOf) (maxL := 2) (ret := (some .int)) (by decide) rfl ?_
  intro p e s m args below meth c s₁ B hml hv
  obtain ⟨rfl, hP, hK, hD, hN⟩ := hv
  have hx := B.exec
  have hb := B.bytes
  have hr := B.returns
  have hts := atoms_spec (ws := wsX2_wordOf) B.pre
  have hown : s.vm.findClass RX2 = some m.cls := findClass_of_methodNamed B.named
  have hlocks := B.notSynchronized
  have hinX2 : ∀ w ∈ wsX20, w ∈ wsX2_wordOf := by decide +kernel
  have hS : va_S (fun _ => False) s.heap s.heap [] := va_S.rf
  have hl := lv_entry ([.ref h0, .int pq1]) (n := 2) (Nat.le_of_ble_eq_true rfl)
  rw [lg_entry_eq]
  generalize (lg_sl ([.ref h0, .int pq1]) ++ List.replicate (2 - (lg_sl ([.ref h0, .int pq1])).length) Slot.unset).toArray = ls at hl ⊢
  have hl : lv_has ls 2 [(0, .ref h0), (1, .int pq1)] := hl
  refine lv_iload_n hx hb dX2_wordOf_0 rfl (lv_at hl 1 rfl) ?_
  refine r_i (va_runSN (As := [.int pq1]) (rest := []) ⟨hx, hb, hml, hown, hts⟩ (k_X5_isRegister l pq1) ⟨va_cnB 1 hts gX2_wordOf_X5_isRegister_n42 rfl rfl rfl (hN.m (o := RX5) (by decide +kernel)) (hts (.initialized RX5) (by decide +kernel)) (by decide +kernel) ⟨Nat.le_of_ble_eq_true rfl, Nat.le_of_ble_eq_true rfl⟩, hts (.static yX5_isRegister) (by decide +kernel), trivial⟩ (pPreS) rfl rfl hl.1 rfl (lv_room (Nat.le_of_ble_eq_true rfl)) dX2_wordOf_1 ⟨Nat.le_of_ble_eq_true rfl, Nat.le_of_ble_eq_true rfl⟩) hP hS (fun rq1 H locs hp1 hP hS => ?_)
  refine lv_if_eq (tgt := 16) hx hb dX2_wordOf_4 (by decide) (fun cq4 => ?_) (fun cq4 => ?_)
  · skip
    refine lv_iconst (v := 0) hx hb dX2_wordOf_16 (by decide) ?_
    exact W.iret (v := 0) hx hb hr (fun t ht hW => ⟨⟨0, (), rfl, trivial, trivial⟩, hS.F ht⟩) hS.2.2 dX2_wordOf_17
  · skip
    refine lv_aload_n hx hb dX2_wordOf_7 rfl (lv_at hl 0 rfl) ?_
    obtain ⟨kq8, xq8, yq8, qq8, rq8, hk8, g_q8, g_r8⟩ := hT.k3 g_h0
    refine va_get (D := K.1) (ci := 2) (v := .ref qq8) (C := RX2) (T := TX2) (N := 4) hx hb hts hinX2 hown hK hP kq8 hk8 rfl 2 (by decide) (hts (.fieldLink RX2 18 "CodedWords$Code" "words" "[I") (by decide +kernel)) (fun _ h9 => h9) rfl dX2_wordOf_8 ?_
    refine lv_iload_n hx hb dX2_wordOf_11 rfl (lv_at hl 1 rfl) ?_
    refine t_iald hx hb hK hP hT g_q8 rfl (iq_in (hp1.resolve_left cq4).2.1 (hp1.resolve_left cq4).2.2) dX2_wordOf_12 (fun vq12 => ?_)
    refine lv_goto (tgt := 17) hx hb dX2_wordOf_13 (by decide) ?_
    exact W.iret (v := vq12) hx hb hr (fun t ht hW => ⟨⟨vq12, (), rfl, trivial, trivial⟩, hS.F ht⟩) hS.2.2 dX2_wordOf_17
abbrev rmX2_residueOf : Room := { frames := 1, cells := 0, slots := 0, locals := 20 }
set_option maxHeartbeats 4000000 in
set_option maxRecDepth 100000 in
theorem k_X2_residueOf (l : Launch) {K : Cx} {G0 : Nat → Nat} {w0 : va_W} (hT : TH K G0 w0) {h0 : Nat} (g_h0 : G0 h0 = 3) (pq1 : Int32)  : Ri l K yX2_residueOf wsX2_residueOf rmX2_residueOf [.ref h0, .int pq1] w0 (fun _ => True) := by
  refine Met.ofW (cc := cX2_residueOf) (maxL := 2) (ret := (some .int)) (by decide) rfl ?_
  intro p e s m args below meth c s₁ B hml hv
  obtain ⟨rfl, hP, hK, hD, hN⟩ := hv
  have hx := B.exec
  have hb := B.bytes
  have hr := B.returns
  have hts := atoms_spec (ws := wsX2_residueOf) B.pre
  have hown : s.vm.findClass RX2 = some m.cls := findClass_of_methodNamed B.named
  have hlocks := B.notSynchronized
  have hinX2 : ∀ w ∈ wsX20, w ∈ wsX2_residueOf := by decide +kernel
  have hS : va_S (fun _ => False) s.heap s.heap [] := va_S.rf
  have hl := lv_entry ([.ref h0, .int pq1]) (n := 2) (Nat.le_of_ble_eq_true rfl)
  rw [lg_entry_eq]
  generalize (lg_sl ([.ref h0, .int pq1]) ++ List.replicate (2 - (lg_sl ([.ref h0, .int pq1])).length) Slot.unset).toArray = ls at hl ⊢
  have hl : lv_has ls 2 [(0, .ref h0), (1, .int pq1)] := hl
  refine lv_iload_n hx hb dX2_residueOf_0 rfl (lv_at hl 1 rfl) ?_
  refine r_i (va_runSN (As := [.int pq1]) (rest := []) ⟨hx, hb, hml, hown, hts⟩ (k_X5_isRegister l pq1) ⟨va_cnB 1 hts gX2_residueOf_X5_isRegister_n42 rfl rfl rfl (hN.m (o := RX5) (by decide +kernel)) (hts (.initialized RX5) (by decide +kernel)) (by decide +kernel) ⟨Nat.le_of_ble_eq_true rfl, Nat.le_of_ble_eq_true rfl⟩, hts (.static yX5_isRegister) (by decide +kernel), trivial⟩ (pPreS) rfl rfl hl.1 rfl (lv_room (Nat.le_of_ble_eq_true rfl)) dX2_residueOf_1 ⟨Nat.le_of_ble_eq_true rfl, Nat.le_of_ble_eq_true rfl⟩) hP hS (fun rq1 H locs hp1 hP hS => ?_)
  refine lv_if_eq (tgt := 16) hx hb dX2_residueOf_4 (by decide) (fun cq4 => ?_) (fun cq4 => ?_)
  · skip
    refine lv_iconst (v := 0) hx hb dX2_residueOf_16 (by decide) ?_
    exact W.iret (v := 0) hx hb hr (fun t ht hW => ⟨⟨0, (), rfl, trivial, trivial⟩, hS.F ht⟩) hS.2.2 dX2_residueOf_17
  · skip
    refine lv_aload_n hx hb dX2_residueOf_7 rfl (lv_at hl 0 rfl) ?_
    obtain ⟨kq8, xq8, yq8, qq8, rq8, hk8, g_q8, g_r8⟩ := hT.k3 g_h0
    refine va_get (D := K.1) (ci := 2) (v := .ref rq8) (C := RX2) (T := TX2) (N := 4) hx hb hts hinX2 hown hK hP kq8 hk8 rfl 3 (by decide) (hts (.fieldLink RX2 22 "CodedWords$Code" "residues" "[I") (by decide +kernel)) (fun _ h9 => h9) rfl dX2_residueOf_8 ?_
    refine lv_iload_n hx hb dX2_residueOf_11 rfl (lv_at hl 1 rfl) ?_
    refine t_iald hx hb hK hP hT g_r8 rfl (iq_in (hp1.resolve_left cq4).2.1 (hp1.resolve_left cq4).2.2) dX2_residueOf_12 (fun vq12 => ?_)
    refine lv_goto (tgt := 17) hx hb dX2_residueOf_13 (by decide) ?_
    exact W.iret (v := vq12) hx hb hr (fun t ht hW => ⟨⟨vq12, (), rfl, trivial, trivial⟩, hS.F ht⟩) hS.2.2 dX2_residueOf_17
abbrev rmX2_registersRight : Room := { frames := 5, cells := 0, slots := 0, locals := 107 }
set_option maxHeartbeats 4000000 in
set_option maxRecDepth 100000 in
theorem k_X2_registersRight (l : Launch) {K : Cx} {G0 : Nat → Nat} {w0 : va_W} (hT : TH K G0 w0) {h0 : Nat} (g_h0 : G0 h0 = 3)  : Ri l K yX2_registersRight wsX2_registersRight rmX2_registersRight [.ref h0] w0 (fun _ => True) := by
  refine Met.ofW (cc := cX2_registersRight) (maxL := 3) (ret := (some .int)) (by decide) rfl ?_
  intro p e s m args below meth c s₁ B hml hv
  obtain ⟨rfl, hP, hK, hD, hN⟩ := hv
  have hx := B.exec
  have hb := B.bytes
  have hr := B.returns
  have hts := atoms_spec (ws := wsX2_registersRight) B.pre
  have hown : s.vm.findClass RX2 = some m.cls := findClass_of_methodNamed B.named
  have hlocks := B.notSynchronized
  have hS : va_S (fun _ => False) s.heap s.heap [] := va_S.rf
  have hl := lv_entry ([.ref h0]) (n := 3) (Nat.le_of_ble_eq_true rfl)
  rw [lg_entry_eq]
  generalize (lg_sl ([.ref h0]) ++ List.replicate (3 - (lg_sl ([.ref h0])).length) Slot.unset).toArray = ls at hl ⊢
  have hl : lv_has ls 3 [(0, .ref h0)] := hl
  have hJ4 : ∀ (n4 : Nat) (H : Heap) (locs : List Loc) (zq1 : Int32) (zq2 : Int32), (va_P K.1 vwCl w0 H) → (va_S (fun _ => False) s.heap H locs) → ((2147483647 - zq2.toInt).toNat < n4) → ∀ (ls : Array Slot), lv_has ls 3 [(0, .ref h0), (1, .int zq1), (2, .int zq2)] → W p l e rmX2_registersRight s m [.ref h0].toArray below meth c H locs 0 0 (MQ below (va_Qi (fun (r : Int32) (_ : Unit) => (fun _ => True) r) (fun _ _ => True) (fun _ => False)) [.ref h0].toArray s 0 0 (fun _ => False)) (F0 m 4 ls []) := by
    intro n4
    induction n4 with
    | zero =>
      intro H locs zq1 zq2 hP hS hm4 ls hl
      exact absurd hm4 (Nat.not_lt_zero _)
    | succ n4 ih4 =>
      intro H locs zq1 zq2 hP hS hm4 ls hl
      refine lv_iload_n hx hb dX2_registersRight_4 rfl (lv_at hl 2 rfl) ?_
      refine lv_iconst (v := 4) hx hb dX2_registersRight_5 (by decide) ?_
      refine lv_icmp_ge (tgt := 35) hx hb dX2_registersRight_6 (by decide) (fun cq6 => ?_) (fun cq6 => ?_)
      · skip
        refine lv_iload_n hx hb dX2_registersRight_35 rfl (lv_at hl 1 rfl) ?_
        exact W.iret (v := zq1) hx hb hr (fun t ht hW => ⟨⟨zq1, (), rfl, trivial, trivial⟩, hS.F ht⟩) hS.2.2 dX2_registersRight_36
      · skip
        refine lv_aload_n hx hb dX2_registersRight_9 rfl (lv_at hl 0 rfl) ?_
        refine lv_aload_n hx hb dX2_registersRight_10 rfl (lv_at hl 0 rfl) ?_
        refine lv_iload_n hx hb dX2_registersRight_11 rfl (lv_at hl 2 rfl) ?_
        refine r_i (va_runV (As := [.int zq2]) (rest := [.ref h0]) ⟨hx, hb, hml, hown, hts⟩ (k_X2_wordOf l hT g_h0 zq2) (cwV 1 hts gX2_registersRight_X2_wordOf rfl rfl rfl (by decide +kernel) ⟨Nat.le_of_ble_eq_true rfl, Nat.le_of_ble_eq_true rfl⟩) (rPreV (hT.rcv3 g_h0 hK hP) hP hK hD hN) rfl rfl hl.1 rfl (lv_room (Nat.le_of_ble_eq_true rfl)) dX2_registersRight_12 ⟨Nat.le_of_ble_eq_true rfl, Nat.le_of_ble_eq_true rfl⟩) hP hS (fun rq12 H locs hp12 hP hS => ?_)
        refine lv_aload_n hx hb dX2_registersRight_15 rfl (lv_at hl 0 rfl) ?_
        refine lv_iload_n hx hb dX2_registersRight_16 rfl (lv_at hl 2 rfl) ?_
        refine r_i (va_runV (As := [.int zq2]) (rest := [.int rq12, .ref h0]) ⟨hx, hb, hml, hown, hts⟩ (k_X2_residueOf l hT g_h0 zq2) (cwV 1 hts gX2_registersRight_X2_residueOf rfl rfl rfl (by decide +kernel) ⟨Nat.le_of_ble_eq_true rfl, Nat.le_of_ble_eq_true rfl⟩) (rPreV (hT.rcv3 g_h0 hK hP) hP hK hD hN) rfl rfl hl.1 rfl (lv_room (Nat.le_of_ble_eq_true rfl)) dX2_registersRight_17 ⟨Nat.le_of_ble_eq_true rfl, Nat.le_of_ble_eq_true rfl⟩) hP hS (fun rq17 H locs hp17 hP hS => ?_)
        refine r_i (va_runV (As := [.int rq12, .int rq17]) (rest := []) ⟨hx, hb, hml, hown, hts⟩ (k_X2_isRight l hT g_h0 rq12 rq17) (cwV 2 hts gX2_registersRight_X2_isRight rfl rfl rfl (by decide +kernel) ⟨Nat.le_of_ble_eq_true rfl, Nat.le_of_ble_eq_true rfl⟩) (rPreV (hT.rcv3 g_h0 hK hP) hP hK hD hN) rfl rfl hl.1 rfl (lv_room (Nat.le_of_ble_eq_true rfl)) dX2_registersRight_20 ⟨Nat.le_of_ble_eq_true rfl, Nat.le_of_ble_eq_true rfl⟩) hP hS (fun rq20 H locs hp20 hP hS => ?_)
        refine lv_if_eq (tgt := 29) hx hb dX2_registersRight_23 (by decide) (fun cq23 => ?_) (fun cq23 => ?_)
        · skip
          obtain ⟨vq29, eq29⟩ : ∃ y : Int32, y = zq2 + 1 := ⟨_, rfl⟩
          refine lv_iinc (v := vq29) (lv' := [(2, .int vq29), (0, .ref h0), (1, .int zq1)]) hx hb dX2_registersRight_29 hl (k := 2) rfl (by rw [eq29]; rfl) (by decide) rfl (fun ls hl => ?_)
          refine lv_goto (tgt := 4) hx hb dX2_registersRight_32 (by decide) ?_
          exact ih4 _ _ zq1 vq29 hP hS (iq_up hm4 cq6 eq29) _ (lv_sub hl [1, 2, 0] rfl)
        · skip
          obtain ⟨vq26, eq26⟩ : ∃ y : Int32, y = zq1 + 1 := ⟨_, rfl⟩
          refine lv_iinc (v := vq26) (lv' := [(1, .int vq26), (0, .ref h0), (2, .int zq2)]) hx hb dX2_registersRight_26 hl (k := 1) rfl (by rw [eq26]; rfl) (by decide) rfl (fun ls hl => ?_)
          obtain ⟨vq29, eq29⟩ : ∃ y : Int32, y = zq2 + 1 := ⟨_, rfl⟩
          refine lv_iinc (v := vq29) (lv' := [(2, .int vq29), (1, .int vq26), (0, .ref h0)]) hx hb dX2_registersRight_29 hl (k := 2) rfl (by rw [eq29]; rfl) (by decide) rfl (fun ls hl => ?_)
          refine lv_goto (tgt := 4) hx hb dX2_registersRight_32 (by decide) ?_
          exact ih4 _ _ vq26 vq29 hP hS (iq_up hm4 cq6 eq29) _ (lv_sub hl [2, 1, 0] rfl)
  refine lv_iconst (v := 0) hx hb dX2_registersRight_0 (by decide) ?_
  refine lv_istore_n (lv' := [(1, .int 0), (0, .ref h0)]) hx hb dX2_registersRight_1 rfl hl (by decide) rfl (fun ls hl => ?_)
  refine lv_iconst (v := 0) hx hb dX2_registersRight_2 (by decide) ?_
  refine lv_istore_n (lv' := [(2, .int 0), (1, .int 0), (0, .ref h0)]) hx hb dX2_registersRight_3 rfl hl (by decide) rfl (fun ls hl => ?_)
  exact hJ4 ((2147483647 - (0 : Int32).toInt).toNat + 1) _ _ 0 0 hP hS (Nat.lt_succ_self _) _ (lv_sub hl [2, 1, 0] rfl)
abbrev rmX2_canHalve : Room := { frames := 3, cells := 0, slots := 0, locals := 64 }
set_option maxHeartbeats 4000000 in
set_option maxRecDepth 100000 in
theorem k_X2_canHalve (l : Launch) {K : Cx} {G0 : Nat → Nat} {w0 : va_W} (hT : TH K G0 w0) {h0 : Nat} (g_h0 : G0 h0 = 3) (pq1 : Int32)  : Ri l K yX2_canHalve wsX2_canHalve rmX2_canHalve [.ref h0, .int pq1] w0 (fun _ => True) := by
  refine Met.ofW (cc := cX2_canHalve) (maxL := 3) (ret := (some .boolean)) (by decide) rfl ?_
  intro p e s m args below meth c s₁ B hml hv
  obtain ⟨rfl, hP, hK, hD, hN⟩ := hv
  have hx := B.exec
  have hb := B.bytes
  have hr := B.returns
  have hts := atoms_spec (ws := wsX2_canHalve) B.pre
  have hown : s.vm.findClass RX2 = some m.cls := findClass_of_methodNamed B.named
  have hlocks := B.notSynchronized
  have hS : va_S (fun _ => False) s.heap s.heap [] := va_S.rf
  have hl := lv_entry ([.ref h0, .int pq1]) (n := 3) (Nat.le_of_ble_eq_true rfl)
  rw [lg_entry_eq]
  generalize (lg_sl ([.ref h0, .int pq1]) ++ List.replicate (3 - (lg_sl ([.ref h0, .int pq1])).length) Slot.unset).toArray = ls at hl ⊢
  have hl : lv_has ls 3 [(0, .ref h0), (1, .int pq1)] := hl
  refine lv_aload_n hx hb dX2_canHalve_0 rfl (lv_at hl 0 rfl) ?_
  refine lv_iload_n hx hb dX2_canHalve_1 rfl (lv_at hl 1 rfl) ?_
  refine r_i (va_runV (As := [.int pq1]) (rest := []) ⟨hx, hb, hml, hown, hts⟩ (k_X2_wordOf l hT g_h0 pq1) (cwV 1 hts gX2_canHalve_X2_wordOf rfl rfl rfl (by decide +kernel) ⟨Nat.le_of_ble_eq_true rfl, Nat.le_of_ble_eq_true rfl⟩) (rPreV (hT.rcv3 g_h0 hK hP) hP hK hD hN) rfl rfl hl.1 rfl (lv_room (Nat.le_of_ble_eq_true rfl)) dX2_canHalve_2 ⟨Nat.le_of_ble_eq_true rfl, Nat.le_of_ble_eq_true rfl⟩) hP hS (fun rq2 H locs hp2 hP hS => ?_)
  refine lv_istore_n (lv' := [(2, .int rq2), (0, .ref h0), (1, .int pq1)]) hx hb dX2_canHalve_5 rfl hl (by decide) rfl (fun ls hl => ?_)
  refine lv_aload_n hx hb dX2_canHalve_6 rfl (lv_at hl 1 rfl) ?_
  refine lv_iload_n hx hb dX2_canHalve_7 rfl (lv_at hl 0 rfl) ?_
  refine r_i (va_runV (As := [.int rq2]) (rest := []) ⟨hx, hb, hml, hown, hts⟩ (k_X2_fits l hT g_h0 rq2) (cwV 1 hts gX2_canHalve_X2_fits rfl rfl rfl (by decide +kernel) ⟨Nat.le_of_ble_eq_true rfl, Nat.le_of_ble_eq_true rfl⟩) (rPreV (hT.rcv3 g_h0 hK hP) hP hK hD hN) rfl rfl hl.1 rfl (lv_room (Nat.le_of_ble_eq_true rfl)) dX2_canHalve_8 ⟨Nat.le_of_ble_eq_true rfl, Nat.le_of_ble_eq_true rfl⟩) hP hS (fun rq8 H locs hp8 hP hS => ?_)
  refine lv_if_eq (tgt := 28) hx hb dX2_canHalve_11 (by decide) (fun cq11 => ?_) (fun cq11 => ?_)
  · skip
    refine lv_iconst (v := 0) hx hb dX2_canHalve_28 (by decide) ?_
    exact W.zret (v := 0) (ty := .boolean) hx hb hr (rfl) (fun t ht hW => ⟨⟨0, (), rfl, trivial, trivial⟩, hS.F ht⟩) hS.2.2 dX2_canHalve_29
  · skip
    refine lv_aload_n hx hb dX2_canHalve_14 rfl (lv_at hl 1 rfl) ?_
    refine lv_iload_n hx hb dX2_canHalve_15 rfl (lv_at hl 0 rfl) ?_
    refine r_i (va_runV (As := [.int rq2]) (rest := []) ⟨hx, hb, hml, hown, hts⟩ (k_X2_valueOf l hT g_h0 rq2) (cwV 1 hts gX2_canHalve_X2_valueOf rfl rfl rfl (by decide +kernel) ⟨Nat.le_of_ble_eq_true rfl, Nat.le_of_ble_eq_true rfl⟩) (rPreV (hT.rcv3 g_h0 hK hP) hP hK hD hN) rfl rfl hl.1 rfl (lv_room (Nat.le_of_ble_eq_true rfl)) dX2_canHalve_16 ⟨Nat.le_of_ble_eq_true rfl, Nat.le_of_ble_eq_true rfl⟩) hP hS (fun rq16 H locs hp16 hP hS => ?_)
    refine lv_iconst (v := 2) hx hb dX2_canHalve_19 (by decide) ?_
    refine lv_irem hx hb dX2_canHalve_20 (by decide) ?_
    refine lv_topi (fun vq20 eq20 => ?_)
    refine lv_if_ne (tgt := 28) hx hb dX2_canHalve_21 (by decide) (fun cq21 => ?_) (fun cq21 => ?_)
    · skip
      refine lv_iconst (v := 0) hx hb dX2_canHalve_28 (by decide) ?_
      exact W.zret (v := 0) (ty := .boolean) hx hb hr (rfl) (fun t ht hW => ⟨⟨0, (), rfl, trivial, trivial⟩, hS.F ht⟩) hS.2.2 dX2_canHalve_29
    · skip
      refine lv_iconst (v := 1) hx hb dX2_canHalve_24 (by decide) ?_
      refine lv_goto (tgt := 29) hx hb dX2_canHalve_25 (by decide) ?_
      exact W.zret (v := 1) (ty := .boolean) hx hb hr (rfl) (fun t ht hW => ⟨⟨1, (), rfl, trivial, trivial⟩, hS.F ht⟩) hS.2.2 dX2_canHalve_29
abbrev rmX2_causesOf : Room := { frames := 5, cells := 0, slots := 0, locals := 107 }
set_option maxHeartbeats 4000000 in
set_option maxRecDepth 100000 in
theorem k_X2_causesOf (l : Launch) {K : Cx} {G0 : Nat → Nat} {w0 : va_W} (hT : TH K G0 w0) {h0 : Nat} (g_h0 : G0 h0 = 3) (pq1 : Int32)  : Ri l K yX2_causesOf wsX2_causesOf rmX2_causesOf [.ref h0, .int pq1] w0 (fun _ => True) := by
  refine Met.ofW (cc := cX2_causesOf) (maxL := 4) (ret := (some .int)) (by decide) rfl ?_
  intro p e s m args below meth c s₁ B hml hv
  obtain ⟨rfl, hP, hK, hD, hN⟩ := hv
  have hx := B.exec
  have hb := B.bytes
  have hr := B.returns
  have hts := atoms_spec (ws := wsX2_causesOf) B.pre
  have hown : s.vm.findClass RX2 = some m.cls := findClass_of_methodNamed B.named
  have hlocks := B.notSynchronized
  have hS : va_S (fun _ => False) s.heap s.heap [] := va_S.rf
  have hl := lv_entry ([.ref h0, .int pq1]) (n := 4) (Nat.le_of_ble_eq_true rfl)
  rw [lg_entry_eq]
  generalize (lg_sl ([.ref h0, .int pq1]) ++ List.replicate (4 - (lg_sl ([.ref h0, .int pq1])).length) Slot.unset).toArray = ls at hl ⊢
  have hl : lv_has ls 4 [(0, .ref h0), (1, .int pq1)] := hl
  have hJ18 : ∀ (n18 : Nat) (H : Heap) (locs : List Loc) (zq2 : Int32) (zq3 : Int32), (va_P K.1 vwCl w0 H) → (va_S (fun _ => False) s.heap H locs) → ((2147483647 - zq3.toInt).toNat < n18) → ∀ (ls : Array Slot), lv_has ls 4 [(0, .ref h0), (1, .int pq1), (2, .int zq2), (3, .int zq3)] → W p l e rmX2_causesOf s m [.ref h0, .int pq1].toArray below meth c H locs 0 0 (MQ below (va_Qi (fun (r : Int32) (_ : Unit) => (fun _ => True) r) (fun _ _ => True) (fun _ => False)) [.ref h0, .int pq1].toArray s 0 0 (fun _ => False)) (F0 m 18 ls []) := by
    intro n18
    induction n18 with
    | zero =>
      intro H locs zq2 zq3 hP hS hm18 ls hl
      exact absurd hm18 (Nat.not_lt_zero _)
    | succ n18 ih18 =>
      intro H locs zq2 zq3 hP hS hm18 ls hl
      refine lv_iload_n hx hb dX2_causesOf_18 rfl (lv_at hl 3 rfl) ?_
      refine lv_aload_n hx hb dX2_causesOf_19 rfl (lv_at hl 0 rfl) ?_
      refine r_i (va_runV (As := []) (rest := [.int zq3]) ⟨hx, hb, hml, hown, hts⟩ (k_X2_strikeCount l hT g_h0) (cwV 0 hts gX2_causesOf_X2_strikeCount rfl rfl rfl (by decide +kernel) ⟨Nat.le_of_ble_eq_true rfl, Nat.le_of_ble_eq_true rfl⟩) (rPreV (hT.rcv3 g_h0 hK hP) hP hK hD hN) rfl rfl hl.1 rfl (lv_room (Nat.le_of_ble_eq_true rfl)) dX2_causesOf_20 ⟨Nat.le_of_ble_eq_true rfl, Nat.le_of_ble_eq_true rfl⟩) hP hS (fun rq20 H locs hp20 hP hS => ?_)
      refine lv_icmp_ge (tgt := 57) hx hb dX2_causesOf_23 (by decide) (fun cq23 => ?_) (fun cq23 => ?_)
      · skip
        refine lv_iload_n hx hb dX2_causesOf_57 rfl (lv_at hl 2 rfl) ?_
        exact W.iret (v := zq2) hx hb hr (fun t ht hW => ⟨⟨zq2, (), rfl, trivial, trivial⟩, hS.F ht⟩) hS.2.2 dX2_causesOf_58
      · skip
        refine lv_aload_n hx hb dX2_causesOf_26 rfl (lv_at hl 0 rfl) ?_
        refine lv_aload_n hx hb dX2_causesOf_27 rfl (lv_at hl 0 rfl) ?_
        refine lv_iload_n hx hb dX2_causesOf_28 rfl (lv_at hl 1 rfl) ?_
        refine r_i (va_runV (As := [.int pq1]) (rest := [.ref h0]) ⟨hx, hb, hml, hown, hts⟩ (k_X2_wordOf l hT g_h0 pq1) (cwV 1 hts gX2_causesOf_X2_wordOf rfl rfl rfl (by decide +kernel) ⟨Nat.le_of_ble_eq_true rfl, Nat.le_of_ble_eq_true rfl⟩) (rPreV (hT.rcv3 g_h0 hK hP) hP hK hD hN) rfl rfl hl.1 rfl (lv_room (Nat.le_of_ble_eq_true rfl)) dX2_causesOf_29 ⟨Nat.le_of_ble_eq_true rfl, Nat.le_of_ble_eq_true rfl⟩) hP hS (fun rq29 H locs hp29 hP hS => ?_)
        refine lv_iload_n hx hb dX2_causesOf_32 rfl (lv_at hl 3 rfl) ?_
        refine r_i (va_runSN (As := [.int zq3]) (rest := [.int rq29, .ref h0]) ⟨hx, hb, hml, hown, hts⟩ (k_X5_change l zq3) ⟨va_cnB 1 hts gX2_causesOf_X5_change_n80 rfl rfl rfl (hN.m (o := RX5) (by decide +kernel)) (hts (.initialized RX5) (by decide +kernel)) (by decide +kernel) ⟨Nat.le_of_ble_eq_true rfl, Nat.le_of_ble_eq_true rfl⟩, hts (.static yX5_change) (by decide +kernel), trivial⟩ (pPreS) rfl rfl hl.1 rfl (lv_room (Nat.le_of_ble_eq_true rfl)) dX2_causesOf_33 ⟨Nat.le_of_ble_eq_true rfl, Nat.le_of_ble_eq_true rfl⟩) hP hS (fun rq33 H locs hp33 hP hS => ?_)
        refine lv_isub hx hb dX2_causesOf_36 ?_
        refine lv_topi (fun vq36 eq36 => ?_)
        refine lv_aload_n hx hb dX2_causesOf_37 rfl (lv_at hl 0 rfl) ?_
        refine lv_iload_n hx hb dX2_causesOf_38 rfl (lv_at hl 1 rfl) ?_
        refine r_i (va_runV (As := [.int pq1]) (rest := [.int vq36, .ref h0]) ⟨hx, hb, hml, hown, hts⟩ (k_X2_residueOf l hT g_h0 pq1) (cwV 1 hts gX2_causesOf_X2_residueOf rfl rfl rfl (by decide +kernel) ⟨Nat.le_of_ble_eq_true rfl, Nat.le_of_ble_eq_true rfl⟩) (rPreV (hT.rcv3 g_h0 hK hP) hP hK hD hN) rfl rfl hl.1 rfl (lv_room (Nat.le_of_ble_eq_true rfl)) dX2_causesOf_39 ⟨Nat.le_of_ble_eq_true rfl, Nat.le_of_ble_eq_true rfl⟩) hP hS (fun rq39 H locs hp39 hP hS => ?_)
        refine r_i (va_runV (As := [.int vq36, .int rq39]) (rest := []) ⟨hx, hb, hml, hown, hts⟩ (k_X2_isRight l hT g_h0 vq36 rq39) (cwV 2 hts gX2_causesOf_X2_isRight rfl rfl rfl (by decide +kernel) ⟨Nat.le_of_ble_eq_true rfl, Nat.le_of_ble_eq_true rfl⟩) (rPreV (hT.rcv3 g_h0 hK hP) hP hK hD hN) rfl rfl hl.1 rfl (lv_room (Nat.le_of_ble_eq_true rfl)) dX2_causesOf_42 ⟨Nat.le_of_ble_eq_true rfl, Nat.le_of_ble_eq_true rfl⟩) hP hS (fun rq42 H locs hp42 hP hS => ?_)
        refine lv_if_eq (tgt := 51) hx hb dX2_causesOf_45 (by decide) (fun cq45 => ?_) (fun cq45 => ?_)
        · skip
          obtain ⟨vq51, eq51⟩ : ∃ y : Int32, y = zq3 + 1 := ⟨_, rfl⟩
          refine lv_iinc (v := vq51) (lv' := [(3, .int vq51), (0, .ref h0), (1, .int pq1), (2, .int zq2)]) hx hb dX2_causesOf_51 hl (k := 3) rfl (by rw [eq51]; rfl) (by decide) rfl (fun ls hl => ?_)
          refine lv_goto (tgt := 18) hx hb dX2_causesOf_54 (by decide) ?_
          exact ih18 _ _ zq2 vq51 hP hS (iq_up hm18 cq23 eq51) _ (lv_sub hl [1, 2, 3, 0] rfl)
        · skip
          obtain ⟨vq48, eq48⟩ : ∃ y : Int32, y = zq2 + 1 := ⟨_, rfl⟩
          refine lv_iinc (v := vq48) (lv' := [(2, .int vq48), (0, .ref h0), (1, .int pq1), (3, .int zq3)]) hx hb dX2_causesOf_48 hl (k := 2) rfl (by rw [eq48]; rfl) (by decide) rfl (fun ls hl => ?_)
          obtain ⟨vq51, eq51⟩ : ∃ y : Int32, y = zq3 + 1 := ⟨_, rfl⟩
          refine lv_iinc (v := vq51) (lv' := [(3, .int vq51), (2, .int vq48), (0, .ref h0), (1, .int pq1)]) hx hb dX2_causesOf_51 hl (k := 3) rfl (by rw [eq51]; rfl) (by decide) rfl (fun ls hl => ?_)
          refine lv_goto (tgt := 18) hx hb dX2_causesOf_54 (by decide) ?_
          exact ih18 _ _ vq48 vq51 hP hS (iq_up hm18 cq23 eq51) _ (lv_sub hl [2, 3, 1, 0] rfl)
  refine lv_aload_n hx hb dX2_causesOf_0 rfl (lv_at hl 0 rfl) ?_
  refine lv_aload_n hx hb dX2_causesOf_1 rfl (lv_at hl 0 rfl) ?_
  refine lv_iload_n hx hb dX2_causesOf_2 rfl (lv_at hl 1 rfl) ?_
  refine r_i (va_runV (As := [.int pq1]) (rest := [.ref h0]) ⟨hx, hb, hml, hown, hts⟩ (k_X2_wordOf l hT g_h0 pq1) (cwV 1 hts gX2_causesOf_X2_wordOf rfl rfl rfl (by decide +kernel) ⟨Nat.le_of_ble_eq_true rfl, Nat.le_of_ble_eq_true rfl⟩) (rPreV (hT.rcv3 g_h0 hK hP) hP hK hD hN) rfl rfl hl.1 rfl (lv_room (Nat.le_of_ble_eq_true rfl)) dX2_causesOf_3 ⟨Nat.le_of_ble_eq_true rfl, Nat.le_of_ble_eq_true rfl⟩) hP hS (fun rq3 H locs hp3 hP hS => ?_)
  refine r_i (va_runV (As := [.int rq3]) (rest := []) ⟨hx, hb, hml, hown, hts⟩ (k_X2_isSound l hT g_h0 rq3) (cwV 1 hts gX2_causesOf_X2_isSound rfl rfl rfl (by decide +kernel) ⟨Nat.le_of_ble_eq_true rfl, Nat.le_of_ble_eq_true rfl⟩) (rPreV (hT.rcv3 g_h0 hK hP) hP hK hD hN) rfl rfl hl.1 rfl (lv_room (Nat.le_of_ble_eq_true rfl)) dX2_causesOf_6 ⟨Nat.le_of_ble_eq_true rfl, Nat.le_of_ble_eq_true rfl⟩) hP hS (fun rq6 H locs hp6 hP hS => ?_)
  refine lv_if_eq (tgt := 14) hx hb dX2_causesOf_9 (by decide) (fun cq9 => ?_) (fun cq9 => ?_)
  · skip
    refine lv_iconst (v := 0) hx hb dX2_causesOf_14 (by decide) ?_
    refine lv_istore_n (lv' := [(2, .int 0), (0, .ref h0), (1, .int pq1)]) hx hb dX2_causesOf_15 rfl hl (by decide) rfl (fun ls hl => ?_)
    refine lv_iconst (v := 0) hx hb dX2_causesOf_16 (by decide) ?_
    refine lv_istore_n (lv' := [(3, .int 0), (2, .int 0), (0, .ref h0), (1, .int pq1)]) hx hb dX2_causesOf_17 rfl hl (by decide) rfl (fun ls hl => ?_)
    exact hJ18 ((2147483647 - (0 : Int32).toInt).toNat + 1) _ _ 0 0 hP hS (Nat.lt_succ_self _) _ (lv_sub hl [2, 3, 1, 0] rfl)
  · skip
    refine lv_iconst (v := 0) hx hb dX2_causesOf_12 (by decide) ?_
    exact W.iret (v := 0) hx hb hr (fun t ht hW => ⟨⟨0, (), rfl, trivial, trivial⟩, hS.F ht⟩) hS.2.2 dX2_causesOf_13
abbrev rmX2_onlyCauseOf : Room := { frames := 6, cells := 0, slots := 0, locals := 130 }
set_option maxHeartbeats 4000000 in
set_option maxRecDepth 100000 in
theorem k_X2_onlyCauseOf (l : Launch) {K : Cx} {G0 : Nat → Nat} {w0 : va_W} (hT : TH K G0 w0) {h0 : Nat} (g_h0 : G0 h0 = 3) (pq1 : Int32)  : Ri l K yX2_onlyCauseOf wsX2_onlyCauseOf rmX2_onlyCauseOf [.ref h0, .int pq1] w0 (fun _ => True) := by
  refine Met.ofW (cc := cX2_onlyCauseOf) (maxL := 3) (ret := (some .int)) (by decide) rfl ?_
  intro p e s m args below meth c s₁ B hml hv
  obtain ⟨rfl, hP, hK, hD, hN⟩ := hv
  have hx := B.exec
  have hb := B.bytes
  have hr := B.returns
  have hts := atoms_spec (ws := wsX2_onlyCauseOf) B.pre
  have hown : s.vm.findClass RX2 = some m.cls := findClass_of_methodNamed B.named
  have hlocks := B.notSynchronized
  have hS : va_S (fun _ => False) s.heap s.heap [] := va_S.rf
  have hl := lv_entry ([.ref h0, .int pq1]) (n := 3) (Nat.le_of_ble_eq_true rfl)
  rw [lg_entry_eq]
  generalize (lg_sl ([.ref h0, .int pq1]) ++ List.replicate (3 - (lg_sl ([.ref h0, .int pq1])).length) Slot.unset).toArray = ls at hl ⊢
  have hl : lv_has ls 3 [(0, .ref h0), (1, .int pq1)] := hl
  have hJ14 : ∀ (n14 : Nat) (H : Heap) (locs : List Loc) (zq2 : Int32), (va_P K.1 vwCl w0 H) → (va_S (fun _ => False) s.heap H locs) → ((2147483647 - zq2.toInt).toNat < n14) → ∀ (ls : Array Slot), lv_has ls 3 [(0, .ref h0), (1, .int pq1), (2, .int zq2)] → W p l e rmX2_onlyCauseOf s m [.ref h0, .int pq1].toArray below meth c H locs 0 0 (MQ below (va_Qi (fun (r : Int32) (_ : Unit) => (fun _ => True) r) (fun _ _ => True) (fun _ => False)) [.ref h0, .int pq1].toArray s 0 0 (fun _ => False)) (F0 m 14 ls []) := by
    intro n14
    induction n14 with
    | zero =>
      intro H locs zq2 hP hS hm14 ls hl
      exact absurd hm14 (Nat.not_lt_zero _)
    | succ n14 ih14 =>
      intro H locs zq2 hP hS hm14 ls hl
      refine lv_iload_n hx hb dX2_onlyCauseOf_14 rfl (lv_at hl 2 rfl) ?_
      refine lv_aload_n hx hb dX2_onlyCauseOf_15 rfl (lv_at hl 0 rfl) ?_
      refine r_i (va_runV (As := []) (rest := [.int zq2]) ⟨hx, hb, hml, hown, hts⟩ (k_X2_strikeCount l hT g_h0) (cwV 0 hts gX2_onlyCauseOf_X2_strikeCount rfl rfl rfl (by decide +kernel) ⟨Nat.le_of_ble_eq_true rfl, Nat.le_of_ble_eq_true rfl⟩) (rPreV (hT.rcv3 g_h0 hK hP) hP hK hD hN) rfl rfl hl.1 rfl (lv_room (Nat.le_of_ble_eq_true rfl)) dX2_onlyCauseOf_16 ⟨Nat.le_of_ble_eq_true rfl, Nat.le_of_ble_eq_true rfl⟩) hP hS (fun rq16 H locs hp16 hP hS => ?_)
      refine lv_icmp_ge (tgt := 52) hx hb dX2_onlyCauseOf_19 (by decide) (fun cq19 => ?_) (fun cq19 => ?_)
      · skip
        refine lv_ldc (v := (-1000000)) hx hb hown (hts (.constant RX2 86 (-1000000)) (by decide +kernel)) dX2_onlyCauseOf_52 ?_
        exact W.iret (v := (-1000000)) hx hb hr (fun t ht hW => ⟨⟨(-1000000), (), rfl, trivial, trivial⟩, hS.F ht⟩) hS.2.2 dX2_onlyCauseOf_54
      · skip
        refine lv_aload_n hx hb dX2_onlyCauseOf_22 rfl (lv_at hl 0 rfl) ?_
        refine lv_aload_n hx hb dX2_onlyCauseOf_23 rfl (lv_at hl 0 rfl) ?_
        refine lv_iload_n hx hb dX2_onlyCauseOf_24 rfl (lv_at hl 1 rfl) ?_
        refine r_i (va_runV (As := [.int pq1]) (rest := [.ref h0]) ⟨hx, hb, hml, hown, hts⟩ (k_X2_wordOf l hT g_h0 pq1) (cwV 1 hts gX2_onlyCauseOf_X2_wordOf rfl rfl rfl (by decide +kernel) ⟨Nat.le_of_ble_eq_true rfl, Nat.le_of_ble_eq_true rfl⟩) (rPreV (hT.rcv3 g_h0 hK hP) hP hK hD hN) rfl rfl hl.1 rfl (lv_room (Nat.le_of_ble_eq_true rfl)) dX2_onlyCauseOf_25 ⟨Nat.le_of_ble_eq_true rfl, Nat.le_of_ble_eq_true rfl⟩) hP hS (fun rq25 H locs hp25 hP hS => ?_)
        refine lv_iload_n hx hb dX2_onlyCauseOf_28 rfl (lv_at hl 2 rfl) ?_
        refine r_i (va_runSN (As := [.int zq2]) (rest := [.int rq25, .ref h0]) ⟨hx, hb, hml, hown, hts⟩ (k_X5_change l zq2) ⟨va_cnB 1 hts gX2_onlyCauseOf_X5_change_n80 rfl rfl rfl (hN.m (o := RX5) (by decide +kernel)) (hts (.initialized RX5) (by decide +kernel)) (by decide +kernel) ⟨Nat.le_of_ble_eq_true rfl, Nat.le_of_ble_eq_true rfl⟩, hts (.static yX5_change) (by decide +kernel), trivial⟩ (pPreS) rfl rfl hl.1 rfl (lv_room (Nat.le_of_ble_eq_true rfl)) dX2_onlyCauseOf_29 ⟨Nat.le_of_ble_eq_true rfl, Nat.le_of_ble_eq_true rfl⟩) hP hS (fun rq29 H locs hp29 hP hS => ?_)
        refine lv_isub hx hb dX2_onlyCauseOf_32 ?_
        refine lv_topi (fun vq32 eq32 => ?_)
        refine lv_aload_n hx hb dX2_onlyCauseOf_33 rfl (lv_at hl 0 rfl) ?_
        refine lv_iload_n hx hb dX2_onlyCauseOf_34 rfl (lv_at hl 1 rfl) ?_
        refine r_i (va_runV (As := [.int pq1]) (rest := [.int vq32, .ref h0]) ⟨hx, hb, hml, hown, hts⟩ (k_X2_residueOf l hT g_h0 pq1) (cwV 1 hts gX2_onlyCauseOf_X2_residueOf rfl rfl rfl (by decide +kernel) ⟨Nat.le_of_ble_eq_true rfl, Nat.le_of_ble_eq_true rfl⟩) (rPreV (hT.rcv3 g_h0 hK hP) hP hK hD hN) rfl rfl hl.1 rfl (lv_room (Nat.le_of_ble_eq_true rfl)) dX2_onlyCauseOf_35 ⟨Nat.le_of_ble_eq_true rfl, Nat.le_of_ble_eq_true rfl⟩) hP hS (fun rq35 H locs hp35 hP hS => ?_)
        refine r_i (va_runV (As := [.int vq32, .int rq35]) (rest := []) ⟨hx, hb, hml, hown, hts⟩ (k_X2_isRight l hT g_h0 vq32 rq35) (cwV 2 hts gX2_onlyCauseOf_X2_isRight rfl rfl rfl (by decide +kernel) ⟨Nat.le_of_ble_eq_true rfl, Nat.le_of_ble_eq_true rfl⟩) (rPreV (hT.rcv3 g_h0 hK hP) hP hK hD hN) rfl rfl hl.1 rfl (lv_room (Nat.le_of_ble_eq_true rfl)) dX2_onlyCauseOf_38 ⟨Nat.le_of_ble_eq_true rfl, Nat.le_of_ble_eq_true rfl⟩) hP hS (fun rq38 H locs hp38 hP hS => ?_)
        refine lv_if_eq (tgt := 46) hx hb dX2_onlyCauseOf_41 (by decide) (fun cq41 => ?_) (fun cq41 => ?_)
        · skip
          obtain ⟨vq46, eq46⟩ : ∃ y : Int32, y = zq2 + 1 := ⟨_, rfl⟩
          refine lv_iinc (v := vq46) (lv' := [(2, .int vq46), (0, .ref h0), (1, .int pq1)]) hx hb dX2_onlyCauseOf_46 hl (k := 2) rfl (by rw [eq46]; rfl) (by decide) rfl (fun ls hl => ?_)
          refine lv_goto (tgt := 14) hx hb dX2_onlyCauseOf_49 (by decide) ?_
          exact ih14 _ _ vq46 hP hS (iq_up hm14 cq19 eq46) _ (lv_sub hl [1, 2, 0] rfl)
        · skip
          refine lv_iload_n hx hb dX2_onlyCauseOf_44 rfl (lv_at hl 2 rfl) ?_
          exact W.iret (v := zq2) hx hb hr (fun t ht hW => ⟨⟨zq2, (), rfl, trivial, trivial⟩, hS.F ht⟩) hS.2.2 dX2_onlyCauseOf_45
  refine lv_aload_n hx hb dX2_onlyCauseOf_0 rfl (lv_at hl 0 rfl) ?_
  refine lv_iload_n hx hb dX2_onlyCauseOf_1 rfl (lv_at hl 1 rfl) ?_
  refine r_i (va_runV (As := [.int pq1]) (rest := []) ⟨hx, hb, hml, hown, hts⟩ (k_X2_causesOf l hT g_h0 pq1) (cwV 1 hts gX2_onlyCauseOf_X2_causesOf rfl rfl rfl (by decide +kernel) ⟨Nat.le_of_ble_eq_true rfl, Nat.le_of_ble_eq_true rfl⟩) (rPreV (hT.rcv3 g_h0 hK hP) hP hK hD hN) rfl rfl hl.1 rfl (lv_room (Nat.le_of_ble_eq_true rfl)) dX2_onlyCauseOf_2 ⟨Nat.le_of_ble_eq_true rfl, Nat.le_of_ble_eq_true rfl⟩) hP hS (fun rq2 H locs hp2 hP hS => ?_)
  refine lv_iconst (v := 1) hx hb dX2_onlyCauseOf_5 (by decide) ?_
  refine lv_icmp_eq (tgt := 12) hx hb dX2_onlyCauseOf_6 (by decide) (fun cq6 => ?_) (fun cq6 => ?_)
  · skip
    refine lv_iconst (v := 0) hx hb dX2_onlyCauseOf_12 (by decide) ?_
    refine lv_istore_n (lv' := [(2, .int 0), (0, .ref h0), (1, .int pq1)]) hx hb dX2_onlyCauseOf_13 rfl hl (by decide) rfl (fun ls hl => ?_)
    exact hJ14 ((2147483647 - (0 : Int32).toInt).toNat + 1) _ _ 0 hP hS (Nat.lt_succ_self _) _ (lv_sub hl [1, 2, 0] rfl)
  · skip
    refine lv_ldc (v := (-1000000)) hx hb hown (hts (.constant RX2 86 (-1000000)) (by decide +kernel)) dX2_onlyCauseOf_9 ?_
    exact W.iret (v := (-1000000)) hx hb hr (fun t ht hW => ⟨⟨(-1000000), (), rfl, trivial, trivial⟩, hS.F ht⟩) hS.2.2 dX2_onlyCauseOf_11
abbrev rmX2_verdictOf : Room := { frames := 6, cells := 0, slots := 0, locals := 130 }
set_option maxHeartbeats 4000000 in
set_option maxRecDepth 100000 in
theorem k_X2_verdictOf (l : Launch) {K : Cx} {G0 : Nat → Nat} {w0 : va_W} (hT : TH K G0 w0) {h0 : Nat} (g_h0 : G0 h0 = 3) (pq1 : Int32)  : Ri l K yX2_verdictOf wsX2_verdictOf rmX2_verdictOf [.ref h0, .int pq1] w0 (fun _ => True) := by
  refine Met.ofW (cc := cX2_verdictOf) (maxL := 3) (ret := (some .int)) (by decide) rfl ?_
  intro p e s m args below meth c s₁ B hml hv
  obtain ⟨rfl, hP, hK, hD, hN⟩ := hv
  have hx := B.exec
  have hb := B.bytes
  have hr := B.returns
  have hts := atoms_spec (ws := wsX2_verdictOf) B.pre
  have hown : s.vm.findClass RX2 = some m.cls := findClass_of_methodNamed B.named
  have hlocks := B.notSynchronized
  have hS : va_S (fun _ => False) s.heap s.heap [] := va_S.rf
  have hl := lv_entry ([.ref h0, .int pq1]) (n := 3) (Nat.le_of_ble_eq_true rfl)
  rw [lg_entry_eq]
  generalize (lg_sl ([.ref h0, .int pq1]) ++ List.replicate (3 - (lg_sl ([.ref h0, .int pq1])).length) Slot.unset).toArray = ls at hl ⊢
  have hl : lv_has ls 3 [(0, .ref h0), (1, .int pq1)] := hl
  refine lv_aload_n hx hb dX2_verdictOf_0 rfl (lv_at hl 0 rfl) ?_
  refine lv_iload_n hx hb dX2_verdictOf_1 rfl (lv_at hl 1 rfl) ?_
  refine r_i (va_runV (As := [.int pq1]) (rest := []) ⟨hx, hb, hml, hown, hts⟩ (k_X2_wordOf l hT g_h0 pq1) (cwV 1 hts gX2_verdictOf_X2_wordOf rfl rfl rfl (by decide +kernel) ⟨Nat.le_of_ble_eq_true rfl, Nat.le_of_ble_eq_true rfl⟩) (rPreV (hT.rcv3 g_h0 hK hP) hP hK hD hN) rfl rfl hl.1 rfl (lv_room (Nat.le_of_ble_eq_true rfl)) dX2_verdictOf_2 ⟨Nat.le_of_ble_eq_true rfl, Nat.le_of_ble_eq_true rfl⟩) hP hS (fun rq2 H locs hp2 hP hS => ?_)
  refine lv_istore_n (lv' := [(2, .int rq2), (0, .ref h0), (1, .int pq1)]) hx hb dX2_verdictOf_5 rfl hl (by decide) rfl (fun ls hl => ?_)
  refine lv_aload_n hx hb dX2_verdictOf_6 rfl (lv_at hl 1 rfl) ?_
  refine lv_iload_n hx hb dX2_verdictOf_7 rfl (lv_at hl 0 rfl) ?_
  refine r_i (va_runV (As := [.int rq2]) (rest := []) ⟨hx, hb, hml, hown, hts⟩ (k_X2_isSound l hT g_h0 rq2) (cwV 1 hts gX2_verdictOf_X2_isSound rfl rfl rfl (by decide +kernel) ⟨Nat.le_of_ble_eq_true rfl, Nat.le_of_ble_eq_true rfl⟩) (rPreV (hT.rcv3 g_h0 hK hP) hP hK hD hN) rfl rfl hl.1 rfl (lv_room (Nat.le_of_ble_eq_true rfl)) dX2_verdictOf_8 ⟨Nat.le_of_ble_eq_true rfl, Nat.le_of_ble_eq_true rfl⟩) hP hS (fun rq8 H locs hp8 hP hS => ?_)
  refine lv_if_eq (tgt := 33) hx hb dX2_verdictOf_11 (by decide) (fun cq11 => ?_) (fun cq11 => ?_)
  · skip
    refine lv_aload_n hx hb dX2_verdictOf_33 rfl (lv_at hl 1 rfl) ?_
    refine lv_iload_n hx hb dX2_verdictOf_34 rfl (lv_at hl 2 rfl) ?_
    refine r_i (va_runV (As := [.int pq1]) (rest := []) ⟨hx, hb, hml, hown, hts⟩ (k_X2_causesOf l hT g_h0 pq1) (cwV 1 hts gX2_verdictOf_X2_causesOf rfl rfl rfl (by decide +kernel) ⟨Nat.le_of_ble_eq_true rfl, Nat.le_of_ble_eq_true rfl⟩) (rPreV (hT.rcv3 g_h0 hK hP) hP hK hD hN) rfl rfl hl.1 rfl (lv_room (Nat.le_of_ble_eq_true rfl)) dX2_verdictOf_35 ⟨Nat.le_of_ble_eq_true rfl, Nat.le_of_ble_eq_true rfl⟩) hP hS (fun rq35 H locs hp35 hP hS => ?_)
    refine lv_iconst (v := 1) hx hb dX2_verdictOf_38 (by decide) ?_
    refine lv_icmp_ne (tgt := 46) hx hb dX2_verdictOf_39 (by decide) (fun cq39 => ?_) (fun cq39 => ?_)
    · skip
      refine lv_iconst (v := 3) hx hb dX2_verdictOf_46 (by decide) ?_
      exact W.iret (v := 3) hx hb hr (fun t ht hW => ⟨⟨3, (), rfl, trivial, trivial⟩, hS.F ht⟩) hS.2.2 dX2_verdictOf_47
    · skip
      refine lv_iconst (v := 2) hx hb dX2_verdictOf_42 (by decide) ?_
      refine lv_goto (tgt := 47) hx hb dX2_verdictOf_43 (by decide) ?_
      exact W.iret (v := 2) hx hb hr (fun t ht hW => ⟨⟨2, (), rfl, trivial, trivial⟩, hS.F ht⟩) hS.2.2 dX2_verdictOf_47
  · skip
    refine lv_aload_n hx hb dX2_verdictOf_14 rfl (lv_at hl 1 rfl) ?_
    refine lv_iload_n hx hb dX2_verdictOf_15 rfl (lv_at hl 0 rfl) ?_
    refine lv_aload_n hx hb dX2_verdictOf_16 rfl (lv_at hl 1 rfl) ?_
    refine lv_iload_n hx hb dX2_verdictOf_17 rfl (lv_at hl 2 rfl) ?_
    refine r_i (va_runV (As := [.int pq1]) (rest := [.int rq2, .ref h0]) ⟨hx, hb, hml, hown, hts⟩ (k_X2_residueOf l hT g_h0 pq1) (cwV 1 hts gX2_verdictOf_X2_residueOf rfl rfl rfl (by decide +kernel) ⟨Nat.le_of_ble_eq_true rfl, Nat.le_of_ble_eq_true rfl⟩) (rPreV (hT.rcv3 g_h0 hK hP) hP hK hD hN) rfl rfl hl.1 rfl (lv_room (Nat.le_of_ble_eq_true rfl)) dX2_verdictOf_18 ⟨Nat.le_of_ble_eq_true rfl, Nat.le_of_ble_eq_true rfl⟩) hP hS (fun rq18 H locs hp18 hP hS => ?_)
    refine r_i (va_runV (As := [.int rq2, .int rq18]) (rest := []) ⟨hx, hb, hml, hown, hts⟩ (k_X2_isRight l hT g_h0 rq2 rq18) (cwV 2 hts gX2_verdictOf_X2_isRight rfl rfl rfl (by decide +kernel) ⟨Nat.le_of_ble_eq_true rfl, Nat.le_of_ble_eq_true rfl⟩) (rPreV (hT.rcv3 g_h0 hK hP) hP hK hD hN) rfl rfl hl.1 rfl (lv_room (Nat.le_of_ble_eq_true rfl)) dX2_verdictOf_21 ⟨Nat.le_of_ble_eq_true rfl, Nat.le_of_ble_eq_true rfl⟩) hP hS (fun rq21 H locs hp21 hP hS => ?_)
    refine lv_if_eq (tgt := 31) hx hb dX2_verdictOf_24 (by decide) (fun cq24 => ?_) (fun cq24 => ?_)
    · skip
      refine lv_iconst (v := 1) hx hb dX2_verdictOf_31 (by decide) ?_
      exact W.iret (v := 1) hx hb hr (fun t ht hW => ⟨⟨1, (), rfl, trivial, trivial⟩, hS.F ht⟩) hS.2.2 dX2_verdictOf_32
    · skip
      refine lv_iconst (v := 0) hx hb dX2_verdictOf_27 (by decide) ?_
      refine lv_goto (tgt := 32) hx hb dX2_verdictOf_28 (by decide) ?_
      exact W.iret (v := 0) hx hb hr (fun t ht hW => ⟨⟨0, (), rfl, trivial, trivial⟩, hS.F ht⟩) hS.2.2 dX2_verdictOf_32
abbrev rmX2_put : Room := { frames := 1, cells := 0, slots := 0, locals := 20 }
set_option maxHeartbeats 4000000 in
set_option maxRecDepth 100000 in
theorem k_X2_put (l : Launch) {K : Cx} {G0 : Nat → Nat} {w0 : va_W} (hT : TH K G0 w0) (sz : Nat) {h0 : Nat} (g_h0 : G0 h0 = 3) (pq1 : Int32) (pq2 : Int32) (pq3 : Int32)  : Cv l K yX2_put wsX2_put rmX2_put 0 0 [.ref h0, .int pq1, .int pq2, .int pq3] G0 w0 sz (fun _ _ => True) := by
  refine Met.ofW (cc := cX2_put) (maxL := 4) (ret := none) (by decide) rfl ?_
  intro p e s m args below meth c s₁ B hml hv
  obtain ⟨rfl, hsz, hP, hK, hD0, hN⟩ := hv
  have hx := B.exec
  have hb := B.bytes
  have hr := B.returns
  have hts := atoms_spec (ws := wsX2_put) B.pre
  have hown : s.vm.findClass RX2 = some m.cls := findClass_of_methodNamed B.named
  have hlocks := B.notSynchronized
  have hinX2 : ∀ w ∈ wsX20, w ∈ wsX2_put := by decide +kernel
  subst hsz
  have hD := hD0.self (sz := s.heap.size)
  generalize hAe : va_A w0 s.heap.size = A at hD ⊢
  have hA : ∀ q : Nat, s.heap.size ≤ q → A q := fun q h => by rw [← hAe]; exact Or.inr h
  have hS : va_S A s.heap s.heap [] := va_S.rf
  have hG : gLe G0 G0 := gLe.rf
  have hl := lv_entry ([.ref h0, .int pq1, .int pq2, .int pq3]) (n := 4) (Nat.le_of_ble_eq_true rfl)
  rw [lg_entry_eq]
  generalize (lg_sl ([.ref h0, .int pq1, .int pq2, .int pq3]) ++ List.replicate (4 - (lg_sl ([.ref h0, .int pq1, .int pq2, .int pq3])).length) Slot.unset).toArray = ls at hl ⊢
  have hl : lv_has ls 4 [(0, .ref h0), (1, .int pq1), (2, .int pq2), (3, .int pq3)] := hl
  refine lv_iload_n hx hb dX2_put_0 rfl (lv_at hl 1 rfl) ?_
  refine r_i (va_runSN (As := [.int pq1]) (rest := []) ⟨hx, hb, hml, hown, hts⟩ (k_X5_isRegister l pq1) ⟨va_cnB 1 hts gX2_put_X5_isRegister_n42 rfl rfl rfl (hN.m (o := RX5) (by decide +kernel)) (hts (.initialized RX5) (by decide +kernel)) (by decide +kernel) ⟨Nat.le_of_ble_eq_true rfl, Nat.le_of_ble_eq_true rfl⟩, hts (.static yX5_isRegister) (by decide +kernel), trivial⟩ (pPreS) rfl rfl hl.1 rfl (lv_room (Nat.le_of_ble_eq_true rfl)) dX2_put_1 ⟨Nat.le_of_ble_eq_true rfl, Nat.le_of_ble_eq_true rfl⟩) hP hS (fun rq1 H locs hp1 hP hS => ?_)
  refine lv_if_eq (tgt := 21) hx hb dX2_put_4 (by decide) (fun cq4 => ?_) (fun cq4 => ?_)
  · skip
    exact W.vret hx hb hr (fun t ht hW => ⟨⟨(G0, w0), rfl, ⟨trivial, hG, hT⟩, by rw [ht]; exact hP, hD⟩, hS.F ht⟩) hS.2.2 dX2_put_21
  · skip
    refine lv_aload_n hx hb dX2_put_7 rfl (lv_at hl 0 rfl) ?_
    obtain ⟨kq8, xq8, yq8, qq8, rq8, hk8, g_q8, g_r8⟩ := hT.k3 g_h0
    refine va_get (D := K.1) (ci := 2) (v := .ref qq8) (C := RX2) (T := TX2) (N := 4) hx hb hts hinX2 hown hK hP kq8 hk8 rfl 2 (by decide) (hts (.fieldLink RX2 18 "CodedWords$Code" "words" "[I") (by decide +kernel)) (fun _ h9 => h9) rfl dX2_put_8 ?_
    refine lv_iload_n hx hb dX2_put_11 rfl (lv_at hl 1 rfl) ?_
    refine lv_iload_n hx hb dX2_put_12 rfl (lv_at hl 2 rfl) ?_
    refine t_iast hx hb hK hP hD hS hT g_q8 rfl (iq_in (hp1.resolve_left cq4).2.1 (hp1.resolve_left cq4).2.2) dX2_put_13 (fun w H locs hT hP hD hS hkp => ?_)
    have hk8 := hkp _ _ _ hk8
    refine lv_aload_n hx hb dX2_put_14 rfl (lv_at hl 0 rfl) ?_
    refine va_get (D := K.1) (ci := 2) (v := .ref rq8) (C := RX2) (T := TX2) (N := 4) hx hb hts hinX2 hown hK hP kq8 hk8 rfl 3 (by decide) (hts (.fieldLink RX2 22 "CodedWords$Code" "residues" "[I") (by decide +kernel)) (fun _ h9 => h9) rfl dX2_put_15 ?_
    refine lv_iload_n hx hb dX2_put_18 rfl (lv_at hl 1 rfl) ?_
    refine lv_iload_n hx hb dX2_put_19 rfl (lv_at hl 3 rfl) ?_
    refine t_iast hx hb hK hP hD hS hT g_r8 rfl (iq_in (hp1.resolve_left cq4).2.1 (hp1.resolve_left cq4).2.2) dX2_put_20 (fun w H locs hT hP hD hS hkp => ?_)
    have hk8 := hkp _ _ _ hk8
    exact W.vret hx hb hr (fun t ht hW => ⟨⟨(G0, w), rfl, ⟨trivial, hG, hT⟩, by rw [ht]; exact hP, hD⟩, hS.F ht⟩) hS.2.2 dX2_put_21
abbrev rmX2_startAs : Room := { frames := 1, cells := 0, slots := 0, locals := 23 }
set_option maxHeartbeats 4000000 in
set_option maxRecDepth 100000 in
theorem k_X2_startAs (l : Launch) {K : Cx} {G0 : Nat → Nat} {w0 : va_W} (hT : TH K G0 w0) (sz : Nat) {h0 : Nat} (g_h0 : G0 h0 = 3) (pq1 : Int32) (pq2 : Int32)  : Cv l K yX2_startAs wsX2_startAs rmX2_startAs 0 0 [.ref h0, .int pq1, .int pq2] G0 w0 sz (fun _ w1 => cell3 w1 h0 pq1 pq2 ∧ kpO w0 w1 h0) := by
  refine Met.ofW (cc := cX2_startAs) (maxL := 3) (ret := none) (by decide) rfl ?_
  intro p e s m args below meth c s₁ B hml hv
  obtain ⟨rfl, hsz, hP, hK, hD0, hN⟩ := hv
  have hx := B.exec
  have hb := B.bytes
  have hr := B.returns
  have hts := atoms_spec (ws := wsX2_startAs) B.pre
  have hown : s.vm.findClass RX2 = some m.cls := findClass_of_methodNamed B.named
  have hlocks := B.notSynchronized
  have hinX2 : ∀ w ∈ wsX20, w ∈ wsX2_startAs := by decide +kernel
  subst hsz
  have hD := hD0.self (sz := s.heap.size)
  generalize hAe : va_A w0 s.heap.size = A at hD ⊢
  have hA : ∀ q : Nat, s.heap.size ≤ q → A q := fun q h => by rw [← hAe]; exact Or.inr h
  have hS : va_S A s.heap s.heap [] := va_S.rf
  have hG : gLe G0 G0 := gLe.rf
  have hl := lv_entry ([.ref h0, .int pq1, .int pq2]) (n := 3) (Nat.le_of_ble_eq_true rfl)
  rw [lg_entry_eq]
  generalize (lg_sl ([.ref h0, .int pq1, .int pq2]) ++ List.replicate (3 - (lg_sl ([.ref h0, .int pq1, .int pq2])).length) Slot.unset).toArray = ls at hl ⊢
  have hl : lv_has ls 3 [(0, .ref h0), (1, .int pq1), (2, .int pq2)] := hl
  refine lv_aload_n hx hb dX2_startAs_0 rfl (lv_at hl 0 rfl) ?_
  refine lv_iload_n hx hb dX2_startAs_1 rfl (lv_at hl 1 rfl) ?_
  obtain ⟨kq2, xq2, yq2, qq2, rq2, hk2, g_q2, g_r2⟩ := hT.k3 g_h0
  refine t_put (ci := 2) (v := .int pq1) (ty := .int) (C := RX2) (T := TX2) (N := 4) hx hb hts hinX2 tyX2 tyX2_ok nmX2 hown hK hP hD hS hT kq2 hk2 rfl 0 (by decide) (hts (.fieldLink RX2 9 "CodedWords$Code" "a" "I") (by decide +kernel)) (fun _ h9 => h9) rfl (by decide +kernel) rfl rfl (Nat.le_of_ble_eq_true rfl) (by rw [g_h0]; exact ⟨_, _, _, _, rfl, g_q2, g_r2⟩) dX2_startAs_2 (fun w H locs hT hP hD hS hnw hkp => ?_)
  have hc2 : cell3 w h0 pq1 yq2 := ⟨kq2, qq2, rq2, hnw⟩
  have ho2 : kpO w0 w h0 := hkp
  refine lv_aload_n hx hb dX2_startAs_5 rfl (lv_at hl 0 rfl) ?_
  refine lv_iload_n hx hb dX2_startAs_6 rfl (lv_at hl 2 rfl) ?_
  have hD7 := hD
  obtain ⟨kq7, xq7, yq7, qq7, rq7, hk7, g_q7, g_r7⟩ := hT.k3 g_h0
  refine t_put (ci := 2) (v := .int pq2) (ty := .int) (C := RX2) (T := TX2) (N := 4) hx hb hts hinX2 tyX2 tyX2_ok nmX2 hown hK hP hD hS hT kq7 hk7 rfl 1 (by decide) (hts (.fieldLink RX2 15 "CodedWords$Code" "width" "I") (by decide +kernel)) (fun _ h9 => h9) rfl (by decide +kernel) rfl rfl (Nat.le_of_ble_eq_true rfl) (by rw [g_h0]; exact ⟨_, _, _, _, rfl, g_q7, g_r7⟩) dX2_startAs_7 (fun w H locs hT hP hD hS hnw hkp => ?_)
  have hx7 : xq7 = pq1 := (hc2.eq hD7 hk7).1
  have hc10 : cell3 w h0 pq1 pq2 := ⟨kq7, qq7, rq7, by have h9 : w[kq7]? = some (h0, .inr (2, [.int xq7, .int pq2, .ref qq7, .ref rq7])) := hnw; rw [hx7] at h9; exact h9⟩
  have ho10 : kpO w0 w h0 := fun j b o hb9 hj => hkp j b o hb9 (ho2 j b o hb9 hj)
  refine lv_aload_n hx hb dX2_startAs_10 rfl (lv_at hl 0 rfl) ?_
  obtain ⟨kq11, xq11, yq11, qq11, rq11, hk11, g_q11, g_r11⟩ := hT.k3 g_h0
  refine va_get (D := K.1) (ci := 2) (v := .ref qq11) (C := RX2) (T := TX2) (N := 4) hx hb hts hinX2 hown hK hP kq11 hk11 rfl 2 (by decide) (hts (.fieldLink RX2 18 "CodedWords$Code" "words" "[I") (by decide +kernel)) (fun _ h9 => h9) rfl dX2_startAs_11 ?_
  refine lv_iconst (v := 0) hx hb dX2_startAs_14 (by decide) ?_
  refine c_v (K := K) (K2 := K) (G := G0) (w := w) (post := fun _ w1 => kpA w w1) (va_runS (mc := 0) (ms := 0) (rm := rmJ7_fill_53178) (As := [.ref qq11, .int 0]) (rest := []) ⟨hx, hb, hml, hown, hts⟩ (k_J7_fill_53178 l hT H.size g_q11 rfl 0) (va_cwS 2 hts gX2_startAs_J7_fill_53178 rfl rfl rfl (by decide +kernel) ⟨Nat.le_of_ble_eq_true rfl, Nat.le_of_ble_eq_true rfl⟩) (kPreS hP hK hD hN) rfl rfl hl.1 rfl (lv_room (Nat.le_of_ble_eq_true rfl)) dX2_startAs_15 ⟨Nat.le_of_ble_eq_true rfl, Nat.le_of_ble_eq_true rfl⟩) hD hS hA (fun G w H locs hp15 hg hT hP hD hS => ?_)
  have hG := hG.tr hg
  have g_h0 := hg.at g_h0 (by decide)
  have hc18 := hc10.kp hp15
  have ho18 : kpO w0 w h0 := fun j b o hb9 hj => hp15 j b o (ho10 j b o hb9 hj)
  refine lv_aload_n hx hb dX2_startAs_18 rfl (lv_at hl 0 rfl) ?_
  obtain ⟨kq19, xq19, yq19, qq19, rq19, hk19, g_q19, g_r19⟩ := hT.k3 g_h0
  refine va_get (D := K.1) (ci := 2) (v := .ref rq19) (C := RX2) (T := TX2) (N := 4) hx hb hts hinX2 hown hK hP kq19 hk19 rfl 3 (by decide) (hts (.fieldLink RX2 22 "CodedWords$Code" "residues" "[I") (by decide +kernel)) (fun _ h9 => h9) rfl dX2_startAs_19 ?_
  refine lv_iconst (v := 0) hx hb dX2_startAs_22 (by decide) ?_
  refine c_v (K := K) (K2 := K) (G := G) (w := w) (post := fun _ w1 => kpA w w1) (va_runS (mc := 0) (ms := 0) (rm := rmJ7_fill_53178) (As := [.ref rq19, .int 0]) (rest := []) ⟨hx, hb, hml, hown, hts⟩ (k_J7_fill_53178 l hT H.size g_r19 rfl 0) (va_cwS 2 hts gX2_startAs_J7_fill_53178 rfl rfl rfl (by decide +kernel) ⟨Nat.le_of_ble_eq_true rfl, Nat.le_of_ble_eq_true rfl⟩) (kPreS hP hK hD hN) rfl rfl hl.1 rfl (lv_room (Nat.le_of_ble_eq_true rfl)) dX2_startAs_23 ⟨Nat.le_of_ble_eq_true rfl, Nat.le_of_ble_eq_true rfl⟩) hD hS hA (fun G w H locs hp23 hg hT hP hD hS => ?_)
  have hG := hG.tr hg
  have g_h0 := hg.at g_h0 (by decide)
  have hc26 := hc18.kp hp23
  have ho26 : kpO w0 w h0 := fun j b o hb9 hj => hp23 j b o (ho18 j b o hb9 hj)
  exact W.vret hx hb hr (fun t ht hW => ⟨⟨(G, w), rfl, ⟨⟨hc26, ho26⟩, hG, hT⟩, by rw [ht]; exact hP, hD⟩, hS.F ht⟩) hS.2.2 dX2_startAs_26
abbrev rmX2_copyFrom : Room := { frames := 2, cells := 0, slots := 0, locals := 43 }
set_option maxHeartbeats 4000000 in
set_option maxRecDepth 100000 in
theorem k_X2_copyFrom (l : Launch) {K : Cx} {G0 : Nat → Nat} {w0 : va_W} (hT : TH K G0 w0) (sz : Nat) {h0 : Nat} (g_h0 : G0 h0 = 3) {h1 : Nat} (g_h1 : G0 h1 = 3)  : Cv l K yX2_copyFrom wsX2_copyFrom rmX2_copyFrom 0 0 [.ref h0, .ref h1] G0 w0 sz (fun _ _ => True) := by
  refine Met.ofW (cc := cX2_copyFrom) (maxL := 3) (ret := none) (by decide) rfl ?_
  intro p e s m args below meth c s₁ B hml hv
  obtain ⟨rfl, hsz, hP, hK, hD0, hN⟩ := hv
  have hx := B.exec
  have hb := B.bytes
  have hr := B.returns
  have hts := atoms_spec (ws := wsX2_copyFrom) B.pre
  have hown : s.vm.findClass RX2 = some m.cls := findClass_of_methodNamed B.named
  have hlocks := B.notSynchronized
  have hinX2 : ∀ w ∈ wsX20, w ∈ wsX2_copyFrom := by decide +kernel
  subst hsz
  have hD := hD0.self (sz := s.heap.size)
  generalize hAe : va_A w0 s.heap.size = A at hD ⊢
  have hA : ∀ q : Nat, s.heap.size ≤ q → A q := fun q h => by rw [← hAe]; exact Or.inr h
  have hS : va_S A s.heap s.heap [] := va_S.rf
  have hG : gLe G0 G0 := gLe.rf
  have hl := lv_entry ([.ref h0, .ref h1]) (n := 3) (Nat.le_of_ble_eq_true rfl)
  rw [lg_entry_eq]
  generalize (lg_sl ([.ref h0, .ref h1]) ++ List.replicate (3 - (lg_sl ([.ref h0, .ref h1])).length) Slot.unset).toArray = ls at hl ⊢
  have hl : lv_has ls 3 [(0, .ref h0), (1, .ref h1)] := hl
  have hJ18 : ∀ (n18 : Nat) (G : Nat → Nat) (w : va_W) (H : Heap) (locs : List Loc) (zq2 : Int32), (gLe G0 G) → (TH K G w) → (va_P K.1 vwCl w H) → (va_D A w) → (va_S A s.heap H locs) → (G h0 = 3) → (G h1 = 3) → ((2147483647 - zq2.toInt).toNat < n18) → ∀ (ls : Array Slot), lv_has ls 3 [(0, .ref h0), (1, .ref h1), (2, .int zq2)] → W p l e rmX2_copyFrom s m [.ref h0, .ref h1].toArray below meth c H locs 0 0 (MQ below (va_Qv (fun (u : (Nat → Nat) × va_W) => (fun _ _ => True) u.1 u.2 ∧ gLe G0 u.1 ∧ TH (K) u.1 u.2) (fun u t => va_P K.1 vwCl u.2 t.heap ∧ va_D A u.2) A) [.ref h0, .ref h1].toArray s 0 0 A) (F0 m 18 ls []) := by
    intro n18
    induction n18 with
    | zero =>
      intro G w H locs zq2 hG hT hP hD hS g_h0 g_h1 hm18 ls hl
      exact absurd hm18 (Nat.not_lt_zero _)
    | succ n18 ih18 =>
      intro G w H locs zq2 hG hT hP hD hS g_h0 g_h1 hm18 ls hl
      refine lv_iload_n hx hb dX2_copyFrom_18 rfl (lv_at hl 2 rfl) ?_
      refine lv_iconst (v := 4) hx hb dX2_copyFrom_19 (by decide) ?_
      refine lv_icmp_ge (tgt := 44) hx hb dX2_copyFrom_20 (by decide) (fun cq20 => ?_) (fun cq20 => ?_)
      · skip
        exact W.vret hx hb hr (fun t ht hW => ⟨⟨(G, w), rfl, ⟨trivial, hG, hT⟩, by rw [ht]; exact hP, hD⟩, hS.F ht⟩) hS.2.2 dX2_copyFrom_44
      · skip
        refine lv_aload_n hx hb dX2_copyFrom_23 rfl (lv_at hl 0 rfl) ?_
        refine lv_iload_n hx hb dX2_copyFrom_24 rfl (lv_at hl 2 rfl) ?_
        refine lv_aload_n hx hb dX2_copyFrom_25 rfl (lv_at hl 1 rfl) ?_
        refine lv_iload_n hx hb dX2_copyFrom_26 rfl (lv_at hl 2 rfl) ?_
        refine r_i (va_runV (As := [.int zq2]) (rest := [.int zq2, .ref h0]) ⟨hx, hb, hml, hown, hts⟩ (k_X2_wordOf l hT g_h1 zq2) (cwV 1 hts gX2_copyFrom_X2_wordOf rfl rfl rfl (by decide +kernel) ⟨Nat.le_of_ble_eq_true rfl, Nat.le_of_ble_eq_true rfl⟩) (rPreV (hT.rcv3 g_h1 hK hP) hP hK hD hN) rfl rfl hl.1 rfl (lv_room (Nat.le_of_ble_eq_true rfl)) dX2_copyFrom_27 ⟨Nat.le_of_ble_eq_true rfl, Nat.le_of_ble_eq_true rfl⟩) hP hS (fun rq27 H locs hp27 hP hS => ?_)
        refine lv_aload_n hx hb dX2_copyFrom_30 rfl (lv_at hl 1 rfl) ?_
        refine lv_iload_n hx hb dX2_copyFrom_31 rfl (lv_at hl 2 rfl) ?_
        refine r_i (va_runV (As := [.int zq2]) (rest := [.int rq27, .int zq2, .ref h0]) ⟨hx, hb, hml, hown, hts⟩ (k_X2_residueOf l hT g_h1 zq2) (cwV 1 hts gX2_copyFrom_X2_residueOf rfl rfl rfl (by decide +kernel) ⟨Nat.le_of_ble_eq_true rfl, Nat.le_of_ble_eq_true rfl⟩) (rPreV (hT.rcv3 g_h1 hK hP) hP hK hD hN) rfl rfl hl.1 rfl (lv_room (Nat.le_of_ble_eq_true rfl)) dX2_copyFrom_32 ⟨Nat.le_of_ble_eq_true rfl, Nat.le_of_ble_eq_true rfl⟩) hP hS (fun rq32 H locs hp32 hP hS => ?_)
        refine c_v (K := K) (K2 := K) (G := G) (w := w) (post := fun _ _ => True) (va_runV (mc := 0) (ms := 0) (rm := rmX2_put) (As := [.int zq2, .int rq27, .int rq32]) (rest := []) ⟨hx, hb, hml, hown, hts⟩ (k_X2_put l hT H.size g_h0 zq2 rq27 rq32) (cwV 3 hts gX2_copyFrom_X2_put rfl rfl rfl (by decide +kernel) ⟨Nat.le_of_ble_eq_true rfl, Nat.le_of_ble_eq_true rfl⟩) (kPreV (hT.rcv3 g_h0 hK hP) hP hK hD hN) rfl rfl hl.1 rfl (lv_room (Nat.le_of_ble_eq_true rfl)) dX2_copyFrom_35 ⟨Nat.le_of_ble_eq_true rfl, Nat.le_of_ble_eq_true rfl⟩) hD hS hA (fun G w H locs hp35 hg hT hP hD hS => ?_)
        have hG := hG.tr hg
        have g_h0 := hg.at g_h0 (by decide)
        have g_h1 := hg.at g_h1 (by decide)
        obtain ⟨vq38, eq38⟩ : ∃ y : Int32, y = zq2 + 1 := ⟨_, rfl⟩
        refine lv_iinc (v := vq38) (lv' := [(2, .int vq38), (0, .ref h0), (1, .ref h1)]) hx hb dX2_copyFrom_38 hl (k := 2) rfl (by rw [eq38]; rfl) (by decide) rfl (fun ls hl => ?_)
        refine lv_goto (tgt := 18) hx hb dX2_copyFrom_41 (by decide) ?_
        exact ih18 _ _ _ _ vq38 hG hT hP hD hS g_h0 g_h1 (iq_up hm18 cq20 eq38) _ (lv_sub hl [1, 2, 0] rfl)
  refine lv_aload_n hx hb dX2_copyFrom_0 rfl (lv_at hl 0 rfl) ?_
  refine lv_aload_n hx hb dX2_copyFrom_1 rfl (lv_at hl 1 rfl) ?_
  obtain ⟨kq2, xq2, yq2, qq2, rq2, hk2, g_q2, g_r2⟩ := hT.k3 g_h1
  refine va_get (D := K.1) (ci := 2) (v := .int xq2) (C := RX2) (T := TX2) (N := 4) hx hb hts hinX2 hown hK hP kq2 hk2 rfl 0 (by decide) (hts (.fieldLink RX2 9 "CodedWords$Code" "a" "I") (by decide +kernel)) (fun _ h9 => h9) rfl dX2_copyFrom_2 ?_
  obtain ⟨kq5, xq5, yq5, qq5, rq5, hk5, g_q5, g_r5⟩ := hT.k3 g_h0
  refine t_put (ci := 2) (v := .int xq2) (ty := .int) (C := RX2) (T := TX2) (N := 4) hx hb hts hinX2 tyX2 tyX2_ok nmX2 hown hK hP hD hS hT kq5 hk5 rfl 0 (by decide) (hts (.fieldLink RX2 9 "CodedWords$Code" "a" "I") (by decide +kernel)) (fun _ h9 => h9) rfl (by decide +kernel) rfl rfl (Nat.le_of_ble_eq_true rfl) (by rw [g_h0]; exact ⟨_, _, _, _, rfl, g_q5, g_r5⟩) dX2_copyFrom_5 (fun w H locs hT hP hD hS hnw hkp => ?_)
  refine lv_aload_n hx hb dX2_copyFrom_8 rfl (lv_at hl 0 rfl) ?_
  refine lv_aload_n hx hb dX2_copyFrom_9 rfl (lv_at hl 1 rfl) ?_
  obtain ⟨kq10, xq10, yq10, qq10, rq10, hk10, g_q10, g_r10⟩ := hT.k3 g_h1
  refine va_get (D := K.1) (ci := 2) (v := .int yq10) (C := RX2) (T := TX2) (N := 4) hx hb hts hinX2 hown hK hP kq10 hk10 rfl 1 (by decide) (hts (.fieldLink RX2 15 "CodedWords$Code" "width" "I") (by decide +kernel)) (fun _ h9 => h9) rfl dX2_copyFrom_10 ?_
  obtain ⟨kq13, xq13, yq13, qq13, rq13, hk13, g_q13, g_r13⟩ := hT.k3 g_h0
  refine t_put (ci := 2) (v := .int yq10) (ty := .int) (C := RX2) (T := TX2) (N := 4) hx hb hts hinX2 tyX2 tyX2_ok nmX2 hown hK hP hD hS hT kq13 hk13 rfl 1 (by decide) (hts (.fieldLink RX2 15 "CodedWords$Code" "width" "I") (by decide +kernel)) (fun _ h9 => h9) rfl (by decide +kernel) rfl rfl (Nat.le_of_ble_eq_true rfl) (by rw [g_h0]; exact ⟨_, _, _, _, rfl, g_q13, g_r13⟩) dX2_copyFrom_13 (fun w H locs hT hP hD hS hnw hkp => ?_)
  refine lv_iconst (v := 0) hx hb dX2_copyFrom_16 (by decide) ?_
  refine lv_istore_n (lv' := [(2, .int 0), (0, .ref h0), (1, .ref h1)]) hx hb dX2_copyFrom_17 rfl hl (by decide) rfl (fun ls hl => ?_)
  exact hJ18 ((2147483647 - (0 : Int32).toInt).toNat + 1) _ _ _ _ 0 hG hT hP hD hS g_h0 g_h1 (Nat.lt_succ_self _) _ (lv_sub hl [1, 2, 0] rfl)

abbrev rmX5_codes : Room := { frames := 4, cells := 0, slots := 0, locals := 87 }
set_option maxHeartbeats 4000000 in
set_option maxRecDepth 100000 in
theorem k_X5_codes (l : Launch) {K : Cx} {G0 : Nat → Nat} {w0 : va_W} (hT : TH K G0 w0) (sz : Nat) {h0 : Nat} (g_h0 : G0 h0 = 6) (pq1 : Int32) (pq2 : Int32)  : Ci l K yX5_codes wsX5_codes rmX5_codes 0 0 [.ref h0, .int pq1, .int pq2] G0 w0 sz (fun (r : Int32) _ _ => cdA pq1 pq2 r) := by
  refine Met.ofW (cc := cX5_codes) (maxL := 3) (ret := (some .int)) (by decide) rfl ?_
  intro p e s m args below meth c s₁ B hml hv
  obtain ⟨rfl, hsz, hP, hK, hD0, hN⟩ := hv
  have hx := B.exec
  have hb := B.bytes
  have hr := B.returns
  have hts := atoms_spec (ws := wsX5_codes) B.pre
  have hown : s.vm.findClass RX5 = some m.cls := findClass_of_methodNamed B.named
  have hlocks := B.notSynchronized
  have hinX5 : ∀ w ∈ wsX50, w ∈ wsX5_codes := by decide +kernel
  subst hsz
  have hD := hD0.self (sz := s.heap.size)
  generalize hAe : va_A w0 s.heap.size = A at hD ⊢
  have hA : ∀ q : Nat, s.heap.size ≤ q → A q := fun q h => by rw [← hAe]; exact Or.inr h
  have hS : va_S A s.heap s.heap [] := va_S.rf
  have hG : gLe G0 G0 := gLe.rf
  have hl := lv_entry ([.ref h0, .int pq1, .int pq2]) (n := 3) (Nat.le_of_ble_eq_true rfl)
  rw [lg_entry_eq]
  generalize (lg_sl ([.ref h0, .int pq1, .int pq2]) ++ List.replicate (3 - (lg_sl ([.ref h0, .int pq1, .int pq2])).length) Slot.unset).toArray = ls at hl ⊢
  have hl : lv_has ls 3 [(0, .ref h0), (1, .int pq1), (2, .int pq2)] := hl
  refine lv_iload_n hx hb dX5_codes_0 rfl (lv_at hl 1 rfl) ?_
  refine r_i (va_runS (As := [.int pq1]) (rest := []) ⟨hx, hb, hml, hown, hts⟩ (k_X5_isConstant l pq1) (va_cwS 1 hts gX5_codes_X5_isConstant rfl rfl rfl (by decide +kernel) ⟨Nat.le_of_ble_eq_true rfl, Nat.le_of_ble_eq_true rfl⟩) (pPreS) rfl rfl hl.1 rfl (lv_room (Nat.le_of_ble_eq_true rfl)) dX5_codes_1 ⟨Nat.le_of_ble_eq_true rfl, Nat.le_of_ble_eq_true rfl⟩) hP hS (fun rq1 H locs hp1 hP hS => ?_)
  refine lv_if_eq (tgt := 14) hx hb dX5_codes_4 (by decide) (fun cq4 => ?_) (fun cq4 => ?_)
  · skip
    refine lv_ldc (v := (-1000001)) hx hb hown (hts (.constant RX5 51 (-1000001)) (by decide +kernel)) dX5_codes_14 ?_
    exact W.iret (v := (-1000001)) hx hb hr (fun t ht hW => ⟨⟨(-1000001), (G0, w0), rfl, ⟨by first | exact Or.inl ⟨fun h => hp8.2 cq11 h.2, rfl⟩ | exact Or.inl ⟨fun h => hp1.2 cq4 h.1, rfl⟩, hG, hT⟩, by rw [ht]; exact hP, hD⟩, hS.F ht⟩) hS.2.2 dX5_codes_16
  · skip
    refine lv_iload_n hx hb dX5_codes_7 rfl (lv_at hl 2 rfl) ?_
    refine r_i (va_runS (As := [.int pq2]) (rest := []) ⟨hx, hb, hml, hown, hts⟩ (k_X5_isWidth l pq2) (va_cwS 1 hts gX5_codes_X5_isWidth rfl rfl rfl (by decide +kernel) ⟨Nat.le_of_ble_eq_true rfl, Nat.le_of_ble_eq_true rfl⟩) (pPreS) rfl rfl hl.1 rfl (lv_room (Nat.le_of_ble_eq_true rfl)) dX5_codes_8 ⟨Nat.le_of_ble_eq_true rfl, Nat.le_of_ble_eq_true rfl⟩) hP hS (fun rq8 H locs hp8 hP hS => ?_)
    refine lv_if_ne (tgt := 17) hx hb dX5_codes_11 (by decide) (fun cq11 => ?_) (fun cq11 => ?_)
    · skip
      refine lv_aload_n hx hb dX5_codes_17 rfl (lv_at hl 0 rfl) ?_
      obtain ⟨kq18, qq18, rq18, tq18, uq18, vq18, hk18, g_q18, g_r18, g_t18, g_u18, g_v18⟩ := hT.k6 g_h0
      refine va_get (D := K.1) (ci := 5) (v := .ref rq18) (C := RX5) (T := TX5) (N := 5) hx hb hts hinX5 hown hK hP kq18 hk18 rfl 1 (by decide) (hts (.fieldLink RX5 19 "CodedWords" "past" "LCodedWords$Past;") (by decide +kernel)) (fun _ h9 => h9) rfl dX5_codes_18 ?_
      refine lv_aload_n hx hb dX5_codes_21 rfl (lv_at hl 0 rfl) ?_
      refine va_get (D := K.1) (ci := 5) (v := .ref qq18) (C := RX5) (T := TX5) (N := 5) hx hb hts hinX5 hown hK hP kq18 hk18 rfl 0 (by decide) (hts (.fieldLink RX5 10 "CodedWords" "code" "LCodedWords$Code;") (by decide +kernel)) (fun _ h9 => h9) rfl dX5_codes_22 ?_
      refine c_v (K := K) (K2 := K) (G := G0) (w := w0) (post := fun _ _ => True) (va_runV (mc := 0) (ms := 0) (rm := rmX3_remember) (As := [.ref qq18]) (rest := []) ⟨hx, hb, hml, hown, hts⟩ (k_X3_remember l hT H.size g_r18 g_q18) (cwV 1 hts gX5_codes_X3_remember rfl rfl rfl (by decide +kernel) ⟨Nat.le_of_ble_eq_true rfl, Nat.le_of_ble_eq_true rfl⟩) (kPreV (hT.rcv4 g_r18 hK hP) hP hK hD hN) rfl rfl hl.1 rfl (lv_room (Nat.le_of_ble_eq_true rfl)) dX5_codes_25 ⟨Nat.le_of_ble_eq_true rfl, Nat.le_of_ble_eq_true rfl⟩) hD hS hA (fun G w H locs hp25 hg hT hP hD hS => ?_)
      have hG := hG.tr hg
      have g_h0 := hg.at g_h0 (by decide)
      refine lv_aload_n hx hb dX5_codes_28 rfl (lv_at hl 0 rfl) ?_
      obtain ⟨kq29, qq29, rq29, tq29, uq29, vq29, hk29, g_q29, g_r29, g_t29, g_u29, g_v29⟩ := hT.k6 g_h0
      refine va_get (D := K.1) (ci := 5) (v := .ref qq29) (C := RX5) (T := TX5) (N := 5) hx hb hts hinX5 hown hK hP kq29 hk29 rfl 0 (by decide) (hts (.fieldLink RX5 10 "CodedWords" "code" "LCodedWords$Code;") (by decide +kernel)) (fun _ h9 => h9) rfl dX5_codes_29 ?_
      refine lv_iload_n hx hb dX5_codes_32 rfl (lv_at hl 1 rfl) ?_
      refine lv_iload_n hx hb dX5_codes_33 rfl (lv_at hl 2 rfl) ?_
      refine c_v (K := K) (K2 := K) (G := G) (w := w) (post := fun _ w1 => cell3 w1 qq29 pq1 pq2 ∧ kpO w w1 qq29) (va_runV (mc := 0) (ms := 0) (rm := rmX2_startAs) (As := [.int pq1, .int pq2]) (rest := []) ⟨hx, hb, hml, hown, hts⟩ (k_X2_startAs l hT H.size g_q29 pq1 pq2) (cwV 2 hts gX5_codes_X2_startAs rfl rfl rfl (by decide +kernel) ⟨Nat.le_of_ble_eq_true rfl, Nat.le_of_ble_eq_true rfl⟩) (kPreV (hT.rcv3 g_q29 hK hP) hP hK hD hN) rfl rfl hl.1 rfl (lv_room (Nat.le_of_ble_eq_true rfl)) dX5_codes_34 ⟨Nat.le_of_ble_eq_true rfl, Nat.le_of_ble_eq_true rfl⟩) hD hS hA (fun G w H locs hp34 hg hT hP hD hS => ?_)
      have hG := hG.tr hg
      have g_h0 := hg.at g_h0 (by decide)
      have g_q29 := hg.at g_q29 (by decide)
      have hk29 := hp34.2 _ _ _ (fun q => by rw [q] at g_h0; rw [g_h0] at g_q29; exact absurd g_q29 (by decide)) hk29
      refine lv_aload_n hx hb dX5_codes_37 rfl (lv_at hl 0 rfl) ?_
      refine va_get (D := K.1) (ci := 5) (v := .ref qq29) (C := RX5) (T := TX5) (N := 5) hx hb hts hinX5 hown hK hP kq29 hk29 rfl 0 (by decide) (hts (.fieldLink RX5 10 "CodedWords" "code" "LCodedWords$Code;") (by decide +kernel)) (fun _ h9 => h9) rfl dX5_codes_38 ?_
      refine r_i (va_runV (As := []) (rest := []) ⟨hx, hb, hml, hown, hts⟩ (k_X2_reach l hT g_q29) (cwV 0 hts gX5_codes_X2_reach rfl rfl rfl (by decide +kernel) ⟨Nat.le_of_ble_eq_true rfl, Nat.le_of_ble_eq_true rfl⟩) (rPreV (hT.rcv3 g_q29 hK hP) hP hK hD hN) rfl rfl hl.1 rfl (lv_room (Nat.le_of_ble_eq_true rfl)) dX5_codes_41 ⟨Nat.le_of_ble_eq_true rfl, Nat.le_of_ble_eq_true rfl⟩) hP hS (fun rq41 H locs hp41 hP hS => ?_)
      exact W.iret (v := rq41) hx hb hr (fun t ht hW => ⟨⟨rq41, (G, w), rfl, ⟨Or.inr ⟨(hp1.1.resolve_left cq4).2, (hp8.1.resolve_left cq11).2, hp41 _ _ hp34.1 (by have h9 := (hp1.1.resolve_left cq4).2.1; omega)⟩, hG, hT⟩, by rw [ht]; exact hP, hD⟩, hS.F ht⟩) hS.2.2 dX5_codes_44
    · skip
      refine lv_ldc (v := (-1000001)) hx hb hown (hts (.constant RX5 51 (-1000001)) (by decide +kernel)) dX5_codes_14 ?_
      exact W.iret (v := (-1000001)) hx hb hr (fun t ht hW => ⟨⟨(-1000001), (G0, w0), rfl, ⟨by first | exact Or.inl ⟨fun h => hp8.2 cq11 h.2, rfl⟩ | exact Or.inl ⟨fun h => hp1.2 cq4 h.1, rfl⟩, hG, hT⟩, by rw [ht]; exact hP, hD⟩, hS.F ht⟩) hS.2.2 dX5_codes_16
abbrev rmX5_sets : Room := { frames := 4, cells := 0, slots := 0, locals := 87 }
set_option maxHeartbeats 4000000 in
set_option maxRecDepth 100000 in
theorem k_X5_sets (l : Launch) {K : Cx} {G0 : Nat → Nat} {w0 : va_W} (hT : TH K G0 w0) (sz : Nat) {h0 : Nat} (g_h0 : G0 h0 = 6) (pq1 : Int32) (pq2 : Int32)  : Ci l K yX5_sets wsX5_sets rmX5_sets 0 0 [.ref h0, .int pq1, .int pq2] G0 w0 sz (fun _ _ _ => True) := by
  refine Met.ofW (cc := cX5_sets) (maxL := 3) (ret := (some .int)) (by decide) rfl ?_
  intro p e s m args below meth c s₁ B hml hv
  obtain ⟨rfl, hsz, hP, hK, hD0, hN⟩ := hv
  have hx := B.exec
  have hb := B.bytes
  have hr := B.returns
  have hts := atoms_spec (ws := wsX5_sets) B.pre
  have hown : s.vm.findClass RX5 = some m.cls := findClass_of_methodNamed B.named
  have hlocks := B.notSynchronized
  have hinX2 : ∀ w ∈ wsX20, w ∈ wsX5_sets := by decide +kernel
  have hinX5 : ∀ w ∈ wsX50, w ∈ wsX5_sets := by decide +kernel
  subst hsz
  have hD := hD0.self (sz := s.heap.size)
  generalize hAe : va_A w0 s.heap.size = A at hD ⊢
  have hA : ∀ q : Nat, s.heap.size ≤ q → A q := fun q h => by rw [← hAe]; exact Or.inr h
  have hS : va_S A s.heap s.heap [] := va_S.rf
  have hG : gLe G0 G0 := gLe.rf
  have hl := lv_entry ([.ref h0, .int pq1, .int pq2]) (n := 3) (Nat.le_of_ble_eq_true rfl)
  rw [lg_entry_eq]
  generalize (lg_sl ([.ref h0, .int pq1, .int pq2]) ++ List.replicate (3 - (lg_sl ([.ref h0, .int pq1, .int pq2])).length) Slot.unset).toArray = ls at hl ⊢
  have hl : lv_has ls 3 [(0, .ref h0), (1, .int pq1), (2, .int pq2)] := hl
  refine lv_iload_n hx hb dX5_sets_0 rfl (lv_at hl 1 rfl) ?_
  refine r_i (va_runS (As := [.int pq1]) (rest := []) ⟨hx, hb, hml, hown, hts⟩ (k_X5_isRegister l pq1) (va_cwS 1 hts gX5_sets_X5_isRegister rfl rfl rfl (by decide +kernel) ⟨Nat.le_of_ble_eq_true rfl, Nat.le_of_ble_eq_true rfl⟩) (pPreS) rfl rfl hl.1 rfl (lv_room (Nat.le_of_ble_eq_true rfl)) dX5_sets_1 ⟨Nat.le_of_ble_eq_true rfl, Nat.le_of_ble_eq_true rfl⟩) hP hS (fun rq1 H locs hp1 hP hS => ?_)
  refine lv_if_eq (tgt := 18) hx hb dX5_sets_4 (by decide) (fun cq4 => ?_) (fun cq4 => ?_)
  · skip
    refine lv_ldc (v := (-1000001)) hx hb hown (hts (.constant RX5 51 (-1000001)) (by decide +kernel)) dX5_sets_18 ?_
    exact W.iret (v := (-1000001)) hx hb hr (fun t ht hW => ⟨⟨(-1000001), (G0, w0), rfl, ⟨trivial, hG, hT⟩, by rw [ht]; exact hP, hD⟩, hS.F ht⟩) hS.2.2 dX5_sets_20
  · skip
    refine lv_aload_n hx hb dX5_sets_7 rfl (lv_at hl 0 rfl) ?_
    obtain ⟨kq8, qq8, rq8, tq8, uq8, vq8, hk8, g_q8, g_r8, g_t8, g_u8, g_v8⟩ := hT.k6 g_h0
    refine va_get (D := K.1) (ci := 5) (v := .ref qq8) (C := RX5) (T := TX5) (N := 5) hx hb hts hinX5 hown hK hP kq8 hk8 rfl 0 (by decide) (hts (.fieldLink RX5 10 "CodedWords" "code" "LCodedWords$Code;") (by decide +kernel)) (fun _ h9 => h9) rfl dX5_sets_8 ?_
    refine lv_iload_n hx hb dX5_sets_11 rfl (lv_at hl 2 rfl) ?_
    refine r_i (va_runV (As := [.int pq2]) (rest := []) ⟨hx, hb, hml, hown, hts⟩ (k_X2_reaches l hT g_q8 pq2) (cwV 1 hts gX5_sets_X2_reaches rfl rfl rfl (by decide +kernel) ⟨Nat.le_of_ble_eq_true rfl, Nat.le_of_ble_eq_true rfl⟩) (rPreV (hT.rcv3 g_q8 hK hP) hP hK hD hN) rfl rfl hl.1 rfl (lv_room (Nat.le_of_ble_eq_true rfl)) dX5_sets_12 ⟨Nat.le_of_ble_eq_true rfl, Nat.le_of_ble_eq_true rfl⟩) hP hS (fun rq12 H locs hp12 hP hS => ?_)
    refine lv_if_ne (tgt := 21) hx hb dX5_sets_15 (by decide) (fun cq15 => ?_) (fun cq15 => ?_)
    · skip
      refine lv_aload_n hx hb dX5_sets_21 rfl (lv_at hl 0 rfl) ?_
      refine va_get (D := K.1) (ci := 5) (v := .ref rq8) (C := RX5) (T := TX5) (N := 5) hx hb hts hinX5 hown hK hP kq8 hk8 rfl 1 (by decide) (hts (.fieldLink RX5 19 "CodedWords" "past" "LCodedWords$Past;") (by decide +kernel)) (fun _ h9 => h9) rfl dX5_sets_22 ?_
      refine lv_aload_n hx hb dX5_sets_25 rfl (lv_at hl 0 rfl) ?_
      refine va_get (D := K.1) (ci := 5) (v := .ref qq8) (C := RX5) (T := TX5) (N := 5) hx hb hts hinX5 hown hK hP kq8 hk8 rfl 0 (by decide) (hts (.fieldLink RX5 10 "CodedWords" "code" "LCodedWords$Code;") (by decide +kernel)) (fun _ h9 => h9) rfl dX5_sets_26 ?_
      refine c_v (K := K) (K2 := K) (G := G0) (w := w0) (post := fun _ _ => True) (va_runV (mc := 0) (ms := 0) (rm := rmX3_remember) (As := [.ref qq8]) (rest := []) ⟨hx, hb, hml, hown, hts⟩ (k_X3_remember l hT H.size g_r8 g_q8) (cwV 1 hts gX5_sets_X3_remember rfl rfl rfl (by decide +kernel) ⟨Nat.le_of_ble_eq_true rfl, Nat.le_of_ble_eq_true rfl⟩) (kPreV (hT.rcv4 g_r8 hK hP) hP hK hD hN) rfl rfl hl.1 rfl (lv_room (Nat.le_of_ble_eq_true rfl)) dX5_sets_29 ⟨Nat.le_of_ble_eq_true rfl, Nat.le_of_ble_eq_true rfl⟩) hD hS hA (fun G w H locs hp29 hg hT hP hD hS => ?_)
      have hG := hG.tr hg
      have g_h0 := hg.at g_h0 (by decide)
      refine lv_aload_n hx hb dX5_sets_32 rfl (lv_at hl 0 rfl) ?_
      obtain ⟨kq33, qq33, rq33, tq33, uq33, vq33, hk33, g_q33, g_r33, g_t33, g_u33, g_v33⟩ := hT.k6 g_h0
      refine va_get (D := K.1) (ci := 5) (v := .ref qq33) (C := RX5) (T := TX5) (N := 5) hx hb hts hinX5 hown hK hP kq33 hk33 rfl 0 (by decide) (hts (.fieldLink RX5 10 "CodedWords" "code" "LCodedWords$Code;") (by decide +kernel)) (fun _ h9 => h9) rfl dX5_sets_33 ?_
      refine lv_iload_n hx hb dX5_sets_36 rfl (lv_at hl 1 rfl) ?_
      refine lv_aload_n hx hb dX5_sets_37 rfl (lv_at hl 0 rfl) ?_
      refine va_get (D := K.1) (ci := 5) (v := .ref qq33) (C := RX5) (T := TX5) (N := 5) hx hb hts hinX5 hown hK hP kq33 hk33 rfl 0 (by decide) (hts (.fieldLink RX5 10 "CodedWords" "code" "LCodedWords$Code;") (by decide +kernel)) (fun _ h9 => h9) rfl dX5_sets_38 ?_
      obtain ⟨kq41, xq41, yq41, qq41, rq41, hk41, g_q41, g_r41⟩ := hT.k3 g_q33
      refine va_getN (host := RX5) (D := K.1) (ci := 2) (v := .int xq41) (C := RX2) (T := TX2) (N := 4) hx hb hts hinX2 hown hK hP kq41 hk41 rfl 0 (by decide) (hN.f (by decide +kernel)) (fun _ h9 => h9) rfl dX5_sets_41 ?_
      refine lv_iload_n hx hb dX5_sets_44 rfl (lv_at hl 2 rfl) ?_
      refine lv_imul hx hb dX5_sets_45 ?_
      refine lv_topi (fun vq45 eq45 => ?_)
      refine lv_iload_n hx hb dX5_sets_46 rfl (lv_at hl 2 rfl) ?_
      refine lv_bipush (v := 15) hx hb dX5_sets_47 (by decide) ?_
      refine r_i (va_runS (As := [.int pq2, .int 15]) (rest := [.int vq45, .int pq1, .ref qq33]) ⟨hx, hb, hml, hown, hts⟩ (k_X5_rest l pq2 15) (va_cwS 2 hts gX5_sets_X5_rest rfl rfl rfl (by decide +kernel) ⟨Nat.le_of_ble_eq_true rfl, Nat.le_of_ble_eq_true rfl⟩) (pPreS) rfl rfl hl.1 rfl (lv_room (Nat.le_of_ble_eq_true rfl)) dX5_sets_49 ⟨Nat.le_of_ble_eq_true rfl, Nat.le_of_ble_eq_true rfl⟩) hP hS (fun rq49 H locs hp49 hP hS => ?_)
      refine c_v (K := K) (K2 := K) (G := G) (w := w) (post := fun _ _ => True) (va_runV (mc := 0) (ms := 0) (rm := rmX2_put) (As := [.int pq1, .int vq45, .int rq49]) (rest := []) ⟨hx, hb, hml, hown, hts⟩ (k_X2_put l hT H.size g_q33 pq1 vq45 rq49) (cwV 3 hts gX5_sets_X2_put rfl rfl rfl (by decide +kernel) ⟨Nat.le_of_ble_eq_true rfl, Nat.le_of_ble_eq_true rfl⟩) (kPreV (hT.rcv3 g_q33 hK hP) hP hK hD hN) rfl rfl hl.1 rfl (lv_room (Nat.le_of_ble_eq_true rfl)) dX5_sets_52 ⟨Nat.le_of_ble_eq_true rfl, Nat.le_of_ble_eq_true rfl⟩) hD hS hA (fun G w H locs hp52 hg hT hP hD hS => ?_)
      have hG := hG.tr hg
      have g_h0 := hg.at g_h0 (by decide)
      refine lv_aload_n hx hb dX5_sets_55 rfl (lv_at hl 0 rfl) ?_
      obtain ⟨kq56, qq56, rq56, tq56, uq56, vq56, hk56, g_q56, g_r56, g_t56, g_u56, g_v56⟩ := hT.k6 g_h0
      refine va_get (D := K.1) (ci := 5) (v := .ref qq56) (C := RX5) (T := TX5) (N := 5) hx hb hts hinX5 hown hK hP kq56 hk56 rfl 0 (by decide) (hts (.fieldLink RX5 10 "CodedWords" "code" "LCodedWords$Code;") (by decide +kernel)) (fun _ h9 => h9) rfl dX5_sets_56 ?_
      refine lv_iload_n hx hb dX5_sets_59 rfl (lv_at hl 1 rfl) ?_
      refine r_i (va_runV (As := [.int pq1]) (rest := []) ⟨hx, hb, hml, hown, hts⟩ (k_X2_wordOf l hT g_q56 pq1) (cwV 1 hts gX5_sets_X2_wordOf rfl rfl rfl (by decide +kernel) ⟨Nat.le_of_ble_eq_true rfl, Nat.le_of_ble_eq_true rfl⟩) (rPreV (hT.rcv3 g_q56 hK hP) hP hK hD hN) rfl rfl hl.1 rfl (lv_room (Nat.le_of_ble_eq_true rfl)) dX5_sets_60 ⟨Nat.le_of_ble_eq_true rfl, Nat.le_of_ble_eq_true rfl⟩) hP hS (fun rq60 H locs hp60 hP hS => ?_)
      exact W.iret (v := rq60) hx hb hr (fun t ht hW => ⟨⟨rq60, (G, w), rfl, ⟨trivial, hG, hT⟩, by rw [ht]; exact hP, hD⟩, hS.F ht⟩) hS.2.2 dX5_sets_63
    · skip
      refine lv_ldc (v := (-1000001)) hx hb hown (hts (.constant RX5 51 (-1000001)) (by decide +kernel)) dX5_sets_18 ?_
      exact W.iret (v := (-1000001)) hx hb hr (fun t ht hW => ⟨⟨(-1000001), (G0, w0), rfl, ⟨trivial, hG, hT⟩, by rw [ht]; exact hP, hD⟩, hS.F ht⟩) hS.2.2 dX5_sets_20
abbrev rmX5_wordDone : Room := { frames := 1, cells := 0, slots := 0, locals := 22 }
set_option maxHeartbeats 4000000 in
set_option maxRecDepth 100000 in
theorem k_X5_wordDone (l : Launch) {K : Cx} {G0 : Nat → Nat} {w0 : va_W} (hT : TH K G0 w0) {h0 : Nat} (g_h0 : G0 h0 = 6) (pq1 : Int32) (pq2 : Int64) (pq4 : Int64)  : Rl l K yX5_wordDone wsX5_wordDone rmX5_wordDone [.ref h0, .int pq1, .long pq2, .long pq4] w0 (fun _ => True) := by
  refine Met.ofW (cc := cX5_wordDone) (maxL := 6) (ret := (some .long)) (by decide) rfl ?_
  intro p e s m args below meth c s₁ B hml hv
  obtain ⟨rfl, hP, hK, hD, hN⟩ := hv
  have hx := B.exec
  have hb := B.bytes
  have hr := B.returns
  have hts := atoms_spec (ws := wsX5_wordDone) B.pre
  have hown : s.vm.findClass RX5 = some m.cls := findClass_of_methodNamed B.named
  have hlocks := B.notSynchronized
  have hinX2 : ∀ w ∈ wsX20, w ∈ wsX5_wordDone := by decide +kernel
  have hinX5 : ∀ w ∈ wsX50, w ∈ wsX5_wordDone := by decide +kernel
  have hS : va_S (fun _ => False) s.heap s.heap [] := va_S.rf
  have hl := lv_entry ([.ref h0, .int pq1, .long pq2, .long pq4]) (n := 6) (Nat.le_of_ble_eq_true rfl)
  rw [lg_entry_eq]
  generalize (lg_sl ([.ref h0, .int pq1, .long pq2, .long pq4]) ++ List.replicate (6 - (lg_sl ([.ref h0, .int pq1, .long pq2, .long pq4])).length) Slot.unset).toArray = ls at hl ⊢
  have hl : lv_has ls 6 [(0, .ref h0), (1, .int pq1), (2, .long pq2), (4, .long pq4)] := hl
  refine lv_iload_n hx hb dX5_wordDone_0 rfl (lv_at hl 1 rfl) ?_
  rcases (show (pq1.toInt < 0 ∨ 4 < pq1.toInt) ∨ pq1.toInt = 0 ∨ pq1.toInt = 1 ∨ pq1.toInt = 2 ∨ pq1.toInt = 3 ∨ pq1.toInt = 4 by omega) with tq1 | tq1 | tq1 | tq1 | tq1 | tq1
  · skip
    refine lv_tableOut (tgt := 68) hx hb dX5_wordDone_1 tq1 (by decide) ?_
    refine lv_lload_n hx hb dX5_wordDone_68 rfl (lv_at hl 2 rfl) ?_
    refine lv_ldc2 (v := 2) hx hb hown (hts (.constantLong RX5 218 2) (by decide +kernel)) dX5_wordDone_69 ?_
    refine lv_ldiv hx hb dX5_wordDone_72 (by decide) ?_
    refine lv_topl (fun vq72 eq72 => ?_)
    exact W.lret (v := vq72) hx hb hr (fun t ht hW => ⟨⟨vq72, (), rfl, trivial, trivial⟩, hS.F ht⟩) hS.2.2 dX5_wordDone_73
  · skip
    refine lv_tableIn (off := 35) (tgt := 36) hx hb dX5_wordDone_1 (by omega) (by omega) (by rw [tq1]; rfl) (by decide) ?_
    refine lv_lload_n hx hb dX5_wordDone_36 rfl (lv_at hl 2 rfl) ?_
    refine lv_lload hx hb dX5_wordDone_37 (lv_at hl 3 rfl) ?_
    refine lv_ladd hx hb dX5_wordDone_39 ?_
    refine lv_topl (fun vq39 eq39 => ?_)
    exact W.lret (v := vq39) hx hb hr (fun t ht hW => ⟨⟨vq39, (), rfl, trivial, trivial⟩, hS.F ht⟩) hS.2.2 dX5_wordDone_40
  · skip
    refine lv_tableIn (off := 40) (tgt := 41) hx hb dX5_wordDone_1 (by omega) (by omega) (by rw [tq1]; rfl) (by decide) ?_
    refine lv_lload_n hx hb dX5_wordDone_41 rfl (lv_at hl 2 rfl) ?_
    refine lv_lload hx hb dX5_wordDone_42 (lv_at hl 3 rfl) ?_
    refine lv_lsub hx hb dX5_wordDone_44 ?_
    refine lv_topl (fun vq44 eq44 => ?_)
    exact W.lret (v := vq44) hx hb hr (fun t ht hW => ⟨⟨vq44, (), rfl, trivial, trivial⟩, hS.F ht⟩) hS.2.2 dX5_wordDone_45
  · skip
    refine lv_tableIn (off := 45) (tgt := 46) hx hb dX5_wordDone_1 (by omega) (by omega) (by rw [tq1]; rfl) (by decide) ?_
    refine lv_lload_n hx hb dX5_wordDone_46 rfl (lv_at hl 2 rfl) ?_
    refine lv_lload hx hb dX5_wordDone_47 (lv_at hl 3 rfl) ?_
    refine lv_lmul hx hb dX5_wordDone_49 ?_
    refine lv_topl (fun vq49 eq49 => ?_)
    refine lv_aload_n hx hb dX5_wordDone_50 rfl (lv_at hl 0 rfl) ?_
    obtain ⟨kq51, qq51, rq51, tq51, uq51, vq51, hk51, g_q51, g_r51, g_t51, g_u51, g_v51⟩ := hT.k6 g_h0
    refine va_get (D := K.1) (ci := 5) (v := .ref qq51) (C := RX5) (T := TX5) (N := 5) hx hb hts hinX5 hown hK hP kq51 hk51 rfl 0 (by decide) (hts (.fieldLink RX5 10 "CodedWords" "code" "LCodedWords$Code;") (by decide +kernel)) (fun _ h9 => h9) rfl dX5_wordDone_51 ?_
    obtain ⟨kq54, xq54, yq54, qq54, rq54, hk54, g_q54, g_r54⟩ := hT.k3 g_q51
    refine va_getN (host := RX5) (D := K.1) (ci := 2) (v := .int xq54) (C := RX2) (T := TX2) (N := 4) hx hb hts hinX2 hown hK hP kq54 hk54 rfl 0 (by decide) (hN.f (by decide +kernel)) (fun _ h9 => h9) rfl dX5_wordDone_54 ?_
    refine r_l (va_runS (As := [.long vq49, .int xq54]) (rest := []) ⟨hx, hb, hml, hown, hts⟩ (k_X5_cut l vq49 xq54) (va_cwS 2 hts gX5_wordDone_X5_cut rfl rfl rfl (by decide +kernel) ⟨Nat.le_of_ble_eq_true rfl, Nat.le_of_ble_eq_true rfl⟩) (pPreS) rfl rfl hl.1 rfl (lv_room (Nat.le_of_ble_eq_true rfl)) dX5_wordDone_57 ⟨Nat.le_of_ble_eq_true rfl, Nat.le_of_ble_eq_true rfl⟩) hP hS (fun rq57 H locs hp57 hP hS => ?_)
    exact W.lret (v := rq57) hx hb hr (fun t ht hW => ⟨⟨rq57, (), rfl, trivial, trivial⟩, hS.F ht⟩) hS.2.2 dX5_wordDone_60
  · skip
    refine lv_tableIn (off := 60) (tgt := 61) hx hb dX5_wordDone_1 (by omega) (by omega) (by rw [tq1]; rfl) (by decide) ?_
    refine lv_lload_n hx hb dX5_wordDone_61 rfl (lv_at hl 2 rfl) ?_
    refine lv_lload_n hx hb dX5_wordDone_62 rfl (lv_at hl 2 rfl) ?_
    refine lv_ladd hx hb dX5_wordDone_63 ?_
    refine lv_topl (fun vq63 eq63 => ?_)
    exact W.lret (v := vq63) hx hb hr (fun t ht hW => ⟨⟨vq63, (), rfl, trivial, trivial⟩, hS.F ht⟩) hS.2.2 dX5_wordDone_64
  · skip
    refine lv_tableIn (off := 64) (tgt := 65) hx hb dX5_wordDone_1 (by omega) (by omega) (by rw [tq1]; rfl) (by decide) ?_
    refine lv_lload_n hx hb dX5_wordDone_65 rfl (lv_at hl 2 rfl) ?_
    refine lv_lneg hx hb dX5_wordDone_66 ?_
    refine lv_topl (fun vq66 eq66 => ?_)
    exact W.lret (v := vq66) hx hb hr (fun t ht hW => ⟨⟨vq66, (), rfl, trivial, trivial⟩, hS.F ht⟩) hS.2.2 dX5_wordDone_67
abbrev rmX5_does : Room := { frames := 4, cells := 0, slots := 0, locals := 87 }
set_option maxHeartbeats 4000000 in
set_option maxRecDepth 100000 in
theorem k_X5_does (l : Launch) {K : Cx} {G0 : Nat → Nat} {w0 : va_W} (hT : TH K G0 w0) (sz : Nat) {h0 : Nat} (g_h0 : G0 h0 = 6) (pq1 : Int32) (pq2 : Int32) (pq3 : Int32)  : Ci l K yX5_does wsX5_does rmX5_does 0 0 [.ref h0, .int pq1, .int pq2, .int pq3] G0 w0 sz (fun _ _ _ => True) := by
  refine Met.ofW (cc := cX5_does) (maxL := 7) (ret := (some .int)) (by decide) rfl ?_
  intro p e s m args below meth c s₁ B hml hv
  obtain ⟨rfl, hsz, hP, hK, hD0, hN⟩ := hv
  have hx := B.exec
  have hb := B.bytes
  have hr := B.returns
  have hts := atoms_spec (ws := wsX5_does) B.pre
  have hown : s.vm.findClass RX5 = some m.cls := findClass_of_methodNamed B.named
  have hlocks := B.notSynchronized
  have hinX5 : ∀ w ∈ wsX50, w ∈ wsX5_does := by decide +kernel
  subst hsz
  have hD := hD0.self (sz := s.heap.size)
  generalize hAe : va_A w0 s.heap.size = A at hD ⊢
  have hA : ∀ q : Nat, s.heap.size ≤ q → A q := fun q h => by rw [← hAe]; exact Or.inr h
  have hS : va_S A s.heap s.heap [] := va_S.rf
  have hG : gLe G0 G0 := gLe.rf
  have hl := lv_entry ([.ref h0, .int pq1, .int pq2, .int pq3]) (n := 7) (Nat.le_of_ble_eq_true rfl)
  rw [lg_entry_eq]
  generalize (lg_sl ([.ref h0, .int pq1, .int pq2, .int pq3]) ++ List.replicate (7 - (lg_sl ([.ref h0, .int pq1, .int pq2, .int pq3])).length) Slot.unset).toArray = ls at hl ⊢
  have hl : lv_has ls 7 [(0, .ref h0), (1, .int pq1), (2, .int pq2), (3, .int pq3)] := hl
  have hJ53 : ∀ (G : Nat → Nat) (w : va_W) (H : Heap) (locs : List Loc), (gLe G0 G) → (TH K G w) → (va_P K.1 vwCl w H) → (va_D A w) → (va_S A s.heap H locs) → (G h0 = 6) → ∀ (ls : Array Slot), lv_has ls 7 [(0, .ref h0), (1, .int pq1), (2, .int pq2), (3, .int pq3)] → W p l e rmX5_does s m [.ref h0, .int pq1, .int pq2, .int pq3].toArray below meth c H locs 0 0 (MQ below (va_Qi (fun (r : Int32) (u : (Nat → Nat) × va_W) => (fun _ _ _ => True) r u.1 u.2 ∧ gLe G0 u.1 ∧ TH (K) u.1 u.2) (fun u t => va_P K.1 vwCl u.2 t.heap ∧ va_D A u.2) A) [.ref h0, .int pq1, .int pq2, .int pq3].toArray s 0 0 A) (F0 m 53 ls []) := by
    intro G w H locs hG hT hP hD hS g_h0 ls hl
    refine lv_aload_n hx hb dX5_does_53 rfl (lv_at hl 0 rfl) ?_
    refine lv_iload_n hx hb dX5_does_54 rfl (lv_at hl 1 rfl) ?_
    refine lv_aload_n hx hb dX5_does_55 rfl (lv_at hl 0 rfl) ?_
    obtain ⟨kq56, qq56, rq56, tq56, uq56, vq56, hk56, g_q56, g_r56, g_t56, g_u56, g_v56⟩ := hT.k6 g_h0
    refine va_get (D := K.1) (ci := 5) (v := .ref qq56) (C := RX5) (T := TX5) (N := 5) hx hb hts hinX5 hown hK hP kq56 hk56 rfl 0 (by decide) (hts (.fieldLink RX5 10 "CodedWords" "code" "LCodedWords$Code;") (by decide +kernel)) (fun _ h9 => h9) rfl dX5_does_56 ?_
    refine lv_iload_n hx hb dX5_does_59 rfl (lv_at hl 2 rfl) ?_
    refine r_i (va_runV (As := [.int pq2]) (rest := [.int pq1, .ref h0]) ⟨hx, hb, hml, hown, hts⟩ (k_X2_wordOf l hT g_q56 pq2) (cwV 1 hts gX5_does_X2_wordOf rfl rfl rfl (by decide +kernel) ⟨Nat.le_of_ble_eq_true rfl, Nat.le_of_ble_eq_true rfl⟩) (rPreV (hT.rcv3 g_q56 hK hP) hP hK hD hN) rfl rfl hl.1 rfl (lv_room (Nat.le_of_ble_eq_true rfl)) dX5_does_60 ⟨Nat.le_of_ble_eq_true rfl, Nat.le_of_ble_eq_true rfl⟩) hP hS (fun rq60 H locs hp60 hP hS => ?_)
    refine lv_i2l (v := (rq60 : Int32).toInt64) hx hb dX5_does_63 rfl ?_
    refine lv_topl (fun vq63 eq63 => ?_)
    refine lv_aload_n hx hb dX5_does_64 rfl (lv_at hl 0 rfl) ?_
    refine va_get (D := K.1) (ci := 5) (v := .ref qq56) (C := RX5) (T := TX5) (N := 5) hx hb hts hinX5 hown hK hP kq56 hk56 rfl 0 (by decide) (hts (.fieldLink RX5 10 "CodedWords" "code" "LCodedWords$Code;") (by decide +kernel)) (fun _ h9 => h9) rfl dX5_does_65 ?_
    refine lv_iload_n hx hb dX5_does_68 rfl (lv_at hl 3 rfl) ?_
    refine r_i (va_runV (As := [.int pq3]) (rest := [.long vq63, .int pq1, .ref h0]) ⟨hx, hb, hml, hown, hts⟩ (k_X2_wordOf l hT g_q56 pq3) (cwV 1 hts gX5_does_X2_wordOf rfl rfl rfl (by decide +kernel) ⟨Nat.le_of_ble_eq_true rfl, Nat.le_of_ble_eq_true rfl⟩) (rPreV (hT.rcv3 g_q56 hK hP) hP hK hD hN) rfl rfl hl.1 rfl (lv_room (Nat.le_of_ble_eq_true rfl)) dX5_does_69 ⟨Nat.le_of_ble_eq_true rfl, Nat.le_of_ble_eq_true rfl⟩) hP hS (fun rq69 H locs hp69 hP hS => ?_)
    refine lv_i2l (v := (rq69 : Int32).toInt64) hx hb dX5_does_72 rfl ?_
    refine lv_topl (fun vq72 eq72 => ?_)
    refine r_l (va_runV (As := [.int pq1, .long vq63, .long vq72]) (rest := []) ⟨hx, hb, hml, hown, hts⟩ (k_X5_wordDone l hT g_h0 pq1 vq63 vq72) (cwV 3 hts gX5_does_X5_wordDone rfl rfl rfl (by decide +kernel) ⟨Nat.le_of_ble_eq_true rfl, Nat.le_of_ble_eq_true rfl⟩) (rPreV (hT.rcv6 g_h0 hK hP) hP hK hD hN) rfl rfl hl.1 rfl (lv_room (Nat.le_of_ble_eq_true rfl)) dX5_does_73 ⟨Nat.le_of_ble_eq_true rfl, Nat.le_of_ble_eq_true rfl⟩) hP hS (fun rq73 H locs hp73 hP hS => ?_)
    refine lv_lstore (lv' := [(4, .long rq73), (0, .ref h0), (1, .int pq1), (2, .int pq2), (3, .int pq3)]) hx hb dX5_does_76 hl (by decide) rfl (fun ls hl => ?_)
    refine lv_lload hx hb dX5_does_78 (lv_at hl 0 rfl) ?_
    refine lv_aload_n hx hb dX5_does_80 rfl (lv_at hl 1 rfl) ?_
    refine va_get (D := K.1) (ci := 5) (v := .ref qq56) (C := RX5) (T := TX5) (N := 5) hx hb hts hinX5 hown hK hP kq56 hk56 rfl 0 (by decide) (hts (.fieldLink RX5 10 "CodedWords" "code" "LCodedWords$Code;") (by decide +kernel)) (fun _ h9 => h9) rfl dX5_does_81 ?_
    refine r_i (va_runV (As := []) (rest := [.long rq73]) ⟨hx, hb, hml, hown, hts⟩ (k_X2_top l hT g_q56) (cwV 0 hts gX5_does_X2_top rfl rfl rfl (by decide +kernel) ⟨Nat.le_of_ble_eq_true rfl, Nat.le_of_ble_eq_true rfl⟩) (rPreV (hT.rcv3 g_q56 hK hP) hP hK hD hN) rfl rfl hl.1 rfl (lv_room (Nat.le_of_ble_eq_true rfl)) dX5_does_84 ⟨Nat.le_of_ble_eq_true rfl, Nat.le_of_ble_eq_true rfl⟩) hP hS (fun rq84 H locs hp84 hP hS => ?_)
    refine lv_ineg hx hb dX5_does_87 ?_
    refine lv_topi (fun vq87 eq87 => ?_)
    refine lv_i2l (v := (vq87 : Int32).toInt64) hx hb dX5_does_88 rfl ?_
    refine lv_topl (fun vq88 eq88 => ?_)
    refine W.lcmp hx hb dX5_does_89 ?_
    refine lv_topi (fun vq89 eq89 => ?_)
    refine lv_if_lt (tgt := 107) hx hb dX5_does_90 (by decide) (fun cq90 => ?_) (fun cq90 => ?_)
    · skip
      refine lv_ldc (v := (-1000004)) hx hb hown (hts (.constant RX5 97 (-1000004)) (by decide +kernel)) dX5_does_107 ?_
      exact W.iret (v := (-1000004)) hx hb hr (fun t ht hW => ⟨⟨(-1000004), (G, w), rfl, ⟨trivial, hG, hT⟩, by rw [ht]; exact hP, hD⟩, hS.F ht⟩) hS.2.2 dX5_does_109
    · skip
      refine lv_lload hx hb dX5_does_93 (lv_at hl 0 rfl) ?_
      refine lv_aload_n hx hb dX5_does_95 rfl (lv_at hl 1 rfl) ?_
      refine va_get (D := K.1) (ci := 5) (v := .ref qq56) (C := RX5) (T := TX5) (N := 5) hx hb hts hinX5 hown hK hP kq56 hk56 rfl 0 (by decide) (hts (.fieldLink RX5 10 "CodedWords" "code" "LCodedWords$Code;") (by decide +kernel)) (fun _ h9 => h9) rfl dX5_does_96 ?_
      refine r_i (va_runV (As := []) (rest := [.long rq73]) ⟨hx, hb, hml, hown, hts⟩ (k_X2_top l hT g_q56) (cwV 0 hts gX5_does_X2_top rfl rfl rfl (by decide +kernel) ⟨Nat.le_of_ble_eq_true rfl, Nat.le_of_ble_eq_true rfl⟩) (rPreV (hT.rcv3 g_q56 hK hP) hP hK hD hN) rfl rfl hl.1 rfl (lv_room (Nat.le_of_ble_eq_true rfl)) dX5_does_99 ⟨Nat.le_of_ble_eq_true rfl, Nat.le_of_ble_eq_true rfl⟩) hP hS (fun rq99 H locs hp99 hP hS => ?_)
      refine lv_i2l (v := (rq99 : Int32).toInt64) hx hb dX5_does_102 rfl ?_
      refine lv_topl (fun vq102 eq102 => ?_)
      refine W.lcmp hx hb dX5_does_103 ?_
      refine lv_topi (fun vq103 eq103 => ?_)
      refine lv_if_le (tgt := 110) hx hb dX5_does_104 (by decide) (fun cq104 => ?_) (fun cq104 => ?_)
      · skip
        refine lv_iload_n hx hb dX5_does_110 rfl (lv_at hl 2 rfl) ?_
        refine lv_aload_n hx hb dX5_does_111 rfl (lv_at hl 1 rfl) ?_
        refine va_get (D := K.1) (ci := 5) (v := .ref qq56) (C := RX5) (T := TX5) (N := 5) hx hb hts hinX5 hown hK hP kq56 hk56 rfl 0 (by decide) (hts (.fieldLink RX5 10 "CodedWords" "code" "LCodedWords$Code;") (by decide +kernel)) (fun _ h9 => h9) rfl dX5_does_112 ?_
        refine lv_iload_n hx hb dX5_does_115 rfl (lv_at hl 3 rfl) ?_
        refine r_i (va_runV (As := [.int pq2]) (rest := [.int pq1]) ⟨hx, hb, hml, hown, hts⟩ (k_X2_residueOf l hT g_q56 pq2) (cwV 1 hts gX5_does_X2_residueOf rfl rfl rfl (by decide +kernel) ⟨Nat.le_of_ble_eq_true rfl, Nat.le_of_ble_eq_true rfl⟩) (rPreV (hT.rcv3 g_q56 hK hP) hP hK hD hN) rfl rfl hl.1 rfl (lv_room (Nat.le_of_ble_eq_true rfl)) dX5_does_116 ⟨Nat.le_of_ble_eq_true rfl, Nat.le_of_ble_eq_true rfl⟩) hP hS (fun rq116 H locs hp116 hP hS => ?_)
        refine lv_aload_n hx hb dX5_does_119 rfl (lv_at hl 1 rfl) ?_
        refine va_get (D := K.1) (ci := 5) (v := .ref qq56) (C := RX5) (T := TX5) (N := 5) hx hb hts hinX5 hown hK hP kq56 hk56 rfl 0 (by decide) (hts (.fieldLink RX5 10 "CodedWords" "code" "LCodedWords$Code;") (by decide +kernel)) (fun _ h9 => h9) rfl dX5_does_120 ?_
        refine lv_iload_n hx hb dX5_does_123 rfl (lv_at hl 4 rfl) ?_
        refine r_i (va_runV (As := [.int pq3]) (rest := [.int rq116, .int pq1]) ⟨hx, hb, hml, hown, hts⟩ (k_X2_residueOf l hT g_q56 pq3) (cwV 1 hts gX5_does_X2_residueOf rfl rfl rfl (by decide +kernel) ⟨Nat.le_of_ble_eq_true rfl, Nat.le_of_ble_eq_true rfl⟩) (rPreV (hT.rcv3 g_q56 hK hP) hP hK hD hN) rfl rfl hl.1 rfl (lv_room (Nat.le_of_ble_eq_true rfl)) dX5_does_124 ⟨Nat.le_of_ble_eq_true rfl, Nat.le_of_ble_eq_true rfl⟩) hP hS (fun rq124 H locs hp124 hP hS => ?_)
        refine r_i (va_runS (As := [.int pq1, .int rq116, .int rq124]) (rest := []) ⟨hx, hb, hml, hown, hts⟩ (k_X5_residueDone l pq1 rq116 rq124) (va_cwS 3 hts gX5_does_X5_residueDone rfl rfl rfl (by decide +kernel) ⟨Nat.le_of_ble_eq_true rfl, Nat.le_of_ble_eq_true rfl⟩) (pPreS) rfl rfl hl.1 rfl (lv_room (Nat.le_of_ble_eq_true rfl)) dX5_does_127 ⟨Nat.le_of_ble_eq_true rfl, Nat.le_of_ble_eq_true rfl⟩) hP hS (fun rq127 H locs hp127 hP hS => ?_)
        refine lv_istore (lv' := [(6, .int rq127), (4, .long rq73), (0, .ref h0), (1, .int pq1), (2, .int pq2), (3, .int pq3)]) hx hb dX5_does_130 hl (by decide) rfl (fun ls hl => ?_)
        refine lv_aload_n hx hb dX5_does_132 rfl (lv_at hl 2 rfl) ?_
        refine va_get (D := K.1) (ci := 5) (v := .ref rq56) (C := RX5) (T := TX5) (N := 5) hx hb hts hinX5 hown hK hP kq56 hk56 rfl 1 (by decide) (hts (.fieldLink RX5 19 "CodedWords" "past" "LCodedWords$Past;") (by decide +kernel)) (fun _ h9 => h9) rfl dX5_does_133 ?_
        refine lv_aload_n hx hb dX5_does_136 rfl (lv_at hl 2 rfl) ?_
        refine va_get (D := K.1) (ci := 5) (v := .ref qq56) (C := RX5) (T := TX5) (N := 5) hx hb hts hinX5 hown hK hP kq56 hk56 rfl 0 (by decide) (hts (.fieldLink RX5 10 "CodedWords" "code" "LCodedWords$Code;") (by decide +kernel)) (fun _ h9 => h9) rfl dX5_does_137 ?_
        refine c_v (K := K) (K2 := K) (G := G) (w := w) (post := fun _ _ => True) (va_runV (mc := 0) (ms := 0) (rm := rmX3_remember) (As := [.ref qq56]) (rest := []) ⟨hx, hb, hml, hown, hts⟩ (k_X3_remember l hT H.size g_r56 g_q56) (cwV 1 hts gX5_does_X3_remember rfl rfl rfl (by decide +kernel) ⟨Nat.le_of_ble_eq_true rfl, Nat.le_of_ble_eq_true rfl⟩) (kPreV (hT.rcv4 g_r56 hK hP) hP hK hD hN) rfl rfl hl.1 rfl (lv_room (Nat.le_of_ble_eq_true rfl)) dX5_does_140 ⟨Nat.le_of_ble_eq_true rfl, Nat.le_of_ble_eq_true rfl⟩) hD hS hA (fun G w H locs hp140 hg hT hP hD hS => ?_)
        have hG := hG.tr hg
        have g_h0 := hg.at g_h0 (by decide)
        refine lv_aload_n hx hb dX5_does_143 rfl (lv_at hl 2 rfl) ?_
        obtain ⟨kq144, qq144, rq144, tq144, uq144, vq144, hk144, g_q144, g_r144, g_t144, g_u144, g_v144⟩ := hT.k6 g_h0
        refine va_get (D := K.1) (ci := 5) (v := .ref qq144) (C := RX5) (T := TX5) (N := 5) hx hb hts hinX5 hown hK hP kq144 hk144 rfl 0 (by decide) (hts (.fieldLink RX5 10 "CodedWords" "code" "LCodedWords$Code;") (by decide +kernel)) (fun _ h9 => h9) rfl dX5_does_144 ?_
        refine lv_iload_n hx hb dX5_does_147 rfl (lv_at hl 4 rfl) ?_
        refine lv_lload hx hb dX5_does_148 (lv_at hl 1 rfl) ?_
        refine lv_l2i (v := (rq73 : Int64).toInt32) hx hb dX5_does_150 rfl ?_
        refine lv_topi (fun vq150 eq150 => ?_)
        refine lv_iload hx hb dX5_does_151 (lv_at hl 0 rfl) ?_
        refine lv_bipush (v := 15) hx hb dX5_does_153 (by decide) ?_
        refine r_i (va_runS (As := [.int rq127, .int 15]) (rest := [.int vq150, .int pq2, .ref qq144]) ⟨hx, hb, hml, hown, hts⟩ (k_X5_rest l rq127 15) (va_cwS 2 hts gX5_does_X5_rest rfl rfl rfl (by decide +kernel) ⟨Nat.le_of_ble_eq_true rfl, Nat.le_of_ble_eq_true rfl⟩) (pPreS) rfl rfl hl.1 rfl (lv_room (Nat.le_of_ble_eq_true rfl)) dX5_does_155 ⟨Nat.le_of_ble_eq_true rfl, Nat.le_of_ble_eq_true rfl⟩) hP hS (fun rq155 H locs hp155 hP hS => ?_)
        refine c_v (K := K) (K2 := K) (G := G) (w := w) (post := fun _ _ => True) (va_runV (mc := 0) (ms := 0) (rm := rmX2_put) (As := [.int pq2, .int vq150, .int rq155]) (rest := []) ⟨hx, hb, hml, hown, hts⟩ (k_X2_put l hT H.size g_q144 pq2 vq150 rq155) (cwV 3 hts gX5_does_X2_put rfl rfl rfl (by decide +kernel) ⟨Nat.le_of_ble_eq_true rfl, Nat.le_of_ble_eq_true rfl⟩) (kPreV (hT.rcv3 g_q144 hK hP) hP hK hD hN) rfl rfl hl.1 rfl (lv_room (Nat.le_of_ble_eq_true rfl)) dX5_does_158 ⟨Nat.le_of_ble_eq_true rfl, Nat.le_of_ble_eq_true rfl⟩) hD hS hA (fun G w H locs hp158 hg hT hP hD hS => ?_)
        have hG := hG.tr hg
        have g_h0 := hg.at g_h0 (by decide)
        refine lv_aload_n hx hb dX5_does_161 rfl (lv_at hl 2 rfl) ?_
        obtain ⟨kq162, qq162, rq162, tq162, uq162, vq162, hk162, g_q162, g_r162, g_t162, g_u162, g_v162⟩ := hT.k6 g_h0
        refine va_get (D := K.1) (ci := 5) (v := .ref qq162) (C := RX5) (T := TX5) (N := 5) hx hb hts hinX5 hown hK hP kq162 hk162 rfl 0 (by decide) (hts (.fieldLink RX5 10 "CodedWords" "code" "LCodedWords$Code;") (by decide +kernel)) (fun _ h9 => h9) rfl dX5_does_162 ?_
        refine lv_iload_n hx hb dX5_does_165 rfl (lv_at hl 4 rfl) ?_
        refine r_i (va_runV (As := [.int pq2]) (rest := []) ⟨hx, hb, hml, hown, hts⟩ (k_X2_wordOf l hT g_q162 pq2) (cwV 1 hts gX5_does_X2_wordOf rfl rfl rfl (by decide +kernel) ⟨Nat.le_of_ble_eq_true rfl, Nat.le_of_ble_eq_true rfl⟩) (rPreV (hT.rcv3 g_q162 hK hP) hP hK hD hN) rfl rfl hl.1 rfl (lv_room (Nat.le_of_ble_eq_true rfl)) dX5_does_166 ⟨Nat.le_of_ble_eq_true rfl, Nat.le_of_ble_eq_true rfl⟩) hP hS (fun rq166 H locs hp166 hP hS => ?_)
        exact W.iret (v := rq166) hx hb hr (fun t ht hW => ⟨⟨rq166, (G, w), rfl, ⟨trivial, hG, hT⟩, by rw [ht]; exact hP, hD⟩, hS.F ht⟩) hS.2.2 dX5_does_169
      · skip
        refine lv_ldc (v := (-1000004)) hx hb hown (hts (.constant RX5 97 (-1000004)) (by decide +kernel)) dX5_does_107 ?_
        exact W.iret (v := (-1000004)) hx hb hr (fun t ht hW => ⟨⟨(-1000004), (G, w), rfl, ⟨trivial, hG, hT⟩, by rw [ht]; exact hP, hD⟩, hS.F ht⟩) hS.2.2 dX5_does_109
  have hJ34 : ∀ (G : Nat → Nat) (w : va_W) (H : Heap) (locs : List Loc), (gLe G0 G) → (TH K G w) → (va_P K.1 vwCl w H) → (va_D A w) → (va_S A s.heap H locs) → (G h0 = 6) → ∀ (ls : Array Slot), lv_has ls 7 [(0, .ref h0), (1, .int pq1), (2, .int pq2), (3, .int pq3)] → W p l e rmX5_does s m [.ref h0, .int pq1, .int pq2, .int pq3].toArray below meth c H locs 0 0 (MQ below (va_Qi (fun (r : Int32) (u : (Nat → Nat) × va_W) => (fun _ _ _ => True) r u.1 u.2 ∧ gLe G0 u.1 ∧ TH (K) u.1 u.2) (fun u t => va_P K.1 vwCl u.2 t.heap ∧ va_D A u.2) A) [.ref h0, .int pq1, .int pq2, .int pq3].toArray s 0 0 A) (F0 m 34 ls []) := by
    intro G w H locs hG hT hP hD hS g_h0 ls hl
    refine lv_iload_n hx hb dX5_does_34 rfl (lv_at hl 1 rfl) ?_
    refine lv_iconst (v := 5) hx hb dX5_does_35 (by decide) ?_
    refine lv_icmp_ne (tgt := 53) hx hb dX5_does_36 (by decide) (fun cq36 => ?_) (fun cq36 => ?_)
    · skip
      exact hJ53 _ _ _ _ hG hT hP hD hS g_h0 _ (lv_sub hl [0, 1, 2, 3] rfl)
    · skip
      refine lv_aload_n hx hb dX5_does_39 rfl (lv_at hl 0 rfl) ?_
      obtain ⟨kq40, qq40, rq40, tq40, uq40, vq40, hk40, g_q40, g_r40, g_t40, g_u40, g_v40⟩ := hT.k6 g_h0
      refine va_get (D := K.1) (ci := 5) (v := .ref qq40) (C := RX5) (T := TX5) (N := 5) hx hb hts hinX5 hown hK hP kq40 hk40 rfl 0 (by decide) (hts (.fieldLink RX5 10 "CodedWords" "code" "LCodedWords$Code;") (by decide +kernel)) (fun _ h9 => h9) rfl dX5_does_40 ?_
      refine lv_iload_n hx hb dX5_does_43 rfl (lv_at hl 2 rfl) ?_
      refine r_i (va_runV (As := [.int pq2]) (rest := []) ⟨hx, hb, hml, hown, hts⟩ (k_X2_canHalve l hT g_q40 pq2) (cwV 1 hts gX5_does_X2_canHalve rfl rfl rfl (by decide +kernel) ⟨Nat.le_of_ble_eq_true rfl, Nat.le_of_ble_eq_true rfl⟩) (rPreV (hT.rcv3 g_q40 hK hP) hP hK hD hN) rfl rfl hl.1 rfl (lv_room (Nat.le_of_ble_eq_true rfl)) dX5_does_44 ⟨Nat.le_of_ble_eq_true rfl, Nat.le_of_ble_eq_true rfl⟩) hP hS (fun rq44 H locs hp44 hP hS => ?_)
      refine lv_if_ne (tgt := 53) hx hb dX5_does_47 (by decide) (fun cq47 => ?_) (fun cq47 => ?_)
      · skip
        exact hJ53 _ _ _ _ hG hT hP hD hS g_h0 _ (lv_sub hl [0, 1, 2, 3] rfl)
      · skip
        refine lv_ldc (v := (-1000002)) hx hb hown (hts (.constant RX5 89 (-1000002)) (by decide +kernel)) dX5_does_50 ?_
        exact W.iret (v := (-1000002)) hx hb hr (fun t ht hW => ⟨⟨(-1000002), (G, w), rfl, ⟨trivial, hG, hT⟩, by rw [ht]; exact hP, hD⟩, hS.F ht⟩) hS.2.2 dX5_does_52
  refine lv_iload_n hx hb dX5_does_0 rfl (lv_at hl 1 rfl) ?_
  refine lv_if_lt (tgt := 16) hx hb dX5_does_1 (by decide) (fun cq1 => ?_) (fun cq1 => ?_)
  · skip
    refine lv_ldc (v := (-1000001)) hx hb hown (hts (.constant RX5 51 (-1000001)) (by decide +kernel)) dX5_does_16 ?_
    exact W.iret (v := (-1000001)) hx hb hr (fun t ht hW => ⟨⟨(-1000001), (G0, w0), rfl, ⟨trivial, hG, hT⟩, by rw [ht]; exact hP, hD⟩, hS.F ht⟩) hS.2.2 dX5_does_18
  · skip
    refine lv_iload_n hx hb dX5_does_4 rfl (lv_at hl 1 rfl) ?_
    refine lv_iconst (v := 5) hx hb dX5_does_5 (by decide) ?_
    refine lv_icmp_gt (tgt := 16) hx hb dX5_does_6 (by decide) (fun cq6 => ?_) (fun cq6 => ?_)
    · skip
      refine lv_ldc (v := (-1000001)) hx hb hown (hts (.constant RX5 51 (-1000001)) (by decide +kernel)) dX5_does_16 ?_
      exact W.iret (v := (-1000001)) hx hb hr (fun t ht hW => ⟨⟨(-1000001), (G0, w0), rfl, ⟨trivial, hG, hT⟩, by rw [ht]; exact hP, hD⟩, hS.F ht⟩) hS.2.2 dX5_does_18
    · skip
      refine lv_iload_n hx hb dX5_does_9 rfl (lv_at hl 2 rfl) ?_
      refine r_i (va_runS (As := [.int pq2]) (rest := []) ⟨hx, hb, hml, hown, hts⟩ (k_X5_isRegister l pq2) (va_cwS 1 hts gX5_does_X5_isRegister rfl rfl rfl (by decide +kernel) ⟨Nat.le_of_ble_eq_true rfl, Nat.le_of_ble_eq_true rfl⟩) (pPreS) rfl rfl hl.1 rfl (lv_room (Nat.le_of_ble_eq_true rfl)) dX5_does_10 ⟨Nat.le_of_ble_eq_true rfl, Nat.le_of_ble_eq_true rfl⟩) hP hS (fun rq10 H locs hp10 hP hS => ?_)
      refine lv_if_ne (tgt := 19) hx hb dX5_does_13 (by decide) (fun cq13 => ?_) (fun cq13 => ?_)
      · skip
        refine lv_iload_n hx hb dX5_does_19 rfl (lv_at hl 1 rfl) ?_
        refine lv_iconst (v := 2) hx hb dX5_does_20 (by decide) ?_
        refine lv_icmp_gt (tgt := 34) hx hb dX5_does_21 (by decide) (fun cq21 => ?_) (fun cq21 => ?_)
        · skip
          exact hJ34 _ _ _ _ hG hT hP hD hS g_h0 _ (lv_sub hl [0, 1, 2, 3] rfl)
        · skip
          refine lv_iload_n hx hb dX5_does_24 rfl (lv_at hl 3 rfl) ?_
          refine r_i (va_runS (As := [.int pq3]) (rest := []) ⟨hx, hb, hml, hown, hts⟩ (k_X5_isRegister l pq3) (va_cwS 1 hts gX5_does_X5_isRegister rfl rfl rfl (by decide +kernel) ⟨Nat.le_of_ble_eq_true rfl, Nat.le_of_ble_eq_true rfl⟩) (pPreS) rfl rfl hl.1 rfl (lv_room (Nat.le_of_ble_eq_true rfl)) dX5_does_25 ⟨Nat.le_of_ble_eq_true rfl, Nat.le_of_ble_eq_true rfl⟩) hP hS (fun rq25 H locs hp25 hP hS => ?_)
          refine lv_if_ne (tgt := 34) hx hb dX5_does_28 (by decide) (fun cq28 => ?_) (fun cq28 => ?_)
          · skip
            exact hJ34 _ _ _ _ hG hT hP hD hS g_h0 _ (lv_sub hl [0, 1, 2, 3] rfl)
          · skip
            refine lv_ldc (v := (-1000001)) hx hb hown (hts (.constant RX5 51 (-1000001)) (by decide +kernel)) dX5_does_31 ?_
            exact W.iret (v := (-1000001)) hx hb hr (fun t ht hW => ⟨⟨(-1000001), (G0, w0), rfl, ⟨trivial, hG, hT⟩, by rw [ht]; exact hP, hD⟩, hS.F ht⟩) hS.2.2 dX5_does_33
      · skip
        refine lv_ldc (v := (-1000001)) hx hb hown (hts (.constant RX5 51 (-1000001)) (by decide +kernel)) dX5_does_16 ?_
        exact W.iret (v := (-1000001)) hx hb hr (fun t ht hW => ⟨⟨(-1000001), (G0, w0), rfl, ⟨trivial, hG, hT⟩, by rw [ht]; exact hP, hD⟩, hS.F ht⟩) hS.2.2 dX5_does_18
abbrev rmX5_strikes : Room := { frames := 4, cells := 0, slots := 0, locals := 87 }
set_option maxHeartbeats 4000000 in
set_option maxRecDepth 100000 in
theorem k_X5_strikes (l : Launch) {K : Cx} {G0 : Nat → Nat} {w0 : va_W} (hT : TH K G0 w0) (sz : Nat) {h0 : Nat} (g_h0 : G0 h0 = 6) (pq1 : Int32) (pq2 : Int32)  : Ci l K yX5_strikes wsX5_strikes rmX5_strikes 0 0 [.ref h0, .int pq1, .int pq2] G0 w0 sz (fun _ _ _ => True) := by
  refine Met.ofW (cc := cX5_strikes) (maxL := 5) (ret := (some .int)) (by decide) rfl ?_
  intro p e s m args below meth c s₁ B hml hv
  obtain ⟨rfl, hsz, hP, hK, hD0, hN⟩ := hv
  have hx := B.exec
  have hb := B.bytes
  have hr := B.returns
  have hts := atoms_spec (ws := wsX5_strikes) B.pre
  have hown : s.vm.findClass RX5 = some m.cls := findClass_of_methodNamed B.named
  have hlocks := B.notSynchronized
  have hinX5 : ∀ w ∈ wsX50, w ∈ wsX5_strikes := by decide +kernel
  subst hsz
  have hD := hD0.self (sz := s.heap.size)
  generalize hAe : va_A w0 s.heap.size = A at hD ⊢
  have hA : ∀ q : Nat, s.heap.size ≤ q → A q := fun q h => by rw [← hAe]; exact Or.inr h
  have hS : va_S A s.heap s.heap [] := va_S.rf
  have hG : gLe G0 G0 := gLe.rf
  have hl := lv_entry ([.ref h0, .int pq1, .int pq2]) (n := 5) (Nat.le_of_ble_eq_true rfl)
  rw [lg_entry_eq]
  generalize (lg_sl ([.ref h0, .int pq1, .int pq2]) ++ List.replicate (5 - (lg_sl ([.ref h0, .int pq1, .int pq2])).length) Slot.unset).toArray = ls at hl ⊢
  have hl : lv_has ls 5 [(0, .ref h0), (1, .int pq1), (2, .int pq2)] := hl
  refine lv_iload_n hx hb dX5_strikes_0 rfl (lv_at hl 1 rfl) ?_
  refine r_i (va_runS (As := [.int pq1]) (rest := []) ⟨hx, hb, hml, hown, hts⟩ (k_X5_isRegister l pq1) (va_cwS 1 hts gX5_strikes_X5_isRegister rfl rfl rfl (by decide +kernel) ⟨Nat.le_of_ble_eq_true rfl, Nat.le_of_ble_eq_true rfl⟩) (pPreS) rfl rfl hl.1 rfl (lv_room (Nat.le_of_ble_eq_true rfl)) dX5_strikes_1 ⟨Nat.le_of_ble_eq_true rfl, Nat.le_of_ble_eq_true rfl⟩) hP hS (fun rq1 H locs hp1 hP hS => ?_)
  refine lv_if_eq (tgt := 22) hx hb dX5_strikes_4 (by decide) (fun cq4 => ?_) (fun cq4 => ?_)
  · skip
    refine lv_ldc (v := (-1000001)) hx hb hown (hts (.constant RX5 51 (-1000001)) (by decide +kernel)) dX5_strikes_22 ?_
    exact W.iret (v := (-1000001)) hx hb hr (fun t ht hW => ⟨⟨(-1000001), (G0, w0), rfl, ⟨trivial, hG, hT⟩, by rw [ht]; exact hP, hD⟩, hS.F ht⟩) hS.2.2 dX5_strikes_24
  · skip
    refine lv_iload_n hx hb dX5_strikes_7 rfl (lv_at hl 2 rfl) ?_
    refine lv_if_lt (tgt := 22) hx hb dX5_strikes_8 (by decide) (fun cq8 => ?_) (fun cq8 => ?_)
    · skip
      refine lv_ldc (v := (-1000001)) hx hb hown (hts (.constant RX5 51 (-1000001)) (by decide +kernel)) dX5_strikes_22 ?_
      exact W.iret (v := (-1000001)) hx hb hr (fun t ht hW => ⟨⟨(-1000001), (G0, w0), rfl, ⟨trivial, hG, hT⟩, by rw [ht]; exact hP, hD⟩, hS.F ht⟩) hS.2.2 dX5_strikes_24
    · skip
      refine lv_iload_n hx hb dX5_strikes_11 rfl (lv_at hl 2 rfl) ?_
      refine lv_aload_n hx hb dX5_strikes_12 rfl (lv_at hl 0 rfl) ?_
      obtain ⟨kq13, qq13, rq13, tq13, uq13, vq13, hk13, g_q13, g_r13, g_t13, g_u13, g_v13⟩ := hT.k6 g_h0
      refine va_get (D := K.1) (ci := 5) (v := .ref qq13) (C := RX5) (T := TX5) (N := 5) hx hb hts hinX5 hown hK hP kq13 hk13 rfl 0 (by decide) (hts (.fieldLink RX5 10 "CodedWords" "code" "LCodedWords$Code;") (by decide +kernel)) (fun _ h9 => h9) rfl dX5_strikes_13 ?_
      refine r_i (va_runV (As := []) (rest := [.int pq2]) ⟨hx, hb, hml, hown, hts⟩ (k_X2_strikeCount l hT g_q13) (cwV 0 hts gX5_strikes_X2_strikeCount rfl rfl rfl (by decide +kernel) ⟨Nat.le_of_ble_eq_true rfl, Nat.le_of_ble_eq_true rfl⟩) (rPreV (hT.rcv3 g_q13 hK hP) hP hK hD hN) rfl rfl hl.1 rfl (lv_room (Nat.le_of_ble_eq_true rfl)) dX5_strikes_16 ⟨Nat.le_of_ble_eq_true rfl, Nat.le_of_ble_eq_true rfl⟩) hP hS (fun rq16 H locs hp16 hP hS => ?_)
      refine lv_icmp_lt (tgt := 25) hx hb dX5_strikes_19 (by decide) (fun cq19 => ?_) (fun cq19 => ?_)
      · skip
        refine lv_aload_n hx hb dX5_strikes_25 rfl (lv_at hl 0 rfl) ?_
        refine va_get (D := K.1) (ci := 5) (v := .ref qq13) (C := RX5) (T := TX5) (N := 5) hx hb hts hinX5 hown hK hP kq13 hk13 rfl 0 (by decide) (hts (.fieldLink RX5 10 "CodedWords" "code" "LCodedWords$Code;") (by decide +kernel)) (fun _ h9 => h9) rfl dX5_strikes_26 ?_
        refine lv_iload_n hx hb dX5_strikes_29 rfl (lv_at hl 1 rfl) ?_
        refine r_i (va_runV (As := [.int pq1]) (rest := []) ⟨hx, hb, hml, hown, hts⟩ (k_X2_wordOf l hT g_q13 pq1) (cwV 1 hts gX5_strikes_X2_wordOf rfl rfl rfl (by decide +kernel) ⟨Nat.le_of_ble_eq_true rfl, Nat.le_of_ble_eq_true rfl⟩) (rPreV (hT.rcv3 g_q13 hK hP) hP hK hD hN) rfl rfl hl.1 rfl (lv_room (Nat.le_of_ble_eq_true rfl)) dX5_strikes_30 ⟨Nat.le_of_ble_eq_true rfl, Nat.le_of_ble_eq_true rfl⟩) hP hS (fun rq30 H locs hp30 hP hS => ?_)
        refine lv_iload_n hx hb dX5_strikes_33 rfl (lv_at hl 2 rfl) ?_
        refine r_i (va_runS (As := [.int pq2]) (rest := [.int rq30]) ⟨hx, hb, hml, hown, hts⟩ (k_X5_change l pq2) (va_cwS 1 hts gX5_strikes_X5_change rfl rfl rfl (by decide +kernel) ⟨Nat.le_of_ble_eq_true rfl, Nat.le_of_ble_eq_true rfl⟩) (pPreS) rfl rfl hl.1 rfl (lv_room (Nat.le_of_ble_eq_true rfl)) dX5_strikes_34 ⟨Nat.le_of_ble_eq_true rfl, Nat.le_of_ble_eq_true rfl⟩) hP hS (fun rq34 H locs hp34 hP hS => ?_)
        refine lv_iadd hx hb dX5_strikes_37 ?_
        refine lv_topi (fun vq37 eq37 => ?_)
        refine lv_istore_n (lv' := [(3, .int vq37), (0, .ref h0), (1, .int pq1), (2, .int pq2)]) hx hb dX5_strikes_38 rfl hl (by decide) rfl (fun ls hl => ?_)
        refine lv_iconst (v := 2) hx hb dX5_strikes_39 (by decide) ?_
        refine lv_aload_n hx hb dX5_strikes_40 rfl (lv_at hl 1 rfl) ?_
        refine va_get (D := K.1) (ci := 5) (v := .ref qq13) (C := RX5) (T := TX5) (N := 5) hx hb hts hinX5 hown hK hP kq13 hk13 rfl 0 (by decide) (hts (.fieldLink RX5 10 "CodedWords" "code" "LCodedWords$Code;") (by decide +kernel)) (fun _ h9 => h9) rfl dX5_strikes_41 ?_
        refine r_i (va_runV (As := []) (rest := [.int 2]) ⟨hx, hb, hml, hown, hts⟩ (k_X2_top l hT g_q13) (cwV 0 hts gX5_strikes_X2_top rfl rfl rfl (by decide +kernel) ⟨Nat.le_of_ble_eq_true rfl, Nat.le_of_ble_eq_true rfl⟩) (rPreV (hT.rcv3 g_q13 hK hP) hP hK hD hN) rfl rfl hl.1 rfl (lv_room (Nat.le_of_ble_eq_true rfl)) dX5_strikes_44 ⟨Nat.le_of_ble_eq_true rfl, Nat.le_of_ble_eq_true rfl⟩) hP hS (fun rq44 H locs hp44 hP hS => ?_)
        refine lv_imul hx hb dX5_strikes_47 ?_
        refine lv_topi (fun vq47 eq47 => ?_)
        refine lv_istore (lv' := [(4, .int vq47), (3, .int vq37), (0, .ref h0), (1, .int pq1), (2, .int pq2)]) hx hb dX5_strikes_48 hl (by decide) rfl (fun ls hl => ?_)
        refine lv_iload_n hx hb dX5_strikes_50 rfl (lv_at hl 1 rfl) ?_
        refine lv_iload hx hb dX5_strikes_51 (lv_at hl 0 rfl) ?_
        refine lv_ineg hx hb dX5_strikes_53 ?_
        refine lv_topi (fun vq53 eq53 => ?_)
        refine lv_icmp_lt (tgt := 63) hx hb dX5_strikes_54 (by decide) (fun cq54 => ?_) (fun cq54 => ?_)
        · skip
          refine lv_ldc (v := (-1000002)) hx hb hown (hts (.constant RX5 89 (-1000002)) (by decide +kernel)) dX5_strikes_63 ?_
          exact W.iret (v := (-1000002)) hx hb hr (fun t ht hW => ⟨⟨(-1000002), (G0, w0), rfl, ⟨trivial, hG, hT⟩, by rw [ht]; exact hP, hD⟩, hS.F ht⟩) hS.2.2 dX5_strikes_65
        · skip
          refine lv_iload_n hx hb dX5_strikes_57 rfl (lv_at hl 1 rfl) ?_
          refine lv_iload hx hb dX5_strikes_58 (lv_at hl 0 rfl) ?_
          refine lv_icmp_le (tgt := 66) hx hb dX5_strikes_60 (by decide) (fun cq60 => ?_) (fun cq60 => ?_)
          · skip
            refine lv_aload_n hx hb dX5_strikes_66 rfl (lv_at hl 2 rfl) ?_
            refine va_get (D := K.1) (ci := 5) (v := .ref rq13) (C := RX5) (T := TX5) (N := 5) hx hb hts hinX5 hown hK hP kq13 hk13 rfl 1 (by decide) (hts (.fieldLink RX5 19 "CodedWords" "past" "LCodedWords$Past;") (by decide +kernel)) (fun _ h9 => h9) rfl dX5_strikes_67 ?_
            refine lv_aload_n hx hb dX5_strikes_70 rfl (lv_at hl 2 rfl) ?_
            refine va_get (D := K.1) (ci := 5) (v := .ref qq13) (C := RX5) (T := TX5) (N := 5) hx hb hts hinX5 hown hK hP kq13 hk13 rfl 0 (by decide) (hts (.fieldLink RX5 10 "CodedWords" "code" "LCodedWords$Code;") (by decide +kernel)) (fun _ h9 => h9) rfl dX5_strikes_71 ?_
            refine c_v (K := K) (K2 := K) (G := G0) (w := w0) (post := fun _ _ => True) (va_runV (mc := 0) (ms := 0) (rm := rmX3_remember) (As := [.ref qq13]) (rest := []) ⟨hx, hb, hml, hown, hts⟩ (k_X3_remember l hT H.size g_r13 g_q13) (cwV 1 hts gX5_strikes_X3_remember rfl rfl rfl (by decide +kernel) ⟨Nat.le_of_ble_eq_true rfl, Nat.le_of_ble_eq_true rfl⟩) (kPreV (hT.rcv4 g_r13 hK hP) hP hK hD hN) rfl rfl hl.1 rfl (lv_room (Nat.le_of_ble_eq_true rfl)) dX5_strikes_74 ⟨Nat.le_of_ble_eq_true rfl, Nat.le_of_ble_eq_true rfl⟩) hD hS hA (fun G w H locs hp74 hg hT hP hD hS => ?_)
            have hG := hG.tr hg
            have g_h0 := hg.at g_h0 (by decide)
            refine lv_aload_n hx hb dX5_strikes_77 rfl (lv_at hl 2 rfl) ?_
            obtain ⟨kq78, qq78, rq78, tq78, uq78, vq78, hk78, g_q78, g_r78, g_t78, g_u78, g_v78⟩ := hT.k6 g_h0
            refine va_get (D := K.1) (ci := 5) (v := .ref qq78) (C := RX5) (T := TX5) (N := 5) hx hb hts hinX5 hown hK hP kq78 hk78 rfl 0 (by decide) (hts (.fieldLink RX5 10 "CodedWords" "code" "LCodedWords$Code;") (by decide +kernel)) (fun _ h9 => h9) rfl dX5_strikes_78 ?_
            refine lv_iload_n hx hb dX5_strikes_81 rfl (lv_at hl 3 rfl) ?_
            refine lv_iload_n hx hb dX5_strikes_82 rfl (lv_at hl 1 rfl) ?_
            refine lv_aload_n hx hb dX5_strikes_83 rfl (lv_at hl 2 rfl) ?_
            refine va_get (D := K.1) (ci := 5) (v := .ref qq78) (C := RX5) (T := TX5) (N := 5) hx hb hts hinX5 hown hK hP kq78 hk78 rfl 0 (by decide) (hts (.fieldLink RX5 10 "CodedWords" "code" "LCodedWords$Code;") (by decide +kernel)) (fun _ h9 => h9) rfl dX5_strikes_84 ?_
            refine lv_iload_n hx hb dX5_strikes_87 rfl (lv_at hl 3 rfl) ?_
            refine r_i (va_runV (As := [.int pq1]) (rest := [.int vq37, .int pq1, .ref qq78]) ⟨hx, hb, hml, hown, hts⟩ (k_X2_residueOf l hT g_q78 pq1) (cwV 1 hts gX5_strikes_X2_residueOf rfl rfl rfl (by decide +kernel) ⟨Nat.le_of_ble_eq_true rfl, Nat.le_of_ble_eq_true rfl⟩) (rPreV (hT.rcv3 g_q78 hK hP) hP hK hD hN) rfl rfl hl.1 rfl (lv_room (Nat.le_of_ble_eq_true rfl)) dX5_strikes_88 ⟨Nat.le_of_ble_eq_true rfl, Nat.le_of_ble_eq_true rfl⟩) hP hS (fun rq88 H locs hp88 hP hS => ?_)
            refine c_v (K := K) (K2 := K) (G := G) (w := w) (post := fun _ _ => True) (va_runV (mc := 0) (ms := 0) (rm := rmX2_put) (As := [.int pq1, .int vq37, .int rq88]) (rest := []) ⟨hx, hb, hml, hown, hts⟩ (k_X2_put l hT H.size g_q78 pq1 vq37 rq88) (cwV 3 hts gX5_strikes_X2_put rfl rfl rfl (by decide +kernel) ⟨Nat.le_of_ble_eq_true rfl, Nat.le_of_ble_eq_true rfl⟩) (kPreV (hT.rcv3 g_q78 hK hP) hP hK hD hN) rfl rfl hl.1 rfl (lv_room (Nat.le_of_ble_eq_true rfl)) dX5_strikes_91 ⟨Nat.le_of_ble_eq_true rfl, Nat.le_of_ble_eq_true rfl⟩) hD hS hA (fun G w H locs hp91 hg hT hP hD hS => ?_)
            have hG := hG.tr hg
            have g_h0 := hg.at g_h0 (by decide)
            refine lv_iload_n hx hb dX5_strikes_94 rfl (lv_at hl 1 rfl) ?_
            exact W.iret (v := vq37) hx hb hr (fun t ht hW => ⟨⟨vq37, (G, w), rfl, ⟨trivial, hG, hT⟩, by rw [ht]; exact hP, hD⟩, hS.F ht⟩) hS.2.2 dX5_strikes_95
          · skip
            refine lv_ldc (v := (-1000002)) hx hb hown (hts (.constant RX5 89 (-1000002)) (by decide +kernel)) dX5_strikes_63 ?_
            exact W.iret (v := (-1000002)) hx hb hr (fun t ht hW => ⟨⟨(-1000002), (G0, w0), rfl, ⟨trivial, hG, hT⟩, by rw [ht]; exact hP, hD⟩, hS.F ht⟩) hS.2.2 dX5_strikes_65
      · skip
        refine lv_ldc (v := (-1000001)) hx hb hown (hts (.constant RX5 51 (-1000001)) (by decide +kernel)) dX5_strikes_22 ?_
        exact W.iret (v := (-1000001)) hx hb hr (fun t ht hW => ⟨⟨(-1000001), (G0, w0), rfl, ⟨trivial, hG, hT⟩, by rw [ht]; exact hP, hD⟩, hS.F ht⟩) hS.2.2 dX5_strikes_24
abbrev rmX5_bends : Room := { frames := 4, cells := 0, slots := 0, locals := 87 }
set_option maxHeartbeats 4000000 in
set_option maxRecDepth 100000 in
theorem k_X5_bends (l : Launch) {K : Cx} {G0 : Nat → Nat} {w0 : va_W} (hT : TH K G0 w0) (sz : Nat) {h0 : Nat} (g_h0 : G0 h0 = 6) (pq1 : Int32) (pq2 : Int32)  : Ci l K yX5_bends wsX5_bends rmX5_bends 0 0 [.ref h0, .int pq1, .int pq2] G0 w0 sz (fun _ _ _ => True) := by
  refine Met.ofW (cc := cX5_bends) (maxL := 3) (ret := (some .int)) (by decide) rfl ?_
  intro p e s m args below meth c s₁ B hml hv
  obtain ⟨rfl, hsz, hP, hK, hD0, hN⟩ := hv
  have hx := B.exec
  have hb := B.bytes
  have hr := B.returns
  have hts := atoms_spec (ws := wsX5_bends) B.pre
  have hown : s.vm.findClass RX5 = some m.cls := findClass_of_methodNamed B.named
  have hlocks := B.notSynchronized
  have hinX5 : ∀ w ∈ wsX50, w ∈ wsX5_bends := by decide +kernel
  subst hsz
  have hD := hD0.self (sz := s.heap.size)
  generalize hAe : va_A w0 s.heap.size = A at hD ⊢
  have hA : ∀ q : Nat, s.heap.size ≤ q → A q := fun q h => by rw [← hAe]; exact Or.inr h
  have hS : va_S A s.heap s.heap [] := va_S.rf
  have hG : gLe G0 G0 := gLe.rf
  have hl := lv_entry ([.ref h0, .int pq1, .int pq2]) (n := 3) (Nat.le_of_ble_eq_true rfl)
  rw [lg_entry_eq]
  generalize (lg_sl ([.ref h0, .int pq1, .int pq2]) ++ List.replicate (3 - (lg_sl ([.ref h0, .int pq1, .int pq2])).length) Slot.unset).toArray = ls at hl ⊢
  have hl : lv_has ls 3 [(0, .ref h0), (1, .int pq1), (2, .int pq2)] := hl
  refine lv_iload_n hx hb dX5_bends_0 rfl (lv_at hl 1 rfl) ?_
  refine r_i (va_runS (As := [.int pq1]) (rest := []) ⟨hx, hb, hml, hown, hts⟩ (k_X5_isRegister l pq1) (va_cwS 1 hts gX5_bends_X5_isRegister rfl rfl rfl (by decide +kernel) ⟨Nat.le_of_ble_eq_true rfl, Nat.le_of_ble_eq_true rfl⟩) (pPreS) rfl rfl hl.1 rfl (lv_room (Nat.le_of_ble_eq_true rfl)) dX5_bends_1 ⟨Nat.le_of_ble_eq_true rfl, Nat.le_of_ble_eq_true rfl⟩) hP hS (fun rq1 H locs hp1 hP hS => ?_)
  refine lv_if_eq (tgt := 18) hx hb dX5_bends_4 (by decide) (fun cq4 => ?_) (fun cq4 => ?_)
  · skip
    refine lv_ldc (v := (-1000001)) hx hb hown (hts (.constant RX5 51 (-1000001)) (by decide +kernel)) dX5_bends_18 ?_
    exact W.iret (v := (-1000001)) hx hb hr (fun t ht hW => ⟨⟨(-1000001), (G0, w0), rfl, ⟨trivial, hG, hT⟩, by rw [ht]; exact hP, hD⟩, hS.F ht⟩) hS.2.2 dX5_bends_20
  · skip
    refine lv_iload_n hx hb dX5_bends_7 rfl (lv_at hl 2 rfl) ?_
    refine lv_iconst (v := 1) hx hb dX5_bends_8 (by decide) ?_
    refine lv_icmp_lt (tgt := 18) hx hb dX5_bends_9 (by decide) (fun cq9 => ?_) (fun cq9 => ?_)
    · skip
      refine lv_ldc (v := (-1000001)) hx hb hown (hts (.constant RX5 51 (-1000001)) (by decide +kernel)) dX5_bends_18 ?_
      exact W.iret (v := (-1000001)) hx hb hr (fun t ht hW => ⟨⟨(-1000001), (G0, w0), rfl, ⟨trivial, hG, hT⟩, by rw [ht]; exact hP, hD⟩, hS.F ht⟩) hS.2.2 dX5_bends_20
    · skip
      refine lv_iload_n hx hb dX5_bends_12 rfl (lv_at hl 2 rfl) ?_
      refine lv_bipush (v := 15) hx hb dX5_bends_13 (by decide) ?_
      refine lv_icmp_lt (tgt := 21) hx hb dX5_bends_15 (by decide) (fun cq15 => ?_) (fun cq15 => ?_)
      · skip
        refine lv_aload_n hx hb dX5_bends_21 rfl (lv_at hl 0 rfl) ?_
        obtain ⟨kq22, qq22, rq22, tq22, uq22, vq22, hk22, g_q22, g_r22, g_t22, g_u22, g_v22⟩ := hT.k6 g_h0
        refine va_get (D := K.1) (ci := 5) (v := .ref rq22) (C := RX5) (T := TX5) (N := 5) hx hb hts hinX5 hown hK hP kq22 hk22 rfl 1 (by decide) (hts (.fieldLink RX5 19 "CodedWords" "past" "LCodedWords$Past;") (by decide +kernel)) (fun _ h9 => h9) rfl dX5_bends_22 ?_
        refine lv_aload_n hx hb dX5_bends_25 rfl (lv_at hl 0 rfl) ?_
        refine va_get (D := K.1) (ci := 5) (v := .ref qq22) (C := RX5) (T := TX5) (N := 5) hx hb hts hinX5 hown hK hP kq22 hk22 rfl 0 (by decide) (hts (.fieldLink RX5 10 "CodedWords" "code" "LCodedWords$Code;") (by decide +kernel)) (fun _ h9 => h9) rfl dX5_bends_26 ?_
        refine c_v (K := K) (K2 := K) (G := G0) (w := w0) (post := fun _ _ => True) (va_runV (mc := 0) (ms := 0) (rm := rmX3_remember) (As := [.ref qq22]) (rest := []) ⟨hx, hb, hml, hown, hts⟩ (k_X3_remember l hT H.size g_r22 g_q22) (cwV 1 hts gX5_bends_X3_remember rfl rfl rfl (by decide +kernel) ⟨Nat.le_of_ble_eq_true rfl, Nat.le_of_ble_eq_true rfl⟩) (kPreV (hT.rcv4 g_r22 hK hP) hP hK hD hN) rfl rfl hl.1 rfl (lv_room (Nat.le_of_ble_eq_true rfl)) dX5_bends_29 ⟨Nat.le_of_ble_eq_true rfl, Nat.le_of_ble_eq_true rfl⟩) hD hS hA (fun G w H locs hp29 hg hT hP hD hS => ?_)
        have hG := hG.tr hg
        have g_h0 := hg.at g_h0 (by decide)
        refine lv_aload_n hx hb dX5_bends_32 rfl (lv_at hl 0 rfl) ?_
        obtain ⟨kq33, qq33, rq33, tq33, uq33, vq33, hk33, g_q33, g_r33, g_t33, g_u33, g_v33⟩ := hT.k6 g_h0
        refine va_get (D := K.1) (ci := 5) (v := .ref qq33) (C := RX5) (T := TX5) (N := 5) hx hb hts hinX5 hown hK hP kq33 hk33 rfl 0 (by decide) (hts (.fieldLink RX5 10 "CodedWords" "code" "LCodedWords$Code;") (by decide +kernel)) (fun _ h9 => h9) rfl dX5_bends_33 ?_
        refine lv_iload_n hx hb dX5_bends_36 rfl (lv_at hl 1 rfl) ?_
        refine lv_aload_n hx hb dX5_bends_37 rfl (lv_at hl 0 rfl) ?_
        refine va_get (D := K.1) (ci := 5) (v := .ref qq33) (C := RX5) (T := TX5) (N := 5) hx hb hts hinX5 hown hK hP kq33 hk33 rfl 0 (by decide) (hts (.fieldLink RX5 10 "CodedWords" "code" "LCodedWords$Code;") (by decide +kernel)) (fun _ h9 => h9) rfl dX5_bends_38 ?_
        refine lv_iload_n hx hb dX5_bends_41 rfl (lv_at hl 1 rfl) ?_
        refine r_i (va_runV (As := [.int pq1]) (rest := [.int pq1, .ref qq33]) ⟨hx, hb, hml, hown, hts⟩ (k_X2_wordOf l hT g_q33 pq1) (cwV 1 hts gX5_bends_X2_wordOf rfl rfl rfl (by decide +kernel) ⟨Nat.le_of_ble_eq_true rfl, Nat.le_of_ble_eq_true rfl⟩) (rPreV (hT.rcv3 g_q33 hK hP) hP hK hD hN) rfl rfl hl.1 rfl (lv_room (Nat.le_of_ble_eq_true rfl)) dX5_bends_42 ⟨Nat.le_of_ble_eq_true rfl, Nat.le_of_ble_eq_true rfl⟩) hP hS (fun rq42 H locs hp42 hP hS => ?_)
        refine lv_aload_n hx hb dX5_bends_45 rfl (lv_at hl 0 rfl) ?_
        refine va_get (D := K.1) (ci := 5) (v := .ref qq33) (C := RX5) (T := TX5) (N := 5) hx hb hts hinX5 hown hK hP kq33 hk33 rfl 0 (by decide) (hts (.fieldLink RX5 10 "CodedWords" "code" "LCodedWords$Code;") (by decide +kernel)) (fun _ h9 => h9) rfl dX5_bends_46 ?_
        refine lv_iload_n hx hb dX5_bends_49 rfl (lv_at hl 1 rfl) ?_
        refine r_i (va_runV (As := [.int pq1]) (rest := [.int rq42, .int pq1, .ref qq33]) ⟨hx, hb, hml, hown, hts⟩ (k_X2_residueOf l hT g_q33 pq1) (cwV 1 hts gX5_bends_X2_residueOf rfl rfl rfl (by decide +kernel) ⟨Nat.le_of_ble_eq_true rfl, Nat.le_of_ble_eq_true rfl⟩) (rPreV (hT.rcv3 g_q33 hK hP) hP hK hD hN) rfl rfl hl.1 rfl (lv_room (Nat.le_of_ble_eq_true rfl)) dX5_bends_50 ⟨Nat.le_of_ble_eq_true rfl, Nat.le_of_ble_eq_true rfl⟩) hP hS (fun rq50 H locs hp50 hP hS => ?_)
        refine lv_iload_n hx hb dX5_bends_53 rfl (lv_at hl 2 rfl) ?_
        refine lv_iadd hx hb dX5_bends_54 ?_
        refine lv_topi (fun vq54 eq54 => ?_)
        refine lv_bipush (v := 15) hx hb dX5_bends_55 (by decide) ?_
        refine r_i (va_runS (As := [.int vq54, .int 15]) (rest := [.int rq42, .int pq1, .ref qq33]) ⟨hx, hb, hml, hown, hts⟩ (k_X5_rest l vq54 15) (va_cwS 2 hts gX5_bends_X5_rest rfl rfl rfl (by decide +kernel) ⟨Nat.le_of_ble_eq_true rfl, Nat.le_of_ble_eq_true rfl⟩) (pPreS) rfl rfl hl.1 rfl (lv_room (Nat.le_of_ble_eq_true rfl)) dX5_bends_57 ⟨Nat.le_of_ble_eq_true rfl, Nat.le_of_ble_eq_true rfl⟩) hP hS (fun rq57 H locs hp57 hP hS => ?_)
        refine c_v (K := K) (K2 := K) (G := G) (w := w) (post := fun _ _ => True) (va_runV (mc := 0) (ms := 0) (rm := rmX2_put) (As := [.int pq1, .int rq42, .int rq57]) (rest := []) ⟨hx, hb, hml, hown, hts⟩ (k_X2_put l hT H.size g_q33 pq1 rq42 rq57) (cwV 3 hts gX5_bends_X2_put rfl rfl rfl (by decide +kernel) ⟨Nat.le_of_ble_eq_true rfl, Nat.le_of_ble_eq_true rfl⟩) (kPreV (hT.rcv3 g_q33 hK hP) hP hK hD hN) rfl rfl hl.1 rfl (lv_room (Nat.le_of_ble_eq_true rfl)) dX5_bends_60 ⟨Nat.le_of_ble_eq_true rfl, Nat.le_of_ble_eq_true rfl⟩) hD hS hA (fun G w H locs hp60 hg hT hP hD hS => ?_)
        have hG := hG.tr hg
        have g_h0 := hg.at g_h0 (by decide)
        refine lv_aload_n hx hb dX5_bends_63 rfl (lv_at hl 0 rfl) ?_
        obtain ⟨kq64, qq64, rq64, tq64, uq64, vq64, hk64, g_q64, g_r64, g_t64, g_u64, g_v64⟩ := hT.k6 g_h0
        refine va_get (D := K.1) (ci := 5) (v := .ref qq64) (C := RX5) (T := TX5) (N := 5) hx hb hts hinX5 hown hK hP kq64 hk64 rfl 0 (by decide) (hts (.fieldLink RX5 10 "CodedWords" "code" "LCodedWords$Code;") (by decide +kernel)) (fun _ h9 => h9) rfl dX5_bends_64 ?_
        refine lv_iload_n hx hb dX5_bends_67 rfl (lv_at hl 1 rfl) ?_
        refine r_i (va_runV (As := [.int pq1]) (rest := []) ⟨hx, hb, hml, hown, hts⟩ (k_X2_residueOf l hT g_q64 pq1) (cwV 1 hts gX5_bends_X2_residueOf rfl rfl rfl (by decide +kernel) ⟨Nat.le_of_ble_eq_true rfl, Nat.le_of_ble_eq_true rfl⟩) (rPreV (hT.rcv3 g_q64 hK hP) hP hK hD hN) rfl rfl hl.1 rfl (lv_room (Nat.le_of_ble_eq_true rfl)) dX5_bends_68 ⟨Nat.le_of_ble_eq_true rfl, Nat.le_of_ble_eq_true rfl⟩) hP hS (fun rq68 H locs hp68 hP hS => ?_)
        exact W.iret (v := rq68) hx hb hr (fun t ht hW => ⟨⟨rq68, (G, w), rfl, ⟨trivial, hG, hT⟩, by rw [ht]; exact hP, hD⟩, hS.F ht⟩) hS.2.2 dX5_bends_71
      · skip
        refine lv_ldc (v := (-1000001)) hx hb hown (hts (.constant RX5 51 (-1000001)) (by decide +kernel)) dX5_bends_18 ?_
        exact W.iret (v := (-1000001)) hx hb hr (fun t ht hW => ⟨⟨(-1000001), (G0, w0), rfl, ⟨trivial, hG, hT⟩, by rw [ht]; exact hP, hD⟩, hS.F ht⟩) hS.2.2 dX5_bends_20
abbrev rmX5_mends : Room := { frames := 7, cells := 0, slots := 0, locals := 152 }
set_option maxHeartbeats 4000000 in
set_option maxRecDepth 100000 in
theorem k_X5_mends (l : Launch) {K : Cx} {G0 : Nat → Nat} {w0 : va_W} (hT : TH K G0 w0) (sz : Nat) {h0 : Nat} (g_h0 : G0 h0 = 6) (pq1 : Int32)  : Ci l K yX5_mends wsX5_mends rmX5_mends 0 0 [.ref h0, .int pq1] G0 w0 sz (fun _ _ _ => True) := by
  refine Met.ofW (cc := cX5_mends) (maxL := 4) (ret := (some .int)) (by decide) rfl ?_
  intro p e s m args below meth c s₁ B hml hv
  obtain ⟨rfl, hsz, hP, hK, hD0, hN⟩ := hv
  have hx := B.exec
  have hb := B.bytes
  have hr := B.returns
  have hts := atoms_spec (ws := wsX5_mends) B.pre
  have hown : s.vm.findClass RX5 = some m.cls := findClass_of_methodNamed B.named
  have hlocks := B.notSynchronized
  have hinX5 : ∀ w ∈ wsX50, w ∈ wsX5_mends := by decide +kernel
  subst hsz
  have hD := hD0.self (sz := s.heap.size)
  generalize hAe : va_A w0 s.heap.size = A at hD ⊢
  have hA : ∀ q : Nat, s.heap.size ≤ q → A q := fun q h => by rw [← hAe]; exact Or.inr h
  have hS : va_S A s.heap s.heap [] := va_S.rf
  have hG : gLe G0 G0 := gLe.rf
  have hl := lv_entry ([.ref h0, .int pq1]) (n := 4) (Nat.le_of_ble_eq_true rfl)
  rw [lg_entry_eq]
  generalize (lg_sl ([.ref h0, .int pq1]) ++ List.replicate (4 - (lg_sl ([.ref h0, .int pq1])).length) Slot.unset).toArray = ls at hl ⊢
  have hl : lv_has ls 4 [(0, .ref h0), (1, .int pq1)] := hl
  refine lv_iload_n hx hb dX5_mends_0 rfl (lv_at hl 1 rfl) ?_
  refine r_i (va_runS (As := [.int pq1]) (rest := []) ⟨hx, hb, hml, hown, hts⟩ (k_X5_isRegister l pq1) (va_cwS 1 hts gX5_mends_X5_isRegister rfl rfl rfl (by decide +kernel) ⟨Nat.le_of_ble_eq_true rfl, Nat.le_of_ble_eq_true rfl⟩) (pPreS) rfl rfl hl.1 rfl (lv_room (Nat.le_of_ble_eq_true rfl)) dX5_mends_1 ⟨Nat.le_of_ble_eq_true rfl, Nat.le_of_ble_eq_true rfl⟩) hP hS (fun rq1 H locs hp1 hP hS => ?_)
  refine lv_if_ne (tgt := 10) hx hb dX5_mends_4 (by decide) (fun cq4 => ?_) (fun cq4 => ?_)
  · skip
    refine lv_aload_n hx hb dX5_mends_10 rfl (lv_at hl 0 rfl) ?_
    obtain ⟨kq11, qq11, rq11, tq11, uq11, vq11, hk11, g_q11, g_r11, g_t11, g_u11, g_v11⟩ := hT.k6 g_h0
    refine va_get (D := K.1) (ci := 5) (v := .ref qq11) (C := RX5) (T := TX5) (N := 5) hx hb hts hinX5 hown hK hP kq11 hk11 rfl 0 (by decide) (hts (.fieldLink RX5 10 "CodedWords" "code" "LCodedWords$Code;") (by decide +kernel)) (fun _ h9 => h9) rfl dX5_mends_11 ?_
    refine lv_iload_n hx hb dX5_mends_14 rfl (lv_at hl 1 rfl) ?_
    refine r_i (va_runV (As := [.int pq1]) (rest := []) ⟨hx, hb, hml, hown, hts⟩ (k_X2_wordOf l hT g_q11 pq1) (cwV 1 hts gX5_mends_X2_wordOf rfl rfl rfl (by decide +kernel) ⟨Nat.le_of_ble_eq_true rfl, Nat.le_of_ble_eq_true rfl⟩) (rPreV (hT.rcv3 g_q11 hK hP) hP hK hD hN) rfl rfl hl.1 rfl (lv_room (Nat.le_of_ble_eq_true rfl)) dX5_mends_15 ⟨Nat.le_of_ble_eq_true rfl, Nat.le_of_ble_eq_true rfl⟩) hP hS (fun rq15 H locs hp15 hP hS => ?_)
    refine lv_istore_n (lv' := [(2, .int rq15), (0, .ref h0), (1, .int pq1)]) hx hb dX5_mends_18 rfl hl (by decide) rfl (fun ls hl => ?_)
    refine lv_aload_n hx hb dX5_mends_19 rfl (lv_at hl 1 rfl) ?_
    refine va_get (D := K.1) (ci := 5) (v := .ref qq11) (C := RX5) (T := TX5) (N := 5) hx hb hts hinX5 hown hK hP kq11 hk11 rfl 0 (by decide) (hts (.fieldLink RX5 10 "CodedWords" "code" "LCodedWords$Code;") (by decide +kernel)) (fun _ h9 => h9) rfl dX5_mends_20 ?_
    refine lv_iload_n hx hb dX5_mends_23 rfl (lv_at hl 2 rfl) ?_
    refine r_i (va_runV (As := [.int pq1]) (rest := []) ⟨hx, hb, hml, hown, hts⟩ (k_X2_verdictOf l hT g_q11 pq1) (cwV 1 hts gX5_mends_X2_verdictOf rfl rfl rfl (by decide +kernel) ⟨Nat.le_of_ble_eq_true rfl, Nat.le_of_ble_eq_true rfl⟩) (rPreV (hT.rcv3 g_q11 hK hP) hP hK hD hN) rfl rfl hl.1 rfl (lv_room (Nat.le_of_ble_eq_true rfl)) dX5_mends_24 ⟨Nat.le_of_ble_eq_true rfl, Nat.le_of_ble_eq_true rfl⟩) hP hS (fun rq24 H locs hp24 hP hS => ?_)
    rcases (show (rq24.toInt < 0 ∨ 2 < rq24.toInt) ∨ rq24.toInt = 0 ∨ rq24.toInt = 1 ∨ rq24.toInt = 2 by omega) with tq27 | tq27 | tq27 | tq27
    · skip
      refine lv_tableOut (tgt := 130) hx hb dX5_mends_27 tq27 (by decide) ?_
      refine lv_ldc (v := (-1000005)) hx hb hown (hts (.constant RX5 120 (-1000005)) (by decide +kernel)) dX5_mends_130 ?_
      exact W.iret (v := (-1000005)) hx hb hr (fun t ht hW => ⟨⟨(-1000005), (G0, w0), rfl, ⟨trivial, hG, hT⟩, by rw [ht]; exact hP, hD⟩, hS.F ht⟩) hS.2.2 dX5_mends_132
    · skip
      refine lv_tableIn (off := 25) (tgt := 52) hx hb dX5_mends_27 (by omega) (by omega) (by rw [tq27]; rfl) (by decide) ?_
      refine lv_iconst (v := 0) hx hb dX5_mends_52 (by decide) ?_
      exact W.iret (v := 0) hx hb hr (fun t ht hW => ⟨⟨0, (G0, w0), rfl, ⟨trivial, hG, hT⟩, by rw [ht]; exact hP, hD⟩, hS.F ht⟩) hS.2.2 dX5_mends_53
    · skip
      refine lv_tableIn (off := 27) (tgt := 54) hx hb dX5_mends_27 (by omega) (by omega) (by rw [tq27]; rfl) (by decide) ?_
      refine lv_aload_n hx hb dX5_mends_54 rfl (lv_at hl 1 rfl) ?_
      refine va_get (D := K.1) (ci := 5) (v := .ref rq11) (C := RX5) (T := TX5) (N := 5) hx hb hts hinX5 hown hK hP kq11 hk11 rfl 1 (by decide) (hts (.fieldLink RX5 19 "CodedWords" "past" "LCodedWords$Past;") (by decide +kernel)) (fun _ h9 => h9) rfl dX5_mends_55 ?_
      refine lv_aload_n hx hb dX5_mends_58 rfl (lv_at hl 1 rfl) ?_
      refine va_get (D := K.1) (ci := 5) (v := .ref qq11) (C := RX5) (T := TX5) (N := 5) hx hb hts hinX5 hown hK hP kq11 hk11 rfl 0 (by decide) (hts (.fieldLink RX5 10 "CodedWords" "code" "LCodedWords$Code;") (by decide +kernel)) (fun _ h9 => h9) rfl dX5_mends_59 ?_
      refine c_v (K := K) (K2 := K) (G := G0) (w := w0) (post := fun _ _ => True) (va_runV (mc := 0) (ms := 0) (rm := rmX3_remember) (As := [.ref qq11]) (rest := []) ⟨hx, hb, hml, hown, hts⟩ (k_X3_remember l hT H.size g_r11 g_q11) (cwV 1 hts gX5_mends_X3_remember rfl rfl rfl (by decide +kernel) ⟨Nat.le_of_ble_eq_true rfl, Nat.le_of_ble_eq_true rfl⟩) (kPreV (hT.rcv4 g_r11 hK hP) hP hK hD hN) rfl rfl hl.1 rfl (lv_room (Nat.le_of_ble_eq_true rfl)) dX5_mends_62 ⟨Nat.le_of_ble_eq_true rfl, Nat.le_of_ble_eq_true rfl⟩) hD hS hA (fun G w H locs hp62 hg hT hP hD hS => ?_)
      have hG := hG.tr hg
      have g_h0 := hg.at g_h0 (by decide)
      refine lv_aload_n hx hb dX5_mends_65 rfl (lv_at hl 1 rfl) ?_
      obtain ⟨kq66, qq66, rq66, tq66, uq66, vq66, hk66, g_q66, g_r66, g_t66, g_u66, g_v66⟩ := hT.k6 g_h0
      refine va_get (D := K.1) (ci := 5) (v := .ref qq66) (C := RX5) (T := TX5) (N := 5) hx hb hts hinX5 hown hK hP kq66 hk66 rfl 0 (by decide) (hts (.fieldLink RX5 10 "CodedWords" "code" "LCodedWords$Code;") (by decide +kernel)) (fun _ h9 => h9) rfl dX5_mends_66 ?_
      refine lv_iload_n hx hb dX5_mends_69 rfl (lv_at hl 2 rfl) ?_
      refine lv_iload_n hx hb dX5_mends_70 rfl (lv_at hl 0 rfl) ?_
      refine lv_aload_n hx hb dX5_mends_71 rfl (lv_at hl 1 rfl) ?_
      refine va_get (D := K.1) (ci := 5) (v := .ref qq66) (C := RX5) (T := TX5) (N := 5) hx hb hts hinX5 hown hK hP kq66 hk66 rfl 0 (by decide) (hts (.fieldLink RX5 10 "CodedWords" "code" "LCodedWords$Code;") (by decide +kernel)) (fun _ h9 => h9) rfl dX5_mends_72 ?_
      refine lv_iload_n hx hb dX5_mends_75 rfl (lv_at hl 0 rfl) ?_
      refine r_i (va_runV (As := [.int rq15]) (rest := [.int rq15, .int pq1, .ref qq66]) ⟨hx, hb, hml, hown, hts⟩ (k_X2_dueResidue l hT g_q66 rq15) (cwV 1 hts gX5_mends_X2_dueResidue rfl rfl rfl (by decide +kernel) ⟨Nat.le_of_ble_eq_true rfl, Nat.le_of_ble_eq_true rfl⟩) (rPreV (hT.rcv3 g_q66 hK hP) hP hK hD hN) rfl rfl hl.1 rfl (lv_room (Nat.le_of_ble_eq_true rfl)) dX5_mends_76 ⟨Nat.le_of_ble_eq_true rfl, Nat.le_of_ble_eq_true rfl⟩) hP hS (fun rq76 H locs hp76 hP hS => ?_)
      refine c_v (K := K) (K2 := K) (G := G) (w := w) (post := fun _ _ => True) (va_runV (mc := 0) (ms := 0) (rm := rmX2_put) (As := [.int pq1, .int rq15, .int rq76]) (rest := []) ⟨hx, hb, hml, hown, hts⟩ (k_X2_put l hT H.size g_q66 pq1 rq15 rq76) (cwV 3 hts gX5_mends_X2_put rfl rfl rfl (by decide +kernel) ⟨Nat.le_of_ble_eq_true rfl, Nat.le_of_ble_eq_true rfl⟩) (kPreV (hT.rcv3 g_q66 hK hP) hP hK hD hN) rfl rfl hl.1 rfl (lv_room (Nat.le_of_ble_eq_true rfl)) dX5_mends_79 ⟨Nat.le_of_ble_eq_true rfl, Nat.le_of_ble_eq_true rfl⟩) hD hS hA (fun G w H locs hp79 hg hT hP hD hS => ?_)
      have hG := hG.tr hg
      have g_h0 := hg.at g_h0 (by decide)
      refine lv_iconst (v := 1) hx hb dX5_mends_82 (by decide) ?_
      exact W.iret (v := 1) hx hb hr (fun t ht hW => ⟨⟨1, (G, w), rfl, ⟨trivial, hG, hT⟩, by rw [ht]; exact hP, hD⟩, hS.F ht⟩) hS.2.2 dX5_mends_83
    · skip
      refine lv_tableIn (off := 57) (tgt := 84) hx hb dX5_mends_27 (by omega) (by omega) (by rw [tq27]; rfl) (by decide) ?_
      refine lv_aload_n hx hb dX5_mends_84 rfl (lv_at hl 1 rfl) ?_
      refine va_get (D := K.1) (ci := 5) (v := .ref qq11) (C := RX5) (T := TX5) (N := 5) hx hb hts hinX5 hown hK hP kq11 hk11 rfl 0 (by decide) (hts (.fieldLink RX5 10 "CodedWords" "code" "LCodedWords$Code;") (by decide +kernel)) (fun _ h9 => h9) rfl dX5_mends_85 ?_
      refine lv_iload_n hx hb dX5_mends_88 rfl (lv_at hl 2 rfl) ?_
      refine r_i (va_runV (As := [.int pq1]) (rest := []) ⟨hx, hb, hml, hown, hts⟩ (k_X2_onlyCauseOf l hT g_q11 pq1) (cwV 1 hts gX5_mends_X2_onlyCauseOf rfl rfl rfl (by decide +kernel) ⟨Nat.le_of_ble_eq_true rfl, Nat.le_of_ble_eq_true rfl⟩) (rPreV (hT.rcv3 g_q11 hK hP) hP hK hD hN) rfl rfl hl.1 rfl (lv_room (Nat.le_of_ble_eq_true rfl)) dX5_mends_89 ⟨Nat.le_of_ble_eq_true rfl, Nat.le_of_ble_eq_true rfl⟩) hP hS (fun rq89 H locs hp89 hP hS => ?_)
      refine lv_istore_n (lv' := [(3, .int rq89), (2, .int rq15), (0, .ref h0), (1, .int pq1)]) hx hb dX5_mends_92 rfl hl (by decide) rfl (fun ls hl => ?_)
      refine lv_aload_n hx hb dX5_mends_93 rfl (lv_at hl 2 rfl) ?_
      refine va_get (D := K.1) (ci := 5) (v := .ref rq11) (C := RX5) (T := TX5) (N := 5) hx hb hts hinX5 hown hK hP kq11 hk11 rfl 1 (by decide) (hts (.fieldLink RX5 19 "CodedWords" "past" "LCodedWords$Past;") (by decide +kernel)) (fun _ h9 => h9) rfl dX5_mends_94 ?_
      refine lv_aload_n hx hb dX5_mends_97 rfl (lv_at hl 2 rfl) ?_
      refine va_get (D := K.1) (ci := 5) (v := .ref qq11) (C := RX5) (T := TX5) (N := 5) hx hb hts hinX5 hown hK hP kq11 hk11 rfl 0 (by decide) (hts (.fieldLink RX5 10 "CodedWords" "code" "LCodedWords$Code;") (by decide +kernel)) (fun _ h9 => h9) rfl dX5_mends_98 ?_
      refine c_v (K := K) (K2 := K) (G := G0) (w := w0) (post := fun _ _ => True) (va_runV (mc := 0) (ms := 0) (rm := rmX3_remember) (As := [.ref qq11]) (rest := []) ⟨hx, hb, hml, hown, hts⟩ (k_X3_remember l hT H.size g_r11 g_q11) (cwV 1 hts gX5_mends_X3_remember rfl rfl rfl (by decide +kernel) ⟨Nat.le_of_ble_eq_true rfl, Nat.le_of_ble_eq_true rfl⟩) (kPreV (hT.rcv4 g_r11 hK hP) hP hK hD hN) rfl rfl hl.1 rfl (lv_room (Nat.le_of_ble_eq_true rfl)) dX5_mends_101 ⟨Nat.le_of_ble_eq_true rfl, Nat.le_of_ble_eq_true rfl⟩) hD hS hA (fun G w H locs hp101 hg hT hP hD hS => ?_)
      have hG := hG.tr hg
      have g_h0 := hg.at g_h0 (by decide)
      refine lv_aload_n hx hb dX5_mends_104 rfl (lv_at hl 2 rfl) ?_
      obtain ⟨kq105, qq105, rq105, tq105, uq105, vq105, hk105, g_q105, g_r105, g_t105, g_u105, g_v105⟩ := hT.k6 g_h0
      refine va_get (D := K.1) (ci := 5) (v := .ref qq105) (C := RX5) (T := TX5) (N := 5) hx hb hts hinX5 hown hK hP kq105 hk105 rfl 0 (by decide) (hts (.fieldLink RX5 10 "CodedWords" "code" "LCodedWords$Code;") (by decide +kernel)) (fun _ h9 => h9) rfl dX5_mends_105 ?_
      refine lv_iload_n hx hb dX5_mends_108 rfl (lv_at hl 3 rfl) ?_
      refine lv_iload_n hx hb dX5_mends_109 rfl (lv_at hl 1 rfl) ?_
      refine lv_iload_n hx hb dX5_mends_110 rfl (lv_at hl 0 rfl) ?_
      refine r_i (va_runS (As := [.int rq89]) (rest := [.int rq15, .int pq1, .ref qq105]) ⟨hx, hb, hml, hown, hts⟩ (k_X5_change l rq89) (va_cwS 1 hts gX5_mends_X5_change rfl rfl rfl (by decide +kernel) ⟨Nat.le_of_ble_eq_true rfl, Nat.le_of_ble_eq_true rfl⟩) (pPreS) rfl rfl hl.1 rfl (lv_room (Nat.le_of_ble_eq_true rfl)) dX5_mends_111 ⟨Nat.le_of_ble_eq_true rfl, Nat.le_of_ble_eq_true rfl⟩) hP hS (fun rq111 H locs hp111 hP hS => ?_)
      refine lv_isub hx hb dX5_mends_114 ?_
      refine lv_topi (fun vq114 eq114 => ?_)
      refine lv_aload_n hx hb dX5_mends_115 rfl (lv_at hl 2 rfl) ?_
      refine va_get (D := K.1) (ci := 5) (v := .ref qq105) (C := RX5) (T := TX5) (N := 5) hx hb hts hinX5 hown hK hP kq105 hk105 rfl 0 (by decide) (hts (.fieldLink RX5 10 "CodedWords" "code" "LCodedWords$Code;") (by decide +kernel)) (fun _ h9 => h9) rfl dX5_mends_116 ?_
      refine lv_iload_n hx hb dX5_mends_119 rfl (lv_at hl 3 rfl) ?_
      refine r_i (va_runV (As := [.int pq1]) (rest := [.int vq114, .int pq1, .ref qq105]) ⟨hx, hb, hml, hown, hts⟩ (k_X2_residueOf l hT g_q105 pq1) (cwV 1 hts gX5_mends_X2_residueOf rfl rfl rfl (by decide +kernel) ⟨Nat.le_of_ble_eq_true rfl, Nat.le_of_ble_eq_true rfl⟩) (rPreV (hT.rcv3 g_q105 hK hP) hP hK hD hN) rfl rfl hl.1 rfl (lv_room (Nat.le_of_ble_eq_true rfl)) dX5_mends_120 ⟨Nat.le_of_ble_eq_true rfl, Nat.le_of_ble_eq_true rfl⟩) hP hS (fun rq120 H locs hp120 hP hS => ?_)
      refine c_v (K := K) (K2 := K) (G := G) (w := w) (post := fun _ _ => True) (va_runV (mc := 0) (ms := 0) (rm := rmX2_put) (As := [.int pq1, .int vq114, .int rq120]) (rest := []) ⟨hx, hb, hml, hown, hts⟩ (k_X2_put l hT H.size g_q105 pq1 vq114 rq120) (cwV 3 hts gX5_mends_X2_put rfl rfl rfl (by decide +kernel) ⟨Nat.le_of_ble_eq_true rfl, Nat.le_of_ble_eq_true rfl⟩) (kPreV (hT.rcv3 g_q105 hK hP) hP hK hD hN) rfl rfl hl.1 rfl (lv_room (Nat.le_of_ble_eq_true rfl)) dX5_mends_123 ⟨Nat.le_of_ble_eq_true rfl, Nat.le_of_ble_eq_true rfl⟩) hD hS hA (fun G w H locs hp123 hg hT hP hD hS => ?_)
      have hG := hG.tr hg
      have g_h0 := hg.at g_h0 (by decide)
      refine lv_iconst (v := 2) hx hb dX5_mends_126 (by decide) ?_
      refine lv_iload_n hx hb dX5_mends_127 rfl (lv_at hl 0 rfl) ?_
      refine lv_iadd hx hb dX5_mends_128 ?_
      refine lv_topi (fun vq128 eq128 => ?_)
      exact W.iret (v := vq128) hx hb hr (fun t ht hW => ⟨⟨vq128, (G, w), rfl, ⟨trivial, hG, hT⟩, by rw [ht]; exact hP, hD⟩, hS.F ht⟩) hS.2.2 dX5_mends_129
  · skip
    refine lv_ldc (v := (-1000001)) hx hb hown (hts (.constant RX5 51 (-1000001)) (by decide +kernel)) dX5_mends_7 ?_
    exact W.iret (v := (-1000001)) hx hb hr (fun t ht hW => ⟨⟨(-1000001), (G0, w0), rfl, ⟨trivial, hG, hT⟩, by rw [ht]; exact hP, hD⟩, hS.F ht⟩) hS.2.2 dX5_mends_9
abbrev rmX5_undo : Room := { frames := 4, cells := 0, slots := 0, locals := 87 }
set_option maxHeartbeats 4000000 in
set_option maxRecDepth 100000 in
theorem k_X5_undo (l : Launch) {K : Cx} {G0 : Nat → Nat} {w0 : va_W} (hT : TH K G0 w0) (sz : Nat) {h0 : Nat} (g_h0 : G0 h0 = 6)  : Ci l K yX5_undo wsX5_undo rmX5_undo 0 0 [.ref h0] G0 w0 sz (fun _ _ _ => True) := by
  refine Met.ofW (cc := cX5_undo) (maxL := 1) (ret := (some .int)) (by decide) rfl ?_
  intro p e s m args below meth c s₁ B hml hv
  obtain ⟨rfl, hsz, hP, hK, hD0, hN⟩ := hv
  have hx := B.exec
  have hb := B.bytes
  have hr := B.returns
  have hts := atoms_spec (ws := wsX5_undo) B.pre
  have hown : s.vm.findClass RX5 = some m.cls := findClass_of_methodNamed B.named
  have hlocks := B.notSynchronized
  have hinX3 : ∀ w ∈ wsX30, w ∈ wsX5_undo := by decide +kernel
  have hinX5 : ∀ w ∈ wsX50, w ∈ wsX5_undo := by decide +kernel
  subst hsz
  have hD := hD0.self (sz := s.heap.size)
  generalize hAe : va_A w0 s.heap.size = A at hD ⊢
  have hA : ∀ q : Nat, s.heap.size ≤ q → A q := fun q h => by rw [← hAe]; exact Or.inr h
  have hS : va_S A s.heap s.heap [] := va_S.rf
  have hG : gLe G0 G0 := gLe.rf
  have hl := lv_entry ([.ref h0]) (n := 1) (Nat.le_of_ble_eq_true rfl)
  rw [lg_entry_eq]
  generalize (lg_sl ([.ref h0]) ++ List.replicate (1 - (lg_sl ([.ref h0])).length) Slot.unset).toArray = ls at hl ⊢
  have hl : lv_has ls 1 [(0, .ref h0)] := hl
  refine lv_aload_n hx hb dX5_undo_0 rfl (lv_at hl 0 rfl) ?_
  obtain ⟨kq1, qq1, rq1, tq1, uq1, vq1, hk1, g_q1, g_r1, g_t1, g_u1, g_v1⟩ := hT.k6 g_h0
  refine va_get (D := K.1) (ci := 5) (v := .ref rq1) (C := RX5) (T := TX5) (N := 5) hx hb hts hinX5 hown hK hP kq1 hk1 rfl 1 (by decide) (hts (.fieldLink RX5 19 "CodedWords" "past" "LCodedWords$Past;") (by decide +kernel)) (fun _ h9 => h9) rfl dX5_undo_1 ?_
  refine lv_aload_n hx hb dX5_undo_4 rfl (lv_at hl 0 rfl) ?_
  refine va_get (D := K.1) (ci := 5) (v := .ref qq1) (C := RX5) (T := TX5) (N := 5) hx hb hts hinX5 hown hK hP kq1 hk1 rfl 0 (by decide) (hts (.fieldLink RX5 10 "CodedWords" "code" "LCodedWords$Code;") (by decide +kernel)) (fun _ h9 => h9) rfl dX5_undo_5 ?_
  refine c_i (K := K) (K2 := K) (G := G0) (w := w0) (post := fun _ _ _ => True) (va_runV (mc := 0) (ms := 0) (rm := rmX3_recall) (As := [.ref qq1]) (rest := []) ⟨hx, hb, hml, hown, hts⟩ (k_X3_recall l hT s.heap.size g_r1 g_q1) (cwV 1 hts gX5_undo_X3_recall rfl rfl rfl (by decide +kernel) ⟨Nat.le_of_ble_eq_true rfl, Nat.le_of_ble_eq_true rfl⟩) (kPreV (hT.rcv4 g_r1 hK hP) hP hK hD hN) rfl rfl hl.1 rfl (lv_room (Nat.le_of_ble_eq_true rfl)) dX5_undo_8 ⟨Nat.le_of_ble_eq_true rfl, Nat.le_of_ble_eq_true rfl⟩) hD hS hA (fun rq8 G w H locs hp8 hg hT hP hD hS => ?_)
  have hG := hG.tr hg
  have g_h0 := hg.at g_h0 (by decide)
  refine lv_if_eq (tgt := 24) hx hb dX5_undo_11 (by decide) (fun cq11 => ?_) (fun cq11 => ?_)
  · skip
    refine lv_ldc (v := (-1000002)) hx hb hown (hts (.constant RX5 89 (-1000002)) (by decide +kernel)) dX5_undo_24 ?_
    exact W.iret (v := (-1000002)) hx hb hr (fun t ht hW => ⟨⟨(-1000002), (G, w), rfl, ⟨trivial, hG, hT⟩, by rw [ht]; exact hP, hD⟩, hS.F ht⟩) hS.2.2 dX5_undo_26
  · skip
    refine lv_aload_n hx hb dX5_undo_14 rfl (lv_at hl 0 rfl) ?_
    obtain ⟨kq15, qq15, rq15, tq15, uq15, vq15, hk15, g_q15, g_r15, g_t15, g_u15, g_v15⟩ := hT.k6 g_h0
    refine va_get (D := K.1) (ci := 5) (v := .ref rq15) (C := RX5) (T := TX5) (N := 5) hx hb hts hinX5 hown hK hP kq15 hk15 rfl 1 (by decide) (hts (.fieldLink RX5 19 "CodedWords" "past" "LCodedWords$Past;") (by decide +kernel)) (fun _ h9 => h9) rfl dX5_undo_15 ?_
    obtain ⟨kq18, qq18, xq18, yq18, hk18, g_q18⟩ := hT.k4 g_r15
    refine va_getN (host := RX5) (D := K.1) (ci := 3) (v := .int yq18) (C := RX3) (T := TX3) (N := 3) hx hb hts hinX3 hown hK hP kq18 hk18 rfl 2 (by decide) (hN.f (by decide +kernel)) (fun _ h9 => h9) rfl dX5_undo_18 ?_
    refine lv_goto (tgt := 26) hx hb dX5_undo_21 (by decide) ?_
    exact W.iret (v := yq18) hx hb hr (fun t ht hW => ⟨⟨yq18, (G, w), rfl, ⟨trivial, hG, hT⟩, by rw [ht]; exact hP, hD⟩, hS.F ht⟩) hS.2.2 dX5_undo_26
abbrev rmX5_register : Room := { frames := 7, cells := 0, slots := 0, locals := 152 }
set_option maxHeartbeats 4000000 in
set_option maxRecDepth 100000 in
theorem k_X5_register (l : Launch) {K : Cx} {G0 : Nat → Nat} {w0 : va_W} (hT : TH K G0 w0) {h0 : Nat} (g_h0 : G0 h0 = 6) (pq1 : Int32) (pq2 : Int32)  : Ri l K yX5_register wsX5_register rmX5_register [.ref h0, .int pq1, .int pq2] w0 (fun _ => True) := by
  refine Met.ofW (cc := cX5_register) (maxL := 4) (ret := (some .int)) (by decide) rfl ?_
  intro p e s m args below meth c s₁ B hml hv
  obtain ⟨rfl, hP, hK, hD, hN⟩ := hv
  have hx := B.exec
  have hb := B.bytes
  have hr := B.returns
  have hts := atoms_spec (ws := wsX5_register) B.pre
  have hown : s.vm.findClass RX5 = some m.cls := findClass_of_methodNamed B.named
  have hlocks := B.notSynchronized
  have hinX2 : ∀ w ∈ wsX20, w ∈ wsX5_register := by decide +kernel
  have hinX5 : ∀ w ∈ wsX50, w ∈ wsX5_register := by decide +kernel
  have hS : va_S (fun _ => False) s.heap s.heap [] := va_S.rf
  have hl := lv_entry ([.ref h0, .int pq1, .int pq2]) (n := 4) (Nat.le_of_ble_eq_true rfl)
  rw [lg_entry_eq]
  generalize (lg_sl ([.ref h0, .int pq1, .int pq2]) ++ List.replicate (4 - (lg_sl ([.ref h0, .int pq1, .int pq2])).length) Slot.unset).toArray = ls at hl ⊢
  have hl : lv_has ls 4 [(0, .ref h0), (1, .int pq1), (2, .int pq2)] := hl
  refine lv_iload_n hx hb dX5_register_0 rfl (lv_at hl 1 rfl) ?_
  refine r_i (va_runS (As := [.int pq1]) (rest := []) ⟨hx, hb, hml, hown, hts⟩ (k_X5_isRegister l pq1) (va_cwS 1 hts gX5_register_X5_isRegister rfl rfl rfl (by decide +kernel) ⟨Nat.le_of_ble_eq_true rfl, Nat.le_of_ble_eq_true rfl⟩) (pPreS) rfl rfl hl.1 rfl (lv_room (Nat.le_of_ble_eq_true rfl)) dX5_register_1 ⟨Nat.le_of_ble_eq_true rfl, Nat.le_of_ble_eq_true rfl⟩) hP hS (fun rq1 H locs hp1 hP hS => ?_)
  refine lv_if_ne (tgt := 10) hx hb dX5_register_4 (by decide) (fun cq4 => ?_) (fun cq4 => ?_)
  · skip
    refine lv_aload_n hx hb dX5_register_10 rfl (lv_at hl 0 rfl) ?_
    obtain ⟨kq11, qq11, rq11, tq11, uq11, vq11, hk11, g_q11, g_r11, g_t11, g_u11, g_v11⟩ := hT.k6 g_h0
    refine va_get (D := K.1) (ci := 5) (v := .ref qq11) (C := RX5) (T := TX5) (N := 5) hx hb hts hinX5 hown hK hP kq11 hk11 rfl 0 (by decide) (hts (.fieldLink RX5 10 "CodedWords" "code" "LCodedWords$Code;") (by decide +kernel)) (fun _ h9 => h9) rfl dX5_register_11 ?_
    refine lv_iload_n hx hb dX5_register_14 rfl (lv_at hl 1 rfl) ?_
    refine r_i (va_runV (As := [.int pq1]) (rest := []) ⟨hx, hb, hml, hown, hts⟩ (k_X2_wordOf l hT g_q11 pq1) (cwV 1 hts gX5_register_X2_wordOf rfl rfl rfl (by decide +kernel) ⟨Nat.le_of_ble_eq_true rfl, Nat.le_of_ble_eq_true rfl⟩) (rPreV (hT.rcv3 g_q11 hK hP) hP hK hD hN) rfl rfl hl.1 rfl (lv_room (Nat.le_of_ble_eq_true rfl)) dX5_register_15 ⟨Nat.le_of_ble_eq_true rfl, Nat.le_of_ble_eq_true rfl⟩) hP hS (fun rq15 H locs hp15 hP hS => ?_)
    refine lv_istore_n (lv' := [(3, .int rq15), (0, .ref h0), (1, .int pq1), (2, .int pq2)]) hx hb dX5_register_18 rfl hl (by decide) rfl (fun ls hl => ?_)
    refine lv_iload_n hx hb dX5_register_19 rfl (lv_at hl 3 rfl) ?_
    rcases (show (pq2.toInt < 0 ∨ 7 < pq2.toInt) ∨ pq2.toInt = 0 ∨ pq2.toInt = 1 ∨ pq2.toInt = 2 ∨ pq2.toInt = 3 ∨ pq2.toInt = 4 ∨ pq2.toInt = 5 ∨ pq2.toInt = 6 ∨ pq2.toInt = 7 by omega) with tq20 | tq20 | tq20 | tq20 | tq20 | tq20 | tq20 | tq20 | tq20
    · skip
      refine lv_tableOut (tgt := 168) hx hb dX5_register_20 tq20 (by decide) ?_
      refine lv_ldc (v := (-1000001)) hx hb hown (hts (.constant RX5 51 (-1000001)) (by decide +kernel)) dX5_register_168 ?_
      exact W.iret (v := (-1000001)) hx hb hr (fun t ht hW => ⟨⟨(-1000001), (), rfl, trivial, trivial⟩, hS.F ht⟩) hS.2.2 dX5_register_170
    · skip
      refine lv_tableIn (off := 48) (tgt := 68) hx hb dX5_register_20 (by omega) (by omega) (by rw [tq20]; rfl) (by decide) ?_
      refine lv_iload_n hx hb dX5_register_68 rfl (lv_at hl 0 rfl) ?_
      exact W.iret (v := rq15) hx hb hr (fun t ht hW => ⟨⟨rq15, (), rfl, trivial, trivial⟩, hS.F ht⟩) hS.2.2 dX5_register_69
    · skip
      refine lv_tableIn (off := 50) (tgt := 70) hx hb dX5_register_20 (by omega) (by omega) (by rw [tq20]; rfl) (by decide) ?_
      refine lv_aload_n hx hb dX5_register_70 rfl (lv_at hl 1 rfl) ?_
      refine va_get (D := K.1) (ci := 5) (v := .ref qq11) (C := RX5) (T := TX5) (N := 5) hx hb hts hinX5 hown hK hP kq11 hk11 rfl 0 (by decide) (hts (.fieldLink RX5 10 "CodedWords" "code" "LCodedWords$Code;") (by decide +kernel)) (fun _ h9 => h9) rfl dX5_register_71 ?_
      refine lv_iload_n hx hb dX5_register_74 rfl (lv_at hl 2 rfl) ?_
      refine r_i (va_runV (As := [.int pq1]) (rest := []) ⟨hx, hb, hml, hown, hts⟩ (k_X2_residueOf l hT g_q11 pq1) (cwV 1 hts gX5_register_X2_residueOf rfl rfl rfl (by decide +kernel) ⟨Nat.le_of_ble_eq_true rfl, Nat.le_of_ble_eq_true rfl⟩) (rPreV (hT.rcv3 g_q11 hK hP) hP hK hD hN) rfl rfl hl.1 rfl (lv_room (Nat.le_of_ble_eq_true rfl)) dX5_register_75 ⟨Nat.le_of_ble_eq_true rfl, Nat.le_of_ble_eq_true rfl⟩) hP hS (fun rq75 H locs hp75 hP hS => ?_)
      exact W.iret (v := rq75) hx hb hr (fun t ht hW => ⟨⟨rq75, (), rfl, trivial, trivial⟩, hS.F ht⟩) hS.2.2 dX5_register_78
    · skip
      refine lv_tableIn (off := 59) (tgt := 79) hx hb dX5_register_20 (by omega) (by omega) (by rw [tq20]; rfl) (by decide) ?_
      refine lv_iload_n hx hb dX5_register_79 rfl (lv_at hl 0 rfl) ?_
      refine lv_aload_n hx hb dX5_register_80 rfl (lv_at hl 1 rfl) ?_
      refine va_get (D := K.1) (ci := 5) (v := .ref qq11) (C := RX5) (T := TX5) (N := 5) hx hb hts hinX5 hown hK hP kq11 hk11 rfl 0 (by decide) (hts (.fieldLink RX5 10 "CodedWords" "code" "LCodedWords$Code;") (by decide +kernel)) (fun _ h9 => h9) rfl dX5_register_81 ?_
      obtain ⟨kq84, xq84, yq84, qq84, rq84, hk84, g_q84, g_r84⟩ := hT.k3 g_q11
      refine va_getN (host := RX5) (D := K.1) (ci := 2) (v := .int xq84) (C := RX2) (T := TX2) (N := 4) hx hb hts hinX2 hown hK hP kq84 hk84 rfl 0 (by decide) (hN.f (by decide +kernel)) (fun _ h9 => h9) rfl dX5_register_84 ?_
      refine r_i (va_runS (As := [.int rq15, .int xq84]) (rest := []) ⟨hx, hb, hml, hown, hts⟩ (k_X5_rest l rq15 xq84) (va_cwS 2 hts gX5_register_X5_rest rfl rfl rfl (by decide +kernel) ⟨Nat.le_of_ble_eq_true rfl, Nat.le_of_ble_eq_true rfl⟩) (pPreS) rfl rfl hl.1 rfl (lv_room (Nat.le_of_ble_eq_true rfl)) dX5_register_87 ⟨Nat.le_of_ble_eq_true rfl, Nat.le_of_ble_eq_true rfl⟩) hP hS (fun rq87 H locs hp87 hP hS => ?_)
      exact W.iret (v := rq87) hx hb hr (fun t ht hW => ⟨⟨rq87, (), rfl, trivial, trivial⟩, hS.F ht⟩) hS.2.2 dX5_register_90
    · skip
      refine lv_tableIn (off := 71) (tgt := 91) hx hb dX5_register_20 (by omega) (by omega) (by rw [tq20]; rfl) (by decide) ?_
      refine lv_aload_n hx hb dX5_register_91 rfl (lv_at hl 1 rfl) ?_
      refine va_get (D := K.1) (ci := 5) (v := .ref qq11) (C := RX5) (T := TX5) (N := 5) hx hb hts hinX5 hown hK hP kq11 hk11 rfl 0 (by decide) (hts (.fieldLink RX5 10 "CodedWords" "code" "LCodedWords$Code;") (by decide +kernel)) (fun _ h9 => h9) rfl dX5_register_92 ?_
      refine lv_iload_n hx hb dX5_register_95 rfl (lv_at hl 0 rfl) ?_
      refine r_i (va_runV (As := [.int rq15]) (rest := []) ⟨hx, hb, hml, hown, hts⟩ (k_X2_fits l hT g_q11 rq15) (cwV 1 hts gX5_register_X2_fits rfl rfl rfl (by decide +kernel) ⟨Nat.le_of_ble_eq_true rfl, Nat.le_of_ble_eq_true rfl⟩) (rPreV (hT.rcv3 g_q11 hK hP) hP hK hD hN) rfl rfl hl.1 rfl (lv_room (Nat.le_of_ble_eq_true rfl)) dX5_register_96 ⟨Nat.le_of_ble_eq_true rfl, Nat.le_of_ble_eq_true rfl⟩) hP hS (fun rq96 H locs hp96 hP hS => ?_)
      refine lv_if_eq (tgt := 113) hx hb dX5_register_99 (by decide) (fun cq99 => ?_) (fun cq99 => ?_)
      · skip
        refine lv_ldc (v := (-1000000)) hx hb hown (hts (.constant RX5 134 (-1000000)) (by decide +kernel)) dX5_register_113 ?_
        exact W.iret (v := (-1000000)) hx hb hr (fun t ht hW => ⟨⟨(-1000000), (), rfl, trivial, trivial⟩, hS.F ht⟩) hS.2.2 dX5_register_115
      · skip
        refine lv_aload_n hx hb dX5_register_102 rfl (lv_at hl 1 rfl) ?_
        refine va_get (D := K.1) (ci := 5) (v := .ref qq11) (C := RX5) (T := TX5) (N := 5) hx hb hts hinX5 hown hK hP kq11 hk11 rfl 0 (by decide) (hts (.fieldLink RX5 10 "CodedWords" "code" "LCodedWords$Code;") (by decide +kernel)) (fun _ h9 => h9) rfl dX5_register_103 ?_
        refine lv_iload_n hx hb dX5_register_106 rfl (lv_at hl 0 rfl) ?_
        refine r_i (va_runV (As := [.int rq15]) (rest := []) ⟨hx, hb, hml, hown, hts⟩ (k_X2_valueOf l hT g_q11 rq15) (cwV 1 hts gX5_register_X2_valueOf rfl rfl rfl (by decide +kernel) ⟨Nat.le_of_ble_eq_true rfl, Nat.le_of_ble_eq_true rfl⟩) (rPreV (hT.rcv3 g_q11 hK hP) hP hK hD hN) rfl rfl hl.1 rfl (lv_room (Nat.le_of_ble_eq_true rfl)) dX5_register_107 ⟨Nat.le_of_ble_eq_true rfl, Nat.le_of_ble_eq_true rfl⟩) hP hS (fun rq107 H locs hp107 hP hS => ?_)
        refine lv_goto (tgt := 115) hx hb dX5_register_110 (by decide) ?_
        exact W.iret (v := rq107) hx hb hr (fun t ht hW => ⟨⟨rq107, (), rfl, trivial, trivial⟩, hS.F ht⟩) hS.2.2 dX5_register_115
    · skip
      refine lv_tableIn (off := 96) (tgt := 116) hx hb dX5_register_20 (by omega) (by omega) (by rw [tq20]; rfl) (by decide) ?_
      refine lv_aload_n hx hb dX5_register_116 rfl (lv_at hl 1 rfl) ?_
      refine va_get (D := K.1) (ci := 5) (v := .ref qq11) (C := RX5) (T := TX5) (N := 5) hx hb hts hinX5 hown hK hP kq11 hk11 rfl 0 (by decide) (hts (.fieldLink RX5 10 "CodedWords" "code" "LCodedWords$Code;") (by decide +kernel)) (fun _ h9 => h9) rfl dX5_register_117 ?_
      refine lv_iload_n hx hb dX5_register_120 rfl (lv_at hl 0 rfl) ?_
      refine lv_aload_n hx hb dX5_register_121 rfl (lv_at hl 1 rfl) ?_
      refine va_get (D := K.1) (ci := 5) (v := .ref qq11) (C := RX5) (T := TX5) (N := 5) hx hb hts hinX5 hown hK hP kq11 hk11 rfl 0 (by decide) (hts (.fieldLink RX5 10 "CodedWords" "code" "LCodedWords$Code;") (by decide +kernel)) (fun _ h9 => h9) rfl dX5_register_122 ?_
      refine lv_iload_n hx hb dX5_register_125 rfl (lv_at hl 2 rfl) ?_
      refine r_i (va_runV (As := [.int pq1]) (rest := [.int rq15, .ref qq11]) ⟨hx, hb, hml, hown, hts⟩ (k_X2_residueOf l hT g_q11 pq1) (cwV 1 hts gX5_register_X2_residueOf rfl rfl rfl (by decide +kernel) ⟨Nat.le_of_ble_eq_true rfl, Nat.le_of_ble_eq_true rfl⟩) (rPreV (hT.rcv3 g_q11 hK hP) hP hK hD hN) rfl rfl hl.1 rfl (lv_room (Nat.le_of_ble_eq_true rfl)) dX5_register_126 ⟨Nat.le_of_ble_eq_true rfl, Nat.le_of_ble_eq_true rfl⟩) hP hS (fun rq126 H locs hp126 hP hS => ?_)
      refine r_i (va_runV (As := [.int rq15, .int rq126]) (rest := []) ⟨hx, hb, hml, hown, hts⟩ (k_X2_isRight l hT g_q11 rq15 rq126) (cwV 2 hts gX5_register_X2_isRight rfl rfl rfl (by decide +kernel) ⟨Nat.le_of_ble_eq_true rfl, Nat.le_of_ble_eq_true rfl⟩) (rPreV (hT.rcv3 g_q11 hK hP) hP hK hD hN) rfl rfl hl.1 rfl (lv_room (Nat.le_of_ble_eq_true rfl)) dX5_register_129 ⟨Nat.le_of_ble_eq_true rfl, Nat.le_of_ble_eq_true rfl⟩) hP hS (fun rq129 H locs hp129 hP hS => ?_)
      refine lv_if_eq (tgt := 139) hx hb dX5_register_132 (by decide) (fun cq132 => ?_) (fun cq132 => ?_)
      · skip
        refine lv_iconst (v := 0) hx hb dX5_register_139 (by decide) ?_
        exact W.iret (v := 0) hx hb hr (fun t ht hW => ⟨⟨0, (), rfl, trivial, trivial⟩, hS.F ht⟩) hS.2.2 dX5_register_140
      · skip
        refine lv_iconst (v := 1) hx hb dX5_register_135 (by decide) ?_
        refine lv_goto (tgt := 140) hx hb dX5_register_136 (by decide) ?_
        exact W.iret (v := 1) hx hb hr (fun t ht hW => ⟨⟨1, (), rfl, trivial, trivial⟩, hS.F ht⟩) hS.2.2 dX5_register_140
    · skip
      refine lv_tableIn (off := 121) (tgt := 141) hx hb dX5_register_20 (by omega) (by omega) (by rw [tq20]; rfl) (by decide) ?_
      refine lv_aload_n hx hb dX5_register_141 rfl (lv_at hl 1 rfl) ?_
      refine va_get (D := K.1) (ci := 5) (v := .ref qq11) (C := RX5) (T := TX5) (N := 5) hx hb hts hinX5 hown hK hP kq11 hk11 rfl 0 (by decide) (hts (.fieldLink RX5 10 "CodedWords" "code" "LCodedWords$Code;") (by decide +kernel)) (fun _ h9 => h9) rfl dX5_register_142 ?_
      refine lv_iload_n hx hb dX5_register_145 rfl (lv_at hl 2 rfl) ?_
      refine r_i (va_runV (As := [.int pq1]) (rest := []) ⟨hx, hb, hml, hown, hts⟩ (k_X2_verdictOf l hT g_q11 pq1) (cwV 1 hts gX5_register_X2_verdictOf rfl rfl rfl (by decide +kernel) ⟨Nat.le_of_ble_eq_true rfl, Nat.le_of_ble_eq_true rfl⟩) (rPreV (hT.rcv3 g_q11 hK hP) hP hK hD hN) rfl rfl hl.1 rfl (lv_room (Nat.le_of_ble_eq_true rfl)) dX5_register_146 ⟨Nat.le_of_ble_eq_true rfl, Nat.le_of_ble_eq_true rfl⟩) hP hS (fun rq146 H locs hp146 hP hS => ?_)
      exact W.iret (v := rq146) hx hb hr (fun t ht hW => ⟨⟨rq146, (), rfl, trivial, trivial⟩, hS.F ht⟩) hS.2.2 dX5_register_149
    · skip
      refine lv_tableIn (off := 130) (tgt := 150) hx hb dX5_register_20 (by omega) (by omega) (by rw [tq20]; rfl) (by decide) ?_
      refine lv_aload_n hx hb dX5_register_150 rfl (lv_at hl 1 rfl) ?_
      refine va_get (D := K.1) (ci := 5) (v := .ref qq11) (C := RX5) (T := TX5) (N := 5) hx hb hts hinX5 hown hK hP kq11 hk11 rfl 0 (by decide) (hts (.fieldLink RX5 10 "CodedWords" "code" "LCodedWords$Code;") (by decide +kernel)) (fun _ h9 => h9) rfl dX5_register_151 ?_
      refine lv_iload_n hx hb dX5_register_154 rfl (lv_at hl 2 rfl) ?_
      refine r_i (va_runV (As := [.int pq1]) (rest := []) ⟨hx, hb, hml, hown, hts⟩ (k_X2_onlyCauseOf l hT g_q11 pq1) (cwV 1 hts gX5_register_X2_onlyCauseOf rfl rfl rfl (by decide +kernel) ⟨Nat.le_of_ble_eq_true rfl, Nat.le_of_ble_eq_true rfl⟩) (rPreV (hT.rcv3 g_q11 hK hP) hP hK hD hN) rfl rfl hl.1 rfl (lv_room (Nat.le_of_ble_eq_true rfl)) dX5_register_155 ⟨Nat.le_of_ble_eq_true rfl, Nat.le_of_ble_eq_true rfl⟩) hP hS (fun rq155 H locs hp155 hP hS => ?_)
      exact W.iret (v := rq155) hx hb hr (fun t ht hW => ⟨⟨rq155, (), rfl, trivial, trivial⟩, hS.F ht⟩) hS.2.2 dX5_register_158
    · skip
      refine lv_tableIn (off := 139) (tgt := 159) hx hb dX5_register_20 (by omega) (by omega) (by rw [tq20]; rfl) (by decide) ?_
      refine lv_aload_n hx hb dX5_register_159 rfl (lv_at hl 1 rfl) ?_
      refine va_get (D := K.1) (ci := 5) (v := .ref qq11) (C := RX5) (T := TX5) (N := 5) hx hb hts hinX5 hown hK hP kq11 hk11 rfl 0 (by decide) (hts (.fieldLink RX5 10 "CodedWords" "code" "LCodedWords$Code;") (by decide +kernel)) (fun _ h9 => h9) rfl dX5_register_160 ?_
      refine lv_iload_n hx hb dX5_register_163 rfl (lv_at hl 2 rfl) ?_
      refine r_i (va_runV (As := [.int pq1]) (rest := []) ⟨hx, hb, hml, hown, hts⟩ (k_X2_causesOf l hT g_q11 pq1) (cwV 1 hts gX5_register_X2_causesOf rfl rfl rfl (by decide +kernel) ⟨Nat.le_of_ble_eq_true rfl, Nat.le_of_ble_eq_true rfl⟩) (rPreV (hT.rcv3 g_q11 hK hP) hP hK hD hN) rfl rfl hl.1 rfl (lv_room (Nat.le_of_ble_eq_true rfl)) dX5_register_164 ⟨Nat.le_of_ble_eq_true rfl, Nat.le_of_ble_eq_true rfl⟩) hP hS (fun rq164 H locs hp164 hP hS => ?_)
      exact W.iret (v := rq164) hx hb hr (fun t ht hW => ⟨⟨rq164, (), rfl, trivial, trivial⟩, hS.F ht⟩) hS.2.2 dX5_register_167
  · skip
    refine lv_ldc (v := (-1000001)) hx hb hown (hts (.constant RX5 51 (-1000001)) (by decide +kernel)) dX5_register_7 ?_
    exact W.iret (v := (-1000001)) hx hb hr (fun t ht hW => ⟨⟨(-1000001), (), rfl, trivial, trivial⟩, hS.F ht⟩) hS.2.2 dX5_register_9
abbrev rmX5_weight : Room := { frames := 2, cells := 0, slots := 0, locals := 40 }
set_option maxHeartbeats 4000000 in
set_option maxRecDepth 100000 in
theorem k_X5_weight (l : Launch) {K : Cx} {G0 : Nat → Nat} {w0 : va_W} (hT : TH K G0 w0) {h0 : Nat} (g_h0 : G0 h0 = 6) (pq1 : Int32)  : Ri l K yX5_weight wsX5_weight rmX5_weight [.ref h0, .int pq1] w0 (fun r : Int32 => r.toInt = wAns pq1) := by
  refine Met.ofW (cc := cX5_weight) (maxL := 2) (ret := (some .int)) (by decide) rfl ?_
  intro p e s m args below meth c s₁ B hml hv
  obtain ⟨rfl, hP, hK, hD, hN⟩ := hv
  have hx := B.exec
  have hb := B.bytes
  have hr := B.returns
  have hts := atoms_spec (ws := wsX5_weight) B.pre
  have hown : s.vm.findClass RX5 = some m.cls := findClass_of_methodNamed B.named
  have hlocks := B.notSynchronized
  have hS : va_S (fun _ => False) s.heap s.heap [] := va_S.rf
  have hl := lv_entry ([.ref h0, .int pq1]) (n := 2) (Nat.le_of_ble_eq_true rfl)
  rw [lg_entry_eq]
  generalize (lg_sl ([.ref h0, .int pq1]) ++ List.replicate (2 - (lg_sl ([.ref h0, .int pq1])).length) Slot.unset).toArray = ls at hl ⊢
  have hl : lv_has ls 2 [(0, .ref h0), (1, .int pq1)] := hl
  refine lv_iload_n hx hb dX5_weight_0 rfl (lv_at hl 1 rfl) ?_
  refine lv_ldc (v := (-99999)) hx hb hown (hts (.constant RX5 142 (-99999)) (by decide +kernel)) dX5_weight_1 ?_
  refine lv_icmp_lt (tgt := 12) hx hb dX5_weight_3 (by decide) (fun cq3 => ?_) (fun cq3 => ?_)
  · skip
    refine lv_ldc (v := (-1000001)) hx hb hown (hts (.constant RX5 51 (-1000001)) (by decide +kernel)) dX5_weight_12 ?_
    refine lv_goto (tgt := 24) hx hb dX5_weight_14 (by decide) ?_
    exact W.iret (v := (-1000001)) hx hb hr (fun t ht hW => ⟨⟨(-1000001), (), rfl, by first | exact wq_ans (by rw [iq_lt] at cq3; exact Int.not_lt.mp cq3) (by rw [iq_le] at cq9; exact cq9) eq18 hp21 | exact wAns_out (fun h => by rw [iq_lt] at cq3; exact absurd cq3 (Int.not_lt.mpr h.1)) | exact wAns_out (fun h => by rw [iq_le] at cq9; exact absurd h.2 cq9), trivial⟩, hS.F ht⟩) hS.2.2 dX5_weight_24
  · skip
    refine lv_iload_n hx hb dX5_weight_6 rfl (lv_at hl 1 rfl) ?_
    refine lv_ldc (v := 99999) hx hb hown (hts (.constant RX5 143 99999) (by decide +kernel)) dX5_weight_7 ?_
    refine lv_icmp_le (tgt := 17) hx hb dX5_weight_9 (by decide) (fun cq9 => ?_) (fun cq9 => ?_)
    · skip
      refine lv_iload_n hx hb dX5_weight_17 rfl (lv_at hl 1 rfl) ?_
      refine va_mabs hx hb (hml.trans hl.1.symm) hown (hts (.methodLink RX5 144 Lib.Math.abs.name) (by decide +kernel)) (hts (.static Lib.Math.abs.name) (by decide +kernel)) (hts (.initialized "java/lang/Math") (by decide +kernel)) (hts (.code Lib.Math.abs.name Lib.Math.abs.code 1 (some .int)) (by decide +kernel)) (Nat.le_of_ble_eq_true rfl) (Nat.le_of_ble_eq_true rfl) (Nat.le_of_ble_eq_true rfl) (Nat.le_of_ble_eq_true rfl) dX5_weight_18 ?_
      refine lv_topi (fun vq18 eq18 => ?_)
      refine r_i (va_runS (As := [.int vq18]) (rest := []) ⟨hx, hb, hml, hown, hts⟩ (k_X5_digitsNotZero l vq18) (va_cwS 1 hts gX5_weight_X5_digitsNotZero rfl rfl rfl (by decide +kernel) ⟨Nat.le_of_ble_eq_true rfl, Nat.le_of_ble_eq_true rfl⟩) (pPreS) rfl rfl hl.1 rfl (lv_room (Nat.le_of_ble_eq_true rfl)) dX5_weight_21 ⟨Nat.le_of_ble_eq_true rfl, Nat.le_of_ble_eq_true rfl⟩) hP hS (fun rq21 H locs hp21 hP hS => ?_)
      exact W.iret (v := rq21) hx hb hr (fun t ht hW => ⟨⟨rq21, (), rfl, by first | exact wq_ans (by rw [iq_lt] at cq3; exact Int.not_lt.mp cq3) (by rw [iq_le] at cq9; exact cq9) eq18 hp21 | exact wAns_out (fun h => by rw [iq_lt] at cq3; exact absurd cq3 (Int.not_lt.mpr h.1)) | exact wAns_out (fun h => by rw [iq_le] at cq9; exact absurd h.2 cq9), trivial⟩, hS.F ht⟩) hS.2.2 dX5_weight_24
    · skip
      refine lv_ldc (v := (-1000001)) hx hb hown (hts (.constant RX5 51 (-1000001)) (by decide +kernel)) dX5_weight_12 ?_
      refine lv_goto (tgt := 24) hx hb dX5_weight_14 (by decide) ?_
      exact W.iret (v := (-1000001)) hx hb hr (fun t ht hW => ⟨⟨(-1000001), (), rfl, by first | exact wq_ans (by rw [iq_lt] at cq3; exact Int.not_lt.mp cq3) (by rw [iq_le] at cq9; exact cq9) eq18 hp21 | exact wAns_out (fun h => by rw [iq_lt] at cq3; exact absurd cq3 (Int.not_lt.mpr h.1)) | exact wAns_out (fun h => by rw [iq_le] at cq9; exact absurd h.2 cq9), trivial⟩, hS.F ht⟩) hS.2.2 dX5_weight_24
abbrev rmX5_distance : Room := { frames := 3, cells := 0, slots := 0, locals := 66 }
set_option maxHeartbeats 4000000 in
set_option maxRecDepth 100000 in
theorem k_X5_distance (l : Launch) {K : Cx} {G0 : Nat → Nat} {w0 : va_W} (hT : TH K G0 w0) {h0 : Nat} (g_h0 : G0 h0 = 6) (pq1 : Int32) (pq2 : Int32)  : Ri l K yX5_distance wsX5_distance rmX5_distance [.ref h0, .int pq1, .int pq2] w0 (fun r : Int32 => dA pq1 pq2 r) := by
  refine Met.ofW (cc := cX5_distance) (maxL := 3) (ret := (some .int)) (by decide) rfl ?_
  intro p e s m args below meth c s₁ B hml hv
  obtain ⟨rfl, hP, hK, hD, hN⟩ := hv
  have hx := B.exec
  have hb := B.bytes
  have hr := B.returns
  have hts := atoms_spec (ws := wsX5_distance) B.pre
  have hown : s.vm.findClass RX5 = some m.cls := findClass_of_methodNamed B.named
  have hlocks := B.notSynchronized
  have hS : va_S (fun _ => False) s.heap s.heap [] := va_S.rf
  have hl := lv_entry ([.ref h0, .int pq1, .int pq2]) (n := 3) (Nat.le_of_ble_eq_true rfl)
  rw [lg_entry_eq]
  generalize (lg_sl ([.ref h0, .int pq1, .int pq2]) ++ List.replicate (3 - (lg_sl ([.ref h0, .int pq1, .int pq2])).length) Slot.unset).toArray = ls at hl ⊢
  have hl : lv_has ls 3 [(0, .ref h0), (1, .int pq1), (2, .int pq2)] := hl
  refine lv_iload_n hx hb dX5_distance_0 rfl (lv_at hl 1 rfl) ?_
  refine r_i (va_runS (As := [.int pq1]) (rest := []) ⟨hx, hb, hml, hown, hts⟩ (k_X5_isConstant l pq1) (va_cwS 1 hts gX5_distance_X5_isConstant rfl rfl rfl (by decide +kernel) ⟨Nat.le_of_ble_eq_true rfl, Nat.le_of_ble_eq_true rfl⟩) (pPreS) rfl rfl hl.1 rfl (lv_room (Nat.le_of_ble_eq_true rfl)) dX5_distance_1 ⟨Nat.le_of_ble_eq_true rfl, Nat.le_of_ble_eq_true rfl⟩) hP hS (fun rq1 H locs hp1 hP hS => ?_)
  refine lv_if_eq (tgt := 23) hx hb dX5_distance_4 (by decide) (fun cq4 => ?_) (fun cq4 => ?_)
  · skip
    refine lv_ldc (v := (-1000001)) hx hb hown (hts (.constant RX5 51 (-1000001)) (by decide +kernel)) dX5_distance_23 ?_
    exact W.iret (v := (-1000001)) hx hb hr (fun t ht hW => ⟨⟨(-1000001), (), rfl, by first | exact Or.inr ⟨(hp1.1.resolve_left cq4).2, (hp8.1.resolve_left cq11).2, lmA_d (by have h9 := (hp1.1.resolve_left cq4).2.1; omega) (by have h9 := (hp1.1.resolve_left cq4).2.2.2; have h8 := (hp1.1.resolve_left cq4).2.1; omega) hp17⟩ | exact Or.inl ⟨fun h => hp8.2 cq11 h.2, rfl⟩ | exact Or.inl ⟨fun h => hp1.2 cq4 h.1, rfl⟩, trivial⟩, hS.F ht⟩) hS.2.2 dX5_distance_25
  · skip
    refine lv_iload_n hx hb dX5_distance_7 rfl (lv_at hl 2 rfl) ?_
    refine r_i (va_runS (As := [.int pq2]) (rest := []) ⟨hx, hb, hml, hown, hts⟩ (k_X5_isWidth l pq2) (va_cwS 1 hts gX5_distance_X5_isWidth rfl rfl rfl (by decide +kernel) ⟨Nat.le_of_ble_eq_true rfl, Nat.le_of_ble_eq_true rfl⟩) (pPreS) rfl rfl hl.1 rfl (lv_room (Nat.le_of_ble_eq_true rfl)) dX5_distance_8 ⟨Nat.le_of_ble_eq_true rfl, Nat.le_of_ble_eq_true rfl⟩) hP hS (fun rq8 H locs hp8 hP hS => ?_)
    refine lv_if_eq (tgt := 23) hx hb dX5_distance_11 (by decide) (fun cq11 => ?_) (fun cq11 => ?_)
    · skip
      refine lv_ldc (v := (-1000001)) hx hb hown (hts (.constant RX5 51 (-1000001)) (by decide +kernel)) dX5_distance_23 ?_
      exact W.iret (v := (-1000001)) hx hb hr (fun t ht hW => ⟨⟨(-1000001), (), rfl, by first | exact Or.inr ⟨(hp1.1.resolve_left cq4).2, (hp8.1.resolve_left cq11).2, lmA_d (by have h9 := (hp1.1.resolve_left cq4).2.1; omega) (by have h9 := (hp1.1.resolve_left cq4).2.2.2; have h8 := (hp1.1.resolve_left cq4).2.1; omega) hp17⟩ | exact Or.inl ⟨fun h => hp8.2 cq11 h.2, rfl⟩ | exact Or.inl ⟨fun h => hp1.2 cq4 h.1, rfl⟩, trivial⟩, hS.F ht⟩) hS.2.2 dX5_distance_25
    · skip
      refine lv_iload_n hx hb dX5_distance_14 rfl (lv_at hl 1 rfl) ?_
      refine lv_iload_n hx hb dX5_distance_15 rfl (lv_at hl 2 rfl) ?_
      refine lv_iconst (v := 2) hx hb dX5_distance_16 (by decide) ?_
      refine r_i (va_runS (As := [.int pq1, .int pq2, .int 2]) (rest := []) ⟨hx, hb, hml, hown, hts⟩ (k_X5_lightestMultiple l pq1 pq2 2 ((hp1.1.resolve_left cq4).2.1) ((hp1.1.resolve_left cq4).2.2.1) ((hp8.1.resolve_left cq11).2.1) ((hp8.1.resolve_left cq11).2.2) (by decide)) (va_cwS 3 hts gX5_distance_X5_lightestMultiple rfl rfl rfl (by decide +kernel) ⟨Nat.le_of_ble_eq_true rfl, Nat.le_of_ble_eq_true rfl⟩) (pPreS) rfl rfl hl.1 rfl (lv_room (Nat.le_of_ble_eq_true rfl)) dX5_distance_17 ⟨Nat.le_of_ble_eq_true rfl, Nat.le_of_ble_eq_true rfl⟩) hP hS (fun rq17 H locs hp17 hP hS => ?_)
      refine lv_goto (tgt := 25) hx hb dX5_distance_20 (by decide) ?_
      exact W.iret (v := rq17) hx hb hr (fun t ht hW => ⟨⟨rq17, (), rfl, by first | exact Or.inr ⟨(hp1.1.resolve_left cq4).2, (hp8.1.resolve_left cq11).2, lmA_d (by have h9 := (hp1.1.resolve_left cq4).2.1; omega) (by have h9 := (hp1.1.resolve_left cq4).2.2.2; have h8 := (hp1.1.resolve_left cq4).2.1; omega) hp17⟩ | exact Or.inl ⟨fun h => hp8.2 cq11 h.2, rfl⟩ | exact Or.inl ⟨fun h => hp1.2 cq4 h.1, rfl⟩, trivial⟩, hS.F ht⟩) hS.2.2 dX5_distance_25
abbrev rmX5_least : Room := { frames := 3, cells := 0, slots := 0, locals := 66 }
set_option maxHeartbeats 4000000 in
set_option maxRecDepth 100000 in
theorem k_X5_least (l : Launch) {K : Cx} {G0 : Nat → Nat} {w0 : va_W} (hT : TH K G0 w0) {h0 : Nat} (g_h0 : G0 h0 = 6) (pq1 : Int32) (pq2 : Int32)  : Ri l K yX5_least wsX5_least rmX5_least [.ref h0, .int pq1, .int pq2] w0 (fun r : Int32 => lA pq1 pq2 r) := by
  refine Met.ofW (cc := cX5_least) (maxL := 5) (ret := (some .int)) (by decide) rfl ?_
  intro p e s m args below meth c s₁ B hml hv
  obtain ⟨rfl, hP, hK, hD, hN⟩ := hv
  have hx := B.exec
  have hb := B.bytes
  have hr := B.returns
  have hts := atoms_spec (ws := wsX5_least) B.pre
  have hown : s.vm.findClass RX5 = some m.cls := findClass_of_methodNamed B.named
  have hlocks := B.notSynchronized
  have hS : va_S (fun _ => False) s.heap s.heap [] := va_S.rf
  have hl := lv_entry ([.ref h0, .int pq1, .int pq2]) (n := 5) (Nat.le_of_ble_eq_true rfl)
  rw [lg_entry_eq]
  generalize (lg_sl ([.ref h0, .int pq1, .int pq2]) ++ List.replicate (5 - (lg_sl ([.ref h0, .int pq1, .int pq2])).length) Slot.unset).toArray = ls at hl ⊢
  have hl : lv_has ls 5 [(0, .ref h0), (1, .int pq1), (2, .int pq2)] := hl
  have hJ31 : ∀ (n31 : Nat) (H : Heap) (locs : List Loc) (zq3 : Int32) (zq4 : Int32), (va_P K.1 vwCl w0 H) → (va_S (fun _ => False) s.heap H locs) → (3 ≤ zq4.toInt) → (4 ≤ pq2.toInt ∧ pq2.toInt ≤ 16) → (0 ≤ zq3.toInt) → (isDd pq1) → (zq3.toInt + 1 ≤ pq1.toInt ∨ zq3.toInt ≤ 2) → (zq4.toInt % 2 = 1) → (lsN (2 ^ pq2.toInt.toNat) pq1.toInt.toNat zq4.toInt.toNat) → ((2147483647 - zq4.toInt).toNat < n31) → ∀ (ls : Array Slot), lv_has ls 5 [(1, .int pq1), (2, .int pq2), (3, .int zq3), (4, .int zq4)] → W p l e rmX5_least s m [.ref h0, .int pq1, .int pq2].toArray below meth c H locs 0 0 (MQ below (va_Qi (fun (r : Int32) (_ : Unit) => (fun r : Int32 => lA pq1 pq2 r) r) (fun _ _ => True) (fun _ => False)) [.ref h0, .int pq1, .int pq2].toArray s 0 0 (fun _ => False)) (F0 m 31 ls []) := by
    intro n31
    induction n31 with
    | zero =>
      intro H locs zq3 zq4 hP hS i31_0 i31_1 i31_2 i31_3 i31_4 i31_5 i31_6 hm31 ls hl
      exact absurd hm31 (Nat.not_lt_zero _)
    | succ n31 ih31 =>
      intro H locs zq3 zq4 hP hS i31_0 i31_1 i31_2 i31_3 i31_4 i31_5 i31_6 hm31 ls hl
      refine lv_iload hx hb dX5_least_31 (lv_at hl 3 rfl) ?_
      refine lv_sipush (v := 199) hx hb dX5_least_33 (by decide) ?_
      refine lv_icmp_gt (tgt := 59) hx hb dX5_least_36 (by decide) (fun cq36 => ?_) (fun cq36 => ?_)
      · skip
        refine lv_ldc (v := (-1000000)) hx hb hown (hts (.constant RX5 134 (-1000000)) (by decide +kernel)) dX5_least_59 ?_
        exact W.iret (v := (-1000000)) hx hb hr (fun t ht hW => ⟨⟨(-1000000), (), rfl, Or.inr ⟨i31_3, i31_1, ls_none i31_6 (by rw [iq_lt] at cq36; have h9 : (199 : Int) < zq4.toInt := cq36; omega)⟩, trivial⟩, hS.F ht⟩) hS.2.2 dX5_least_61
      · skip
        refine lv_iload hx hb dX5_least_39 (lv_at hl 3 rfl) ?_
        refine lv_iload_n hx hb dX5_least_41 rfl (lv_at hl 1 rfl) ?_
        refine lv_iload_n hx hb dX5_least_42 rfl (lv_at hl 2 rfl) ?_
        refine r_i (va_runS (As := [.int zq4, .int pq2, .int zq3]) (rest := []) ⟨hx, hb, hml, hown, hts⟩ (k_X5_lightestMultiple l zq4 pq2 zq3 (i31_0) (by rw [iq_lt] at cq36; exact Int.not_lt.mp cq36) (i31_1.1) (i31_1.2) (i31_2)) (va_cwS 3 hts gX5_least_X5_lightestMultiple rfl rfl rfl (by decide +kernel) ⟨Nat.le_of_ble_eq_true rfl, Nat.le_of_ble_eq_true rfl⟩) (pPreS) rfl rfl hl.1 rfl (lv_room (Nat.le_of_ble_eq_true rfl)) dX5_least_43 ⟨Nat.le_of_ble_eq_true rfl, Nat.le_of_ble_eq_true rfl⟩) hP hS (fun rq43 H locs hp43 hP hS => ?_)
        have hd0 := i31_3.1
        have hiff := lm_has (d := pq1.toInt.toNat) (by omega) (by omega) (by omega) (by have h9 := i31_4; omega) hp43
        refine lv_iload_n hx hb dX5_least_46 rfl (lv_at hl 0 rfl) ?_
        refine lv_icmp_lt (tgt := 53) hx hb dX5_least_47 (by decide) (fun cq47 => ?_) (fun cq47 => ?_)
        · skip
          have hno : ¬ hasD (2 ^ pq2.toInt.toNat) pq1.toInt.toNat zq4.toInt.toNat := fun q => by have h9 := hiff.mpr q; rw [iq_lt] at cq47; omega
          obtain ⟨vq53, eq53⟩ : ∃ y : Int32, y = zq4 + 2 := ⟨_, rfl⟩
          refine lv_iinc (v := vq53) (lv' := [(4, .int vq53), (1, .int pq1), (2, .int pq2), (3, .int zq3)]) hx hb dX5_least_53 hl (k := 3) rfl (by rw [eq53]; rfl) (by decide) rfl (fun ls hl => ?_)
          refine lv_goto (tgt := 31) hx hb dX5_least_56 (by decide) ?_
          exact ih31 _ _ zq3 vq53 hP hS (by first | (have h := iq_add2 eq53 (by rw [iq_lt] at cq36; have h9 : ¬ (199 : Int) < zq4.toInt := cq36; omega); omega) | decide) (by first | exact i31_1 | exact (hp11.1.resolve_left cq14).2) (by first | exact i31_2 | exact iq_max2 eq24) (by first | exact i31_3 | exact ⟨(by rw [iq_lt] at cq2; exact Int.not_lt.mp cq2), (by rw [iq_lt] at cq7; exact Int.not_lt.mp cq7)⟩) (by first | exact i31_4 | exact iq_tl ⟨(by rw [iq_lt] at cq2; exact Int.not_lt.mp cq2), (by rw [iq_lt] at cq7; exact Int.not_lt.mp cq7)⟩ eq23 eq24) (by first | (have h := iq_add2 eq53 (by rw [iq_lt] at cq36; have h9 : ¬ (199 : Int) < zq4.toInt := cq36; omega); omega) | decide) (by first | exact lsN_0 | exact lsN_next i31_6 i31_0 i31_5 hno (iq_add2 eq53 (by rw [iq_lt] at cq36; have h9 : ¬ (199 : Int) < zq4.toInt := cq36; omega))) (iq_upl2 hm31 cq36 (by decide) eq53) _ (lv_sub hl [1, 2, 3, 0] rfl)
        · skip
          refine lv_iload hx hb dX5_least_50 (lv_at hl 3 rfl) ?_
          exact W.iret (v := zq4) hx hb hr (fun t ht hW => ⟨⟨zq4, (), rfl, Or.inr ⟨i31_3, i31_1, ls_some i31_6 i31_0 (by rw [iq_lt] at cq36; exact Int.not_lt.mp cq36) i31_5 (hiff.mp (by rw [iq_lt] at cq47; omega))⟩, trivial⟩, hS.F ht⟩) hS.2.2 dX5_least_52
  refine lv_iload_n hx hb dX5_least_0 rfl (lv_at hl 1 rfl) ?_
  refine lv_iconst (v := 1) hx hb dX5_least_1 (by decide) ?_
  refine lv_icmp_lt (tgt := 17) hx hb dX5_least_2 (by decide) (fun cq2 => ?_) (fun cq2 => ?_)
  · skip
    refine lv_ldc (v := (-1000001)) hx hb hown (hts (.constant RX5 51 (-1000001)) (by decide +kernel)) dX5_least_17 ?_
    exact W.iret (v := (-1000001)) hx hb hr (fun t ht hW => ⟨⟨(-1000001), (), rfl, by first | exact Or.inl ⟨fun h => hp11.2 cq14 h.2, rfl⟩ | exact Or.inl ⟨fun h => by rw [iq_lt] at cq7; exact absurd cq7 (Int.not_lt.mpr h.1.2), rfl⟩ | exact Or.inl ⟨fun h => by rw [iq_lt] at cq2; exact absurd cq2 (Int.not_lt.mpr h.1.1), rfl⟩, trivial⟩, hS.F ht⟩) hS.2.2 dX5_least_19
  · skip
    refine lv_iload_n hx hb dX5_least_5 rfl (lv_at hl 1 rfl) ?_
    refine lv_iconst (v := 5) hx hb dX5_least_6 (by decide) ?_
    refine lv_icmp_gt (tgt := 17) hx hb dX5_least_7 (by decide) (fun cq7 => ?_) (fun cq7 => ?_)
    · skip
      refine lv_ldc (v := (-1000001)) hx hb hown (hts (.constant RX5 51 (-1000001)) (by decide +kernel)) dX5_least_17 ?_
      exact W.iret (v := (-1000001)) hx hb hr (fun t ht hW => ⟨⟨(-1000001), (), rfl, by first | exact Or.inl ⟨fun h => hp11.2 cq14 h.2, rfl⟩ | exact Or.inl ⟨fun h => by rw [iq_lt] at cq7; exact absurd cq7 (Int.not_lt.mpr h.1.2), rfl⟩ | exact Or.inl ⟨fun h => by rw [iq_lt] at cq2; exact absurd cq2 (Int.not_lt.mpr h.1.1), rfl⟩, trivial⟩, hS.F ht⟩) hS.2.2 dX5_least_19
    · skip
      refine lv_iload_n hx hb dX5_least_10 rfl (lv_at hl 2 rfl) ?_
      refine r_i (va_runS (As := [.int pq2]) (rest := []) ⟨hx, hb, hml, hown, hts⟩ (k_X5_isWidth l pq2) (va_cwS 1 hts gX5_least_X5_isWidth rfl rfl rfl (by decide +kernel) ⟨Nat.le_of_ble_eq_true rfl, Nat.le_of_ble_eq_true rfl⟩) (pPreS) rfl rfl hl.1 rfl (lv_room (Nat.le_of_ble_eq_true rfl)) dX5_least_11 ⟨Nat.le_of_ble_eq_true rfl, Nat.le_of_ble_eq_true rfl⟩) hP hS (fun rq11 H locs hp11 hP hS => ?_)
      refine lv_if_ne (tgt := 20) hx hb dX5_least_14 (by decide) (fun cq14 => ?_) (fun cq14 => ?_)
      · skip
        refine lv_iconst (v := 2) hx hb dX5_least_20 (by decide) ?_
        refine lv_iload_n hx hb dX5_least_21 rfl (lv_at hl 1 rfl) ?_
        refine lv_iconst (v := 1) hx hb dX5_least_22 (by decide) ?_
        refine lv_isub hx hb dX5_least_23 ?_
        refine lv_topi (fun vq23 eq23 => ?_)
        refine va_mmax hx hb (hml.trans hl.1.symm) hown (hts (.methodLink RX5 155 Lib.Math.max.name) (by decide +kernel)) (hts (.static Lib.Math.max.name) (by decide +kernel)) (hts (.initialized "java/lang/Math") (by decide +kernel)) (hts (.code Lib.Math.max.name Lib.Math.max.code 2 (some .int)) (by decide +kernel)) (Nat.le_of_ble_eq_true rfl) (Nat.le_of_ble_eq_true rfl) (Nat.le_of_ble_eq_true rfl) (Nat.le_of_ble_eq_true rfl) dX5_least_24 ?_
        refine lv_topi (fun vq24 eq24 => ?_)
        refine lv_istore_n (lv' := [(3, .int vq24), (0, .ref h0), (1, .int pq1), (2, .int pq2)]) hx hb dX5_least_27 rfl hl (by decide) rfl (fun ls hl => ?_)
        refine lv_iconst (v := 3) hx hb dX5_least_28 (by decide) ?_
        refine lv_istore (lv' := [(4, .int 3), (3, .int vq24), (0, .ref h0), (1, .int pq1), (2, .int pq2)]) hx hb dX5_least_29 hl (by decide) rfl (fun ls hl => ?_)
        exact hJ31 ((2147483647 - (3 : Int32).toInt).toNat + 1) _ _ vq24 3 hP hS (by first | (have h := iq_add2 eq53 (by rw [iq_lt] at cq36; have h9 : ¬ (199 : Int) < zq4.toInt := cq36; omega); omega) | decide) (by first | exact i31_1 | exact (hp11.1.resolve_left cq14).2) (by first | exact i31_2 | exact iq_max2 eq24) (by first | exact i31_3 | exact ⟨(by rw [iq_lt] at cq2; exact Int.not_lt.mp cq2), (by rw [iq_lt] at cq7; exact Int.not_lt.mp cq7)⟩) (by first | exact i31_4 | exact iq_tl ⟨(by rw [iq_lt] at cq2; exact Int.not_lt.mp cq2), (by rw [iq_lt] at cq7; exact Int.not_lt.mp cq7)⟩ eq23 eq24) (by first | (have h := iq_add2 eq53 (by rw [iq_lt] at cq36; have h9 : ¬ (199 : Int) < zq4.toInt := cq36; omega); omega) | decide) (by first | exact lsN_0 | exact lsN_next i31_6 i31_0 i31_5 hno (iq_add2 eq53 (by rw [iq_lt] at cq36; have h9 : ¬ (199 : Int) < zq4.toInt := cq36; omega))) (Nat.lt_succ_self _) _ (lv_sub hl [3, 4, 1, 0] rfl)
      · skip
        refine lv_ldc (v := (-1000001)) hx hb hown (hts (.constant RX5 51 (-1000001)) (by decide +kernel)) dX5_least_17 ?_
        exact W.iret (v := (-1000001)) hx hb hr (fun t ht hW => ⟨⟨(-1000001), (), rfl, by first | exact Or.inl ⟨fun h => hp11.2 cq14 h.2, rfl⟩ | exact Or.inl ⟨fun h => by rw [iq_lt] at cq7; exact absurd cq7 (Int.not_lt.mpr h.1.2), rfl⟩ | exact Or.inl ⟨fun h => by rw [iq_lt] at cq2; exact absurd cq2 (Int.not_lt.mpr h.1.1), rfl⟩, trivial⟩, hS.F ht⟩) hS.2.2 dX5_least_19
abbrev rmX5_round : Room := { frames := 2, cells := 0, slots := 0, locals := 43 }
set_option maxHeartbeats 4000000 in
set_option maxRecDepth 100000 in
theorem k_X5_round (l : Launch) {K : Cx} {G0 : Nat → Nat} {w0 : va_W} (hT : TH K G0 w0) {h0 : Nat} (g_h0 : G0 h0 = 6) (pq1 : Int32)  : Ri l K yX5_round wsX5_round rmX5_round [.ref h0, .int pq1] w0 (fun r : Int32 => rAns pq1 r) := by
  refine Met.ofW (cc := cX5_round) (maxL := 4) (ret := (some .int)) (by decide) rfl ?_
  intro p e s m args below meth c s₁ B hml hv
  obtain ⟨rfl, hP, hK, hD, hN⟩ := hv
  have hx := B.exec
  have hb := B.bytes
  have hr := B.returns
  have hts := atoms_spec (ws := wsX5_round) B.pre
  have hown : s.vm.findClass RX5 = some m.cls := findClass_of_methodNamed B.named
  have hlocks := B.notSynchronized
  have hS : va_S (fun _ => False) s.heap s.heap [] := va_S.rf
  have hl := lv_entry ([.ref h0, .int pq1]) (n := 4) (Nat.le_of_ble_eq_true rfl)
  rw [lg_entry_eq]
  generalize (lg_sl ([.ref h0, .int pq1]) ++ List.replicate (4 - (lg_sl ([.ref h0, .int pq1])).length) Slot.unset).toArray = ls at hl ⊢
  have hl : lv_has ls 4 [(0, .ref h0), (1, .int pq1)] := hl
  have hJ14 : ∀ (n14 : Nat) (H : Heap) (locs : List Loc) (zq2 : Int32) (zq3 : Int32), (va_P K.1 vwCl w0 H) → (va_S (fun _ => False) s.heap H locs) → (isC pq1) → (1 ≤ zq3.toInt) → (zq2.toInt = ((2 ^ (zq3.toInt.toNat - 1) % pq1.toInt.toNat : Nat) : Int)) → (∀ m : Nat, 1 ≤ m → m < zq3.toInt.toNat → ¬ rGood pq1.toInt.toNat m) → ((2147483647 - zq3.toInt).toNat < n14) → ∀ (ls : Array Slot), lv_has ls 4 [(1, .int pq1), (2, .int zq2), (3, .int zq3)] → W p l e rmX5_round s m [.ref h0, .int pq1].toArray below meth c H locs 0 0 (MQ below (va_Qi (fun (r : Int32) (_ : Unit) => (fun r : Int32 => rAns pq1 r) r) (fun _ _ => True) (fun _ => False)) [.ref h0, .int pq1].toArray s 0 0 (fun _ => False)) (F0 m 14 ls []) := by
    intro n14
    induction n14 with
    | zero =>
      intro H locs zq2 zq3 hP hS i14_0 i14_1 i14_2 i14_3 hm14 ls hl
      exact absurd hm14 (Nat.not_lt_zero _)
    | succ n14 ih14 =>
      intro H locs zq2 zq3 hP hS i14_0 i14_1 i14_2 i14_3 hm14 ls hl
      refine lv_iload_n hx hb dX5_round_14 rfl (lv_at hl 2 rfl) ?_
      refine lv_iload_n hx hb dX5_round_15 rfl (lv_at hl 0 rfl) ?_
      refine lv_icmp_gt (tgt := 47) hx hb dX5_round_16 (by decide) (fun cq16 => ?_) (fun cq16 => ?_)
      · skip
        refine lv_ldc (v := (-1000000)) hx hb hown (hts (.constant RX5 134 (-1000000)) (by decide +kernel)) dX5_round_47 ?_
        exact W.iret (v := (-1000000)) hx hb hr (fun t ht hW => ⟨⟨(-1000000), (), rfl, absurd cq16 (fun q => cr_end i14_0 i14_3 q), trivial⟩, hS.F ht⟩) hS.2.2 dX5_round_49
      · skip
        refine lv_iconst (v := 2) hx hb dX5_round_19 (by decide) ?_
        refine lv_iload_n hx hb dX5_round_20 rfl (lv_at hl 1 rfl) ?_
        refine lv_imul hx hb dX5_round_21 ?_
        refine lv_topi (fun vq21 eq21 => ?_)
        refine lv_iload_n hx hb dX5_round_22 rfl (lv_at hl 0 rfl) ?_
        refine r_i (va_runS (As := [.int vq21, .int pq1]) (rest := []) ⟨hx, hb, hml, hown, hts⟩ (k_X5_rest l vq21 pq1) (va_cwS 2 hts gX5_round_X5_rest rfl rfl rfl (by decide +kernel) ⟨Nat.le_of_ble_eq_true rfl, Nat.le_of_ble_eq_true rfl⟩) (pPreS) rfl rfl hl.1 rfl (lv_room (Nat.le_of_ble_eq_true rfl)) dX5_round_23 ⟨Nat.le_of_ble_eq_true rfl, Nat.le_of_ble_eq_true rfl⟩) hP hS (fun rq23 H locs hp23 hP hS => ?_)
        refine lv_istore_n (lv' := [(2, .int rq23), (1, .int pq1), (3, .int zq3)]) hx hb dX5_round_26 rfl hl (by decide) rfl (fun ls hl => ?_)
        refine lv_iload_n hx hb dX5_round_27 rfl (lv_at hl 0 rfl) ?_
        refine lv_iconst (v := 1) hx hb dX5_round_28 (by decide) ?_
        refine lv_icmp_eq (tgt := 39) hx hb dX5_round_29 (by decide) (fun cq29 => ?_) (fun cq29 => ?_)
        · skip
          refine lv_iload_n hx hb dX5_round_39 rfl (lv_at hl 2 rfl) ?_
          exact W.iret (v := zq3) hx hb hr (fun t ht hW => ⟨⟨zq3, (), rfl, by have h8 := cr_step i14_0 i14_2 eq21 hp23; rw [show zq3.toInt.toNat - 1 + 1 = zq3.toInt.toNat by omega] at h8; exact Or.inr ⟨i14_0, i14_1, (by first | exact (cr_good (v := pq1 - 1) i14_0 h8 rfl).mpr (Or.inl cq29) | exact (cr_good i14_0 h8 eq35).mpr (Or.inr cq36)), i14_3⟩, trivial⟩, hS.F ht⟩) hS.2.2 dX5_round_40
        · skip
          refine lv_iload_n hx hb dX5_round_32 rfl (lv_at hl 0 rfl) ?_
          refine lv_iload_n hx hb dX5_round_33 rfl (lv_at hl 1 rfl) ?_
          refine lv_iconst (v := 1) hx hb dX5_round_34 (by decide) ?_
          refine lv_isub hx hb dX5_round_35 ?_
          refine lv_topi (fun vq35 eq35 => ?_)
          refine lv_icmp_ne (tgt := 41) hx hb dX5_round_36 (by decide) (fun cq36 => ?_) (fun cq36 => ?_)
          · skip
            obtain ⟨vq41, eq41⟩ : ∃ y : Int32, y = zq3 + 1 := ⟨_, rfl⟩
            refine lv_iinc (v := vq41) (lv' := [(3, .int vq41), (2, .int rq23), (1, .int pq1)]) hx hb dX5_round_41 hl (k := 2) rfl (by rw [eq41]; rfl) (by decide) rfl (fun ls hl => ?_)
            refine lv_goto (tgt := 14) hx hb dX5_round_44 (by decide) ?_
            exact ih14 _ _ rq23 vq41 hP hS (by first | exact i14_0 | exact (hp1.1.resolve_left cq4).2) (by first | exact i14_1 | (have h9 := iq_add1 eq41 (by rw [iq_lt] at cq16; have h8 := i14_0.2.1; omega); omega) | decide) (by first | exact cr_first (hp1.1.resolve_left cq4).2 | (have h9 := iq_add1 eq41 (by rw [iq_lt] at cq16; have h8 := i14_0.2.1; omega); have h8 := cr_step i14_0 i14_2 eq21 hp23; rw [show vq41.toInt.toNat - 1 = zq3.toInt.toNat - 1 + 1 by omega]; exact h8)) (by first | exact (fun m h1 h2 => absurd h2 (by show ¬ m < 1; omega)) | (have h9 := iq_add1 eq41 (by rw [iq_lt] at cq16; have h8 := i14_0.2.1; omega); have h8 := cr_step i14_0 i14_2 eq21 hp23; rw [show zq3.toInt.toNat - 1 + 1 = zq3.toInt.toNat by omega] at h8; exact cr_next i14_1 i14_3 (fun q => ((cr_good i14_0 h8 eq35).mp q).elim cq29 cq36) h9)) (iq_upl hm14 cq16 (by have h8 := i14_0.2.1; omega) eq41) _ (lv_sub hl [2, 1, 0] rfl)
          · skip
            refine lv_iload_n hx hb dX5_round_39 rfl (lv_at hl 2 rfl) ?_
            exact W.iret (v := zq3) hx hb hr (fun t ht hW => ⟨⟨zq3, (), rfl, by have h8 := cr_step i14_0 i14_2 eq21 hp23; rw [show zq3.toInt.toNat - 1 + 1 = zq3.toInt.toNat by omega] at h8; exact Or.inr ⟨i14_0, i14_1, (by first | exact (cr_good (v := pq1 - 1) i14_0 h8 rfl).mpr (Or.inl cq29) | exact (cr_good i14_0 h8 eq35).mpr (Or.inr cq36)), i14_3⟩, trivial⟩, hS.F ht⟩) hS.2.2 dX5_round_40
  refine lv_iload_n hx hb dX5_round_0 rfl (lv_at hl 1 rfl) ?_
  refine r_i (va_runS (As := [.int pq1]) (rest := []) ⟨hx, hb, hml, hown, hts⟩ (k_X5_isConstant l pq1) (va_cwS 1 hts gX5_round_X5_isConstant rfl rfl rfl (by decide +kernel) ⟨Nat.le_of_ble_eq_true rfl, Nat.le_of_ble_eq_true rfl⟩) (pPreS) rfl rfl hl.1 rfl (lv_room (Nat.le_of_ble_eq_true rfl)) dX5_round_1 ⟨Nat.le_of_ble_eq_true rfl, Nat.le_of_ble_eq_true rfl⟩) hP hS (fun rq1 H locs hp1 hP hS => ?_)
  refine lv_if_ne (tgt := 10) hx hb dX5_round_4 (by decide) (fun cq4 => ?_) (fun cq4 => ?_)
  · skip
    refine lv_iconst (v := 1) hx hb dX5_round_10 (by decide) ?_
    refine lv_istore_n (lv' := [(2, .int 1), (0, .ref h0), (1, .int pq1)]) hx hb dX5_round_11 rfl hl (by decide) rfl (fun ls hl => ?_)
    refine lv_iconst (v := 1) hx hb dX5_round_12 (by decide) ?_
    refine lv_istore_n (lv' := [(3, .int 1), (2, .int 1), (0, .ref h0), (1, .int pq1)]) hx hb dX5_round_13 rfl hl (by decide) rfl (fun ls hl => ?_)
    exact hJ14 ((2147483647 - (1 : Int32).toInt).toNat + 1) _ _ 1 1 hP hS (by first | exact i14_0 | exact (hp1.1.resolve_left cq4).2) (by first | exact i14_1 | (have h9 := iq_add1 eq41 (by rw [iq_lt] at cq16; have h8 := i14_0.2.1; omega); omega) | decide) (by first | exact cr_first (hp1.1.resolve_left cq4).2 | (have h9 := iq_add1 eq41 (by rw [iq_lt] at cq16; have h8 := i14_0.2.1; omega); have h8 := cr_step i14_0 i14_2 eq21 hp23; rw [show vq41.toInt.toNat - 1 = zq3.toInt.toNat - 1 + 1 by omega]; exact h8)) (by first | exact (fun m h1 h2 => absurd h2 (by show ¬ m < 1; omega)) | (have h9 := iq_add1 eq41 (by rw [iq_lt] at cq16; have h8 := i14_0.2.1; omega); have h8 := cr_step i14_0 i14_2 eq21 hp23; rw [show zq3.toInt.toNat - 1 + 1 = zq3.toInt.toNat by omega] at h8; exact cr_next i14_1 i14_3 (fun q => ((cr_good i14_0 h8 eq35).mp q).elim cq29 cq36) h9)) (Nat.lt_succ_self _) _ (lv_sub hl [3, 1, 0] rfl)
  · skip
    refine lv_ldc (v := (-1000001)) hx hb hown (hts (.constant RX5 51 (-1000001)) (by decide +kernel)) dX5_round_7 ?_
    exact W.iret (v := (-1000001)) hx hb hr (fun t ht hW => ⟨⟨(-1000001), (), rfl, Or.inl ⟨hp1.2 cq4, rfl⟩, trivial⟩, hS.F ht⟩) hS.2.2 dX5_round_9
abbrev rmX5_plain : Room := { frames := 3, cells := 0, slots := 0, locals := 67 }
set_option maxHeartbeats 4000000 in
set_option maxRecDepth 100000 in
theorem k_X5_plain (l : Launch) {K : Cx} {G0 : Nat → Nat} {w0 : va_W} (hT : TH K G0 w0) {h0 : Nat} (g_h0 : G0 h0 = 6) (pq1 : Int32) (pq2 : Int32)  : Ri l K yX5_plain wsX5_plain rmX5_plain [.ref h0, .int pq1, .int pq2] w0 (fun r : Int32 => pA pq1 pq2 r) := by
  refine Met.ofW (cc := cX5_plain) (maxL := 5) (ret := (some .int)) (by decide) rfl ?_
  intro p e s m args below meth c s₁ B hml hv
  obtain ⟨rfl, hP, hK, hD, hN⟩ := hv
  have hx := B.exec
  have hb := B.bytes
  have hr := B.returns
  have hts := atoms_spec (ws := wsX5_plain) B.pre
  have hown : s.vm.findClass RX5 = some m.cls := findClass_of_methodNamed B.named
  have hlocks := B.notSynchronized
  have hS : va_S (fun _ => False) s.heap s.heap [] := va_S.rf
  have hl := lv_entry ([.ref h0, .int pq1, .int pq2]) (n := 5) (Nat.le_of_ble_eq_true rfl)
  rw [lg_entry_eq]
  generalize (lg_sl ([.ref h0, .int pq1, .int pq2]) ++ List.replicate (5 - (lg_sl ([.ref h0, .int pq1, .int pq2])).length) Slot.unset).toArray = ls at hl ⊢
  have hl : lv_has ls 5 [(0, .ref h0), (1, .int pq1), (2, .int pq2)] := hl
  have hJ19 : ∀ (n19 : Nat) (H : Heap) (locs : List Loc) (zq3 : Int32), (va_P K.1 vwCl w0 H) → (va_S (fun _ => False) s.heap H locs) → (isC pq1) → (isWd pq2) → (0 ≤ zq3.toInt) → (cpI pq1 pq2 zq3.toInt.toNat) → ((2147483647 - zq3.toInt).toNat < n19) → ∀ (ls : Array Slot), lv_has ls 5 [(1, .int pq1), (2, .int pq2), (3, .int zq3)] → W p l e rmX5_plain s m [.ref h0, .int pq1, .int pq2].toArray below meth c H locs 0 0 (MQ below (va_Qi (fun (r : Int32) (_ : Unit) => (fun r : Int32 => pA pq1 pq2 r) r) (fun _ _ => True) (fun _ => False)) [.ref h0, .int pq1, .int pq2].toArray s 0 0 (fun _ => False)) (F0 m 19 ls []) := by
    intro n19
    induction n19 with
    | zero =>
      intro H locs zq3 hP hS i19_0 i19_1 i19_2 i19_3 hm19 ls hl
      exact absurd hm19 (Nat.not_lt_zero _)
    | succ n19 ih19 =>
      intro H locs zq3 hP hS i19_0 i19_1 i19_2 i19_3 hm19 ls hl
      refine lv_iload_n hx hb dX5_plain_19 rfl (lv_at hl 2 rfl) ?_
      refine lv_iconst (v := 2) hx hb dX5_plain_20 (by decide) ?_
      refine lv_iload_n hx hb dX5_plain_21 rfl (lv_at hl 1 rfl) ?_
      refine lv_imul hx hb dX5_plain_22 ?_
      refine lv_topi (fun vq22 eq22 => ?_)
      refine lv_icmp_ge (tgt := 60) hx hb dX5_plain_23 (by decide) (fun cq23 => ?_) (fun cq23 => ?_)
      · skip
        refine lv_iconst (v := 1) hx hb dX5_plain_60 (by decide) ?_
        exact W.iret (v := 1) hx hb hr (fun t ht hW => ⟨⟨1, (), rfl, Or.inr ⟨i19_0, i19_1, cp_yes i19_3 (by have h9 := iq_mul2 (by have h8 := i19_1.1; omega) (by have h8 := i19_1.2; omega) eq22; rw [iq_le] at cq23; omega) (by have h8 := i19_1.1; omega)⟩, trivial⟩, hS.F ht⟩) hS.2.2 dX5_plain_61
      · skip
        have hlt : zq3.toInt.toNat < 2 * pq2.toInt.toNat := by have h9 := iq_mul2 (by have h8 := i19_1.1; omega) (by have h8 := i19_1.2; omega) eq22; rw [iq_le] at cq23; have h7 := i19_2; omega
        refine lv_iload_n hx hb dX5_plain_26 rfl (lv_at hl 2 rfl) ?_
        refine r_i (va_runS (As := [.int zq3]) (rest := []) ⟨hx, hb, hml, hown, hts⟩ (k_X5_change l zq3) (va_cwS 1 hts gX5_plain_X5_change rfl rfl rfl (by decide +kernel) ⟨Nat.le_of_ble_eq_true rfl, Nat.le_of_ble_eq_true rfl⟩) (pPreS) rfl rfl hl.1 rfl (lv_room (Nat.le_of_ble_eq_true rfl)) dX5_plain_27 ⟨Nat.le_of_ble_eq_true rfl, Nat.le_of_ble_eq_true rfl⟩) hP hS (fun rq27 H locs hp27 hP hS => ?_)
        refine lv_iload_n hx hb dX5_plain_30 rfl (lv_at hl 0 rfl) ?_
        refine r_i (va_runS (As := [.int rq27, .int pq1]) (rest := []) ⟨hx, hb, hml, hown, hts⟩ (k_X5_rest l rq27 pq1) (va_cwS 2 hts gX5_plain_X5_rest rfl rfl rfl (by decide +kernel) ⟨Nat.le_of_ble_eq_true rfl, Nat.le_of_ble_eq_true rfl⟩) (pPreS) rfl rfl hl.1 rfl (lv_room (Nat.le_of_ble_eq_true rfl)) dX5_plain_31 ⟨Nat.le_of_ble_eq_true rfl, Nat.le_of_ble_eq_true rfl⟩) hP hS (fun rq31 H locs hp31 hP hS => ?_)
        refine lv_istore (lv' := [(4, .int rq31), (1, .int pq1), (2, .int pq2), (3, .int zq3)]) hx hb dX5_plain_34 hl (by decide) rfl (fun ls hl => ?_)
        have h31 := fB_of i19_2 (by have h9 := i19_0.1; omega) hp27 hp31
        refine lv_iload hx hb dX5_plain_36 (lv_at hl 0 rfl) ?_
        refine lv_if_eq (tgt := 52) hx hb dX5_plain_38 (by decide) (fun cq38 => ?_) (fun cq38 => ?_)
        · skip
          refine lv_iconst (v := 0) hx hb dX5_plain_52 (by decide) ?_
          exact W.iret (v := 0) hx hb hr (fun t ht hW => ⟨⟨0, (), rfl, Or.inr ⟨i19_0, i19_1, by first | exact cp_no0 hlt h31 cq38 | exact cp_no1 hlt h31 h45 cq49⟩, trivial⟩, hS.F ht⟩) hS.2.2 dX5_plain_53
        · skip
          refine lv_iload hx hb dX5_plain_41 (lv_at hl 0 rfl) ?_
          refine lv_iload_n hx hb dX5_plain_43 rfl (lv_at hl 1 rfl) ?_
          refine lv_iload_n hx hb dX5_plain_44 rfl (lv_at hl 2 rfl) ?_
          refine r_i (va_runS (As := [.int rq31, .int pq1, .int pq2]) (rest := []) ⟨hx, hb, hml, hown, hts⟩ (k_X5_strikesLeaving l rq31 pq1 pq2) (va_cwS 3 hts gX5_plain_X5_strikesLeaving rfl rfl rfl (by decide +kernel) ⟨Nat.le_of_ble_eq_true rfl, Nat.le_of_ble_eq_true rfl⟩) (pPreS) rfl rfl hl.1 rfl (lv_room (Nat.le_of_ble_eq_true rfl)) dX5_plain_45 ⟨Nat.le_of_ble_eq_true rfl, Nat.le_of_ble_eq_true rfl⟩) hP hS (fun rq45 H locs hp45 hP hS => ?_)
          have h45 := hp45 (by have h9 := i19_0.1; omega) (by have h9 := i19_1.1; omega) i19_1.2
          refine lv_iconst (v := 1) hx hb dX5_plain_48 (by decide) ?_
          refine lv_icmp_eq (tgt := 54) hx hb dX5_plain_49 (by decide) (fun cq49 => ?_) (fun cq49 => ?_)
          · skip
            obtain ⟨vq54, eq54⟩ : ∃ y : Int32, y = zq3 + 1 := ⟨_, rfl⟩
            refine lv_iinc (v := vq54) (lv' := [(3, .int vq54), (4, .int rq31), (1, .int pq1), (2, .int pq2)]) hx hb dX5_plain_54 hl (k := 3) rfl (by rw [eq54]; rfl) (by decide) rfl (fun ls hl => ?_)
            refine lv_goto (tgt := 19) hx hb dX5_plain_57 (by decide) ?_
            exact ih19 _ _ vq54 hP hS (by first | exact i19_0 | exact (hp1.1.resolve_left cq4).2) (by first | exact i19_1 | exact (hp8.1.resolve_left cq11).2) (by first | exact iq_nn1 i19_2 cq23 eq54 | decide) (by first | exact cpI_0 | exact cpI_next i19_3 i19_2 h31 cq38 h45 cq49 (iq_add1 eq54 (iq_below cq23))) (iq_up hm19 cq23 eq54) _ (lv_sub hl [2, 3, 0] rfl)
          · skip
            refine lv_iconst (v := 0) hx hb dX5_plain_52 (by decide) ?_
            exact W.iret (v := 0) hx hb hr (fun t ht hW => ⟨⟨0, (), rfl, Or.inr ⟨i19_0, i19_1, by first | exact cp_no0 hlt h31 cq38 | exact cp_no1 hlt h31 h45 cq49⟩, trivial⟩, hS.F ht⟩) hS.2.2 dX5_plain_53
  refine lv_iload_n hx hb dX5_plain_0 rfl (lv_at hl 1 rfl) ?_
  refine r_i (va_runS (As := [.int pq1]) (rest := []) ⟨hx, hb, hml, hown, hts⟩ (k_X5_isConstant l pq1) (va_cwS 1 hts gX5_plain_X5_isConstant rfl rfl rfl (by decide +kernel) ⟨Nat.le_of_ble_eq_true rfl, Nat.le_of_ble_eq_true rfl⟩) (pPreS) rfl rfl hl.1 rfl (lv_room (Nat.le_of_ble_eq_true rfl)) dX5_plain_1 ⟨Nat.le_of_ble_eq_true rfl, Nat.le_of_ble_eq_true rfl⟩) hP hS (fun rq1 H locs hp1 hP hS => ?_)
  refine lv_if_eq (tgt := 14) hx hb dX5_plain_4 (by decide) (fun cq4 => ?_) (fun cq4 => ?_)
  · skip
    refine lv_ldc (v := (-1000001)) hx hb hown (hts (.constant RX5 51 (-1000001)) (by decide +kernel)) dX5_plain_14 ?_
    exact W.iret (v := (-1000001)) hx hb hr (fun t ht hW => ⟨⟨(-1000001), (), rfl, by first | exact Or.inl ⟨fun h => hp8.2 cq11 h.2, rfl⟩ | exact Or.inl ⟨fun h => hp1.2 cq4 h.1, rfl⟩, trivial⟩, hS.F ht⟩) hS.2.2 dX5_plain_16
  · skip
    refine lv_iload_n hx hb dX5_plain_7 rfl (lv_at hl 2 rfl) ?_
    refine r_i (va_runS (As := [.int pq2]) (rest := []) ⟨hx, hb, hml, hown, hts⟩ (k_X5_isWidth l pq2) (va_cwS 1 hts gX5_plain_X5_isWidth rfl rfl rfl (by decide +kernel) ⟨Nat.le_of_ble_eq_true rfl, Nat.le_of_ble_eq_true rfl⟩) (pPreS) rfl rfl hl.1 rfl (lv_room (Nat.le_of_ble_eq_true rfl)) dX5_plain_8 ⟨Nat.le_of_ble_eq_true rfl, Nat.le_of_ble_eq_true rfl⟩) hP hS (fun rq8 H locs hp8 hP hS => ?_)
    refine lv_if_ne (tgt := 17) hx hb dX5_plain_11 (by decide) (fun cq11 => ?_) (fun cq11 => ?_)
    · skip
      refine lv_iconst (v := 0) hx hb dX5_plain_17 (by decide) ?_
      refine lv_istore_n (lv' := [(3, .int 0), (0, .ref h0), (1, .int pq1), (2, .int pq2)]) hx hb dX5_plain_18 rfl hl (by decide) rfl (fun ls hl => ?_)
      exact hJ19 ((2147483647 - (0 : Int32).toInt).toNat + 1) _ _ 0 hP hS (by first | exact i19_0 | exact (hp1.1.resolve_left cq4).2) (by first | exact i19_1 | exact (hp8.1.resolve_left cq11).2) (by first | exact iq_nn1 i19_2 cq23 eq54 | decide) (by first | exact cpI_0 | exact cpI_next i19_3 i19_2 h31 cq38 h45 cq49 (iq_add1 eq54 (iq_below cq23))) (Nat.lt_succ_self _) _ (lv_sub hl [2, 3, 0] rfl)
    · skip
      refine lv_ldc (v := (-1000001)) hx hb hown (hts (.constant RX5 51 (-1000001)) (by decide +kernel)) dX5_plain_14 ?_
      exact W.iret (v := (-1000001)) hx hb hr (fun t ht hW => ⟨⟨(-1000001), (), rfl, by first | exact Or.inl ⟨fun h => hp8.2 cq11 h.2, rfl⟩ | exact Or.inl ⟨fun h => hp1.2 cq4 h.1, rfl⟩, trivial⟩, hS.F ht⟩) hS.2.2 dX5_plain_16
abbrev rmX5_same : Room := { frames := 3, cells := 0, slots := 0, locals := 67 }
set_option maxHeartbeats 4000000 in
set_option maxRecDepth 100000 in
theorem k_X5_same (l : Launch) {K : Cx} {G0 : Nat → Nat} {w0 : va_W} (hT : TH K G0 w0) {h0 : Nat} (g_h0 : G0 h0 = 6) (pq1 : Int32) (pq2 : Int32)  : Ri l K yX5_same wsX5_same rmX5_same [.ref h0, .int pq1, .int pq2] w0 (fun _ => True) := by
  refine Met.ofW (cc := cX5_same) (maxL := 3) (ret := (some .int)) (by decide) rfl ?_
  intro p e s m args below meth c s₁ B hml hv
  obtain ⟨rfl, hP, hK, hD, hN⟩ := hv
  have hx := B.exec
  have hb := B.bytes
  have hr := B.returns
  have hts := atoms_spec (ws := wsX5_same) B.pre
  have hown : s.vm.findClass RX5 = some m.cls := findClass_of_methodNamed B.named
  have hlocks := B.notSynchronized
  have hinX2 : ∀ w ∈ wsX20, w ∈ wsX5_same := by decide +kernel
  have hinX5 : ∀ w ∈ wsX50, w ∈ wsX5_same := by decide +kernel
  have hS : va_S (fun _ => False) s.heap s.heap [] := va_S.rf
  have hl := lv_entry ([.ref h0, .int pq1, .int pq2]) (n := 3) (Nat.le_of_ble_eq_true rfl)
  rw [lg_entry_eq]
  generalize (lg_sl ([.ref h0, .int pq1, .int pq2]) ++ List.replicate (3 - (lg_sl ([.ref h0, .int pq1, .int pq2])).length) Slot.unset).toArray = ls at hl ⊢
  have hl : lv_has ls 3 [(0, .ref h0), (1, .int pq1), (2, .int pq2)] := hl
  refine lv_iload_n hx hb dX5_same_0 rfl (lv_at hl 1 rfl) ?_
  refine lv_if_lt (tgt := 15) hx hb dX5_same_1 (by decide) (fun cq1 => ?_) (fun cq1 => ?_)
  · skip
    refine lv_ldc (v := (-1000001)) hx hb hown (hts (.constant RX5 51 (-1000001)) (by decide +kernel)) dX5_same_15 ?_
    exact W.iret (v := (-1000001)) hx hb hr (fun t ht hW => ⟨⟨(-1000001), (), rfl, trivial, trivial⟩, hS.F ht⟩) hS.2.2 dX5_same_17
  · skip
    refine lv_iload_n hx hb dX5_same_4 rfl (lv_at hl 1 rfl) ?_
    refine lv_aload_n hx hb dX5_same_5 rfl (lv_at hl 0 rfl) ?_
    obtain ⟨kq6, qq6, rq6, tq6, uq6, vq6, hk6, g_q6, g_r6, g_t6, g_u6, g_v6⟩ := hT.k6 g_h0
    refine va_get (D := K.1) (ci := 5) (v := .ref qq6) (C := RX5) (T := TX5) (N := 5) hx hb hts hinX5 hown hK hP kq6 hk6 rfl 0 (by decide) (hts (.fieldLink RX5 10 "CodedWords" "code" "LCodedWords$Code;") (by decide +kernel)) (fun _ h9 => h9) rfl dX5_same_6 ?_
    obtain ⟨kq9, xq9, yq9, qq9, rq9, hk9, g_q9, g_r9⟩ := hT.k3 g_q6
    refine va_getN (host := RX5) (D := K.1) (ci := 2) (v := .int xq9) (C := RX2) (T := TX2) (N := 4) hx hb hts hinX2 hown hK hP kq9 hk9 rfl 0 (by decide) (hN.f (by decide +kernel)) (fun _ h9 => h9) rfl dX5_same_9 ?_
    refine lv_icmp_lt (tgt := 18) hx hb dX5_same_12 (by decide) (fun cq12 => ?_) (fun cq12 => ?_)
    · skip
      refine lv_iload_n hx hb dX5_same_18 rfl (lv_at hl 2 rfl) ?_
      rcases (show (pq2.toInt ≠ 0 ∧ pq2.toInt ≠ 1) ∨ pq2.toInt = 0 ∨ pq2.toInt = 1 by omega) with tq19 | tq19 | tq19
      · skip
        refine lv_lookup (off := 63) (tgt := 82) hx hb dX5_same_19 (by decide) (by simp [Op.lookupswitch.offset, List.find?, tq19.1.symm, tq19.2.symm, Ne.symm tq19.1, Ne.symm tq19.2]) (by decide) ?_
        refine lv_ldc (v := (-1000001)) hx hb hown (hts (.constant RX5 51 (-1000001)) (by decide +kernel)) dX5_same_82 ?_
        exact W.iret (v := (-1000001)) hx hb hr (fun t ht hW => ⟨⟨(-1000001), (), rfl, trivial, trivial⟩, hS.F ht⟩) hS.2.2 dX5_same_84
      · skip
        refine lv_lookup (off := 25) (tgt := 44) hx hb dX5_same_19 (by decide) (by rw [tq19]; rfl) (by decide) ?_
        refine lv_iload_n hx hb dX5_same_44 rfl (lv_at hl 1 rfl) ?_
        refine lv_aload_n hx hb dX5_same_45 rfl (lv_at hl 0 rfl) ?_
        refine va_get (D := K.1) (ci := 5) (v := .ref qq6) (C := RX5) (T := TX5) (N := 5) hx hb hts hinX5 hown hK hP kq6 hk6 rfl 0 (by decide) (hts (.fieldLink RX5 10 "CodedWords" "code" "LCodedWords$Code;") (by decide +kernel)) (fun _ h9 => h9) rfl dX5_same_46 ?_
        refine va_getN (host := RX5) (D := K.1) (ci := 2) (v := .int xq9) (C := RX2) (T := TX2) (N := 4) hx hb hts hinX2 hown hK hP kq9 hk9 rfl 0 (by decide) (hN.f (by decide +kernel)) (fun _ h9 => h9) rfl dX5_same_49 ?_
        refine lv_aload_n hx hb dX5_same_52 rfl (lv_at hl 0 rfl) ?_
        refine va_get (D := K.1) (ci := 5) (v := .ref qq6) (C := RX5) (T := TX5) (N := 5) hx hb hts hinX5 hown hK hP kq6 hk6 rfl 0 (by decide) (hts (.fieldLink RX5 10 "CodedWords" "code" "LCodedWords$Code;") (by decide +kernel)) (fun _ h9 => h9) rfl dX5_same_53 ?_
        refine va_getN (host := RX5) (D := K.1) (ci := 2) (v := .int yq9) (C := RX2) (T := TX2) (N := 4) hx hb hts hinX2 hown hK hP kq9 hk9 rfl 1 (by decide) (hN.f (by decide +kernel)) (fun _ h9 => h9) rfl dX5_same_56 ?_
        refine r_i (va_runS (As := [.int pq1, .int xq9, .int yq9]) (rest := []) ⟨hx, hb, hml, hown, hts⟩ (k_X5_strikesLeaving l pq1 xq9 yq9) (va_cwS 3 hts gX5_same_X5_strikesLeaving rfl rfl rfl (by decide +kernel) ⟨Nat.le_of_ble_eq_true rfl, Nat.le_of_ble_eq_true rfl⟩) (pPreS) rfl rfl hl.1 rfl (lv_room (Nat.le_of_ble_eq_true rfl)) dX5_same_59 ⟨Nat.le_of_ble_eq_true rfl, Nat.le_of_ble_eq_true rfl⟩) hP hS (fun rq59 H locs hp59 hP hS => ?_)
        exact W.iret (v := rq59) hx hb hr (fun t ht hW => ⟨⟨rq59, (), rfl, trivial, trivial⟩, hS.F ht⟩) hS.2.2 dX5_same_62
      · skip
        refine lv_lookup (off := 44) (tgt := 63) hx hb dX5_same_19 (by decide) (by rw [tq19]; rfl) (by decide) ?_
        refine lv_iload_n hx hb dX5_same_63 rfl (lv_at hl 1 rfl) ?_
        refine lv_aload_n hx hb dX5_same_64 rfl (lv_at hl 0 rfl) ?_
        refine va_get (D := K.1) (ci := 5) (v := .ref qq6) (C := RX5) (T := TX5) (N := 5) hx hb hts hinX5 hown hK hP kq6 hk6 rfl 0 (by decide) (hts (.fieldLink RX5 10 "CodedWords" "code" "LCodedWords$Code;") (by decide +kernel)) (fun _ h9 => h9) rfl dX5_same_65 ?_
        refine va_getN (host := RX5) (D := K.1) (ci := 2) (v := .int xq9) (C := RX2) (T := TX2) (N := 4) hx hb hts hinX2 hown hK hP kq9 hk9 rfl 0 (by decide) (hN.f (by decide +kernel)) (fun _ h9 => h9) rfl dX5_same_68 ?_
        refine lv_aload_n hx hb dX5_same_71 rfl (lv_at hl 0 rfl) ?_
        refine va_get (D := K.1) (ci := 5) (v := .ref qq6) (C := RX5) (T := TX5) (N := 5) hx hb hts hinX5 hown hK hP kq6 hk6 rfl 0 (by decide) (hts (.fieldLink RX5 10 "CodedWords" "code" "LCodedWords$Code;") (by decide +kernel)) (fun _ h9 => h9) rfl dX5_same_72 ?_
        refine va_getN (host := RX5) (D := K.1) (ci := 2) (v := .int yq9) (C := RX2) (T := TX2) (N := 4) hx hb hts hinX2 hown hK hP kq9 hk9 rfl 1 (by decide) (hN.f (by decide +kernel)) (fun _ h9 => h9) rfl dX5_same_75 ?_
        refine r_i (va_runS (As := [.int pq1, .int xq9, .int yq9]) (rest := []) ⟨hx, hb, hml, hown, hts⟩ (k_X5_firstLeaving l pq1 xq9 yq9) (va_cwS 3 hts gX5_same_X5_firstLeaving rfl rfl rfl (by decide +kernel) ⟨Nat.le_of_ble_eq_true rfl, Nat.le_of_ble_eq_true rfl⟩) (pPreS) rfl rfl hl.1 rfl (lv_room (Nat.le_of_ble_eq_true rfl)) dX5_same_78 ⟨Nat.le_of_ble_eq_true rfl, Nat.le_of_ble_eq_true rfl⟩) hP hS (fun rq78 H locs hp78 hP hS => ?_)
        exact W.iret (v := rq78) hx hb hr (fun t ht hW => ⟨⟨rq78, (), rfl, trivial, trivial⟩, hS.F ht⟩) hS.2.2 dX5_same_81
    · skip
      refine lv_ldc (v := (-1000001)) hx hb hown (hts (.constant RX5 51 (-1000001)) (by decide +kernel)) dX5_same_15 ?_
      exact W.iret (v := (-1000001)) hx hb hr (fun t ht hW => ⟨⟨(-1000001), (), rfl, trivial, trivial⟩, hS.F ht⟩) hS.2.2 dX5_same_17
abbrev rmX5_missed : Room := { frames := 3, cells := 0, slots := 0, locals := 64 }
set_option maxHeartbeats 4000000 in
set_option maxRecDepth 100000 in
theorem k_X5_missed (l : Launch) {K : Cx} {G0 : Nat → Nat} {w0 : va_W} (hT : TH K G0 w0) {h0 : Nat} (g_h0 : G0 h0 = 6)  : Ri l K yX5_missed wsX5_missed rmX5_missed [.ref h0] w0 (fun _ => True) := by
  refine Met.ofW (cc := cX5_missed) (maxL := 4) (ret := (some .int)) (by decide) rfl ?_
  intro p e s m args below meth c s₁ B hml hv
  obtain ⟨rfl, hP, hK, hD, hN⟩ := hv
  have hx := B.exec
  have hb := B.bytes
  have hr := B.returns
  have hts := atoms_spec (ws := wsX5_missed) B.pre
  have hown : s.vm.findClass RX5 = some m.cls := findClass_of_methodNamed B.named
  have hlocks := B.notSynchronized
  have hinX5 : ∀ w ∈ wsX50, w ∈ wsX5_missed := by decide +kernel
  have hS : va_S (fun _ => False) s.heap s.heap [] := va_S.rf
  have hl := lv_entry ([.ref h0]) (n := 4) (Nat.le_of_ble_eq_true rfl)
  rw [lg_entry_eq]
  generalize (lg_sl ([.ref h0]) ++ List.replicate (4 - (lg_sl ([.ref h0])).length) Slot.unset).toArray = ls at hl ⊢
  have hl : lv_has ls 4 [(0, .ref h0)] := hl
  have hJ4 : ∀ (n4 : Nat) (H : Heap) (locs : List Loc) (zq1 : Int32) (zq2 : Int32), (va_P K.1 vwCl w0 H) → (va_S (fun _ => False) s.heap H locs) → ((2147483647 - zq2.toInt).toNat < n4) → ∀ (ls : Array Slot), lv_has ls 4 [(0, .ref h0), (1, .int zq1), (2, .int zq2)] → W p l e rmX5_missed s m [.ref h0].toArray below meth c H locs 0 0 (MQ below (va_Qi (fun (r : Int32) (_ : Unit) => (fun _ => True) r) (fun _ _ => True) (fun _ => False)) [.ref h0].toArray s 0 0 (fun _ => False)) (F0 m 4 ls []) := by
    intro n4
    induction n4 with
    | zero =>
      intro H locs zq1 zq2 hP hS hm4 ls hl
      exact absurd hm4 (Nat.not_lt_zero _)
    | succ n4 ih4 =>
      intro H locs zq1 zq2 hP hS hm4 ls hl
      have hJ17 : ∀ (n17 : Nat) (H : Heap) (locs : List Loc) (zq1 : Int32) (zq3 : Int32), (va_P K.1 vwCl w0 H) → (va_S (fun _ => False) s.heap H locs) → (zq2.toInt < 2147483647) → ((2147483647 - zq3.toInt).toNat < n17) → ∀ (ls : Array Slot), lv_has ls 4 [(0, .ref h0), (1, .int zq1), (2, .int zq2), (3, .int zq3)] → W p l e rmX5_missed s m [.ref h0].toArray below meth c H locs 0 0 (MQ below (va_Qi (fun (r : Int32) (_ : Unit) => (fun _ => True) r) (fun _ _ => True) (fun _ => False)) [.ref h0].toArray s 0 0 (fun _ => False)) (F0 m 17 ls []) := by
        intro n17
        induction n17 with
        | zero =>
          intro H locs zq1 zq3 hP hS i17_0 hm17 ls hl
          exact absurd hm17 (Nat.not_lt_zero _)
        | succ n17 ih17 =>
          intro H locs zq1 zq3 hP hS i17_0 hm17 ls hl
          refine lv_iload_n hx hb dX5_missed_17 rfl (lv_at hl 3 rfl) ?_
          refine lv_iload_n hx hb dX5_missed_18 rfl (lv_at hl 2 rfl) ?_
          refine lv_iconst (v := 2) hx hb dX5_missed_19 (by decide) ?_
          refine lv_idiv hx hb dX5_missed_20 (by decide) ?_
          refine lv_topi (fun vq20 eq20 => ?_)
          refine lv_iconst (v := 2) hx hb dX5_missed_21 (by decide) ?_
          refine lv_imul hx hb dX5_missed_22 ?_
          refine lv_topi (fun vq22 eq22 => ?_)
          refine lv_icmp_ge (tgt := 54) hx hb dX5_missed_23 (by decide) (fun cq23 => ?_) (fun cq23 => ?_)
          · skip
            obtain ⟨vq54, eq54⟩ : ∃ y : Int32, y = zq2 + 1 := ⟨_, rfl⟩
            refine lv_iinc (v := vq54) (lv' := [(2, .int vq54), (0, .ref h0), (1, .int zq1), (3, .int zq3)]) hx hb dX5_missed_54 hl (k := 2) rfl (by rw [eq54]; rfl) (by decide) rfl (fun ls hl => ?_)
            refine lv_goto (tgt := 4) hx hb dX5_missed_57 (by decide) ?_
            exact ih4 _ _ zq1 vq54 hP hS (iq_upm hm4 i17_0 eq54) _ (lv_sub hl [1, 2, 0] rfl)
          · skip
            refine lv_aload_n hx hb dX5_missed_26 rfl (lv_at hl 0 rfl) ?_
            obtain ⟨kq27, qq27, rq27, tq27, uq27, vq27, hk27, g_q27, g_r27, g_t27, g_u27, g_v27⟩ := hT.k6 g_h0
            refine va_get (D := K.1) (ci := 5) (v := .ref qq27) (C := RX5) (T := TX5) (N := 5) hx hb hts hinX5 hown hK hP kq27 hk27 rfl 0 (by decide) (hts (.fieldLink RX5 10 "CodedWords" "code" "LCodedWords$Code;") (by decide +kernel)) (fun _ h9 => h9) rfl dX5_missed_27 ?_
            refine lv_iload_n hx hb dX5_missed_30 rfl (lv_at hl 3 rfl) ?_
            refine r_i (va_runS (As := [.int zq3]) (rest := [.ref qq27]) ⟨hx, hb, hml, hown, hts⟩ (k_X5_change l zq3) (va_cwS 1 hts gX5_missed_X5_change rfl rfl rfl (by decide +kernel) ⟨Nat.le_of_ble_eq_true rfl, Nat.le_of_ble_eq_true rfl⟩) (pPreS) rfl rfl hl.1 rfl (lv_room (Nat.le_of_ble_eq_true rfl)) dX5_missed_31 ⟨Nat.le_of_ble_eq_true rfl, Nat.le_of_ble_eq_true rfl⟩) hP hS (fun rq31 H locs hp31 hP hS => ?_)
            refine lv_iload_n hx hb dX5_missed_34 rfl (lv_at hl 2 rfl) ?_
            refine r_i (va_runS (As := [.int zq2]) (rest := [.int rq31, .ref qq27]) ⟨hx, hb, hml, hown, hts⟩ (k_X5_change l zq2) (va_cwS 1 hts gX5_missed_X5_change rfl rfl rfl (by decide +kernel) ⟨Nat.le_of_ble_eq_true rfl, Nat.le_of_ble_eq_true rfl⟩) (pPreS) rfl rfl hl.1 rfl (lv_room (Nat.le_of_ble_eq_true rfl)) dX5_missed_35 ⟨Nat.le_of_ble_eq_true rfl, Nat.le_of_ble_eq_true rfl⟩) hP hS (fun rq35 H locs hp35 hP hS => ?_)
            refine lv_iadd hx hb dX5_missed_38 ?_
            refine lv_topi (fun vq38 eq38 => ?_)
            refine r_i (va_runV (As := [.int vq38]) (rest := []) ⟨hx, hb, hml, hown, hts⟩ (k_X2_fits l hT g_q27 vq38) (cwV 1 hts gX5_missed_X2_fits rfl rfl rfl (by decide +kernel) ⟨Nat.le_of_ble_eq_true rfl, Nat.le_of_ble_eq_true rfl⟩) (rPreV (hT.rcv3 g_q27 hK hP) hP hK hD hN) rfl rfl hl.1 rfl (lv_room (Nat.le_of_ble_eq_true rfl)) dX5_missed_39 ⟨Nat.le_of_ble_eq_true rfl, Nat.le_of_ble_eq_true rfl⟩) hP hS (fun rq39 H locs hp39 hP hS => ?_)
            refine lv_if_eq (tgt := 48) hx hb dX5_missed_42 (by decide) (fun cq42 => ?_) (fun cq42 => ?_)
            · skip
              obtain ⟨vq48, eq48⟩ : ∃ y : Int32, y = zq3 + 1 := ⟨_, rfl⟩
              refine lv_iinc (v := vq48) (lv' := [(3, .int vq48), (0, .ref h0), (1, .int zq1), (2, .int zq2)]) hx hb dX5_missed_48 hl (k := 3) rfl (by rw [eq48]; rfl) (by decide) rfl (fun ls hl => ?_)
              refine lv_goto (tgt := 17) hx hb dX5_missed_51 (by decide) ?_
              exact ih17 _ _ zq1 vq48 hP hS (by first | exact i17_0 | exact iq_below cq12) (iq_up hm17 cq23 eq48) _ (lv_sub hl [1, 2, 3, 0] rfl)
            · skip
              obtain ⟨vq45, eq45⟩ : ∃ y : Int32, y = zq1 + 1 := ⟨_, rfl⟩
              refine lv_iinc (v := vq45) (lv' := [(1, .int vq45), (0, .ref h0), (2, .int zq2), (3, .int zq3)]) hx hb dX5_missed_45 hl (k := 1) rfl (by rw [eq45]; rfl) (by decide) rfl (fun ls hl => ?_)
              obtain ⟨vq48, eq48⟩ : ∃ y : Int32, y = zq3 + 1 := ⟨_, rfl⟩
              refine lv_iinc (v := vq48) (lv' := [(3, .int vq48), (1, .int vq45), (0, .ref h0), (2, .int zq2)]) hx hb dX5_missed_48 hl (k := 3) rfl (by rw [eq48]; rfl) (by decide) rfl (fun ls hl => ?_)
              refine lv_goto (tgt := 17) hx hb dX5_missed_51 (by decide) ?_
              exact ih17 _ _ vq45 vq48 hP hS (by first | exact i17_0 | exact iq_below cq12) (iq_up hm17 cq23 eq48) _ (lv_sub hl [2, 1, 3, 0] rfl)
      refine lv_iload_n hx hb dX5_missed_4 rfl (lv_at hl 2 rfl) ?_
      refine lv_aload_n hx hb dX5_missed_5 rfl (lv_at hl 0 rfl) ?_
      obtain ⟨kq6, qq6, rq6, tq6, uq6, vq6, hk6, g_q6, g_r6, g_t6, g_u6, g_v6⟩ := hT.k6 g_h0
      refine va_get (D := K.1) (ci := 5) (v := .ref qq6) (C := RX5) (T := TX5) (N := 5) hx hb hts hinX5 hown hK hP kq6 hk6 rfl 0 (by decide) (hts (.fieldLink RX5 10 "CodedWords" "code" "LCodedWords$Code;") (by decide +kernel)) (fun _ h9 => h9) rfl dX5_missed_6 ?_
      refine r_i (va_runV (As := []) (rest := [.int zq2]) ⟨hx, hb, hml, hown, hts⟩ (k_X2_strikeCount l hT g_q6) (cwV 0 hts gX5_missed_X2_strikeCount rfl rfl rfl (by decide +kernel) ⟨Nat.le_of_ble_eq_true rfl, Nat.le_of_ble_eq_true rfl⟩) (rPreV (hT.rcv3 g_q6 hK hP) hP hK hD hN) rfl rfl hl.1 rfl (lv_room (Nat.le_of_ble_eq_true rfl)) dX5_missed_9 ⟨Nat.le_of_ble_eq_true rfl, Nat.le_of_ble_eq_true rfl⟩) hP hS (fun rq9 H locs hp9 hP hS => ?_)
      refine lv_icmp_ge (tgt := 60) hx hb dX5_missed_12 (by decide) (fun cq12 => ?_) (fun cq12 => ?_)
      · skip
        refine lv_iload_n hx hb dX5_missed_60 rfl (lv_at hl 1 rfl) ?_
        exact W.iret (v := zq1) hx hb hr (fun t ht hW => ⟨⟨zq1, (), rfl, trivial, trivial⟩, hS.F ht⟩) hS.2.2 dX5_missed_61
      · skip
        refine lv_iconst (v := 0) hx hb dX5_missed_15 (by decide) ?_
        refine lv_istore_n (lv' := [(3, .int 0), (0, .ref h0), (1, .int zq1), (2, .int zq2)]) hx hb dX5_missed_16 rfl hl (by decide) rfl (fun ls hl => ?_)
        exact hJ17 ((2147483647 - (0 : Int32).toInt).toNat + 1) _ _ zq1 0 hP hS (by first | exact i17_0 | exact iq_below cq12) (Nat.lt_succ_self _) _ (lv_sub hl [1, 2, 3, 0] rfl)
  refine lv_iconst (v := 0) hx hb dX5_missed_0 (by decide) ?_
  refine lv_istore_n (lv' := [(1, .int 0), (0, .ref h0)]) hx hb dX5_missed_1 rfl hl (by decide) rfl (fun ls hl => ?_)
  refine lv_iconst (v := 2) hx hb dX5_missed_2 (by decide) ?_
  refine lv_istore_n (lv' := [(2, .int 2), (1, .int 0), (0, .ref h0)]) hx hb dX5_missed_3 rfl hl (by decide) rfl (fun ls hl => ?_)
  exact hJ4 ((2147483647 - (2 : Int32).toInt).toNat + 1) _ _ 0 2 hP hS (Nat.lt_succ_self _) _ (lv_sub hl [2, 1, 0] rfl)
abbrev rmX5_odds : Room := { frames := 4, cells := 0, slots := 0, locals := 93 }
set_option maxHeartbeats 4000000 in
set_option maxRecDepth 100000 in
theorem k_X5_odds (l : Launch) {K : Cx} {G0 : Nat → Nat} {w0 : va_W} (hT : TH K G0 w0) (sz : Nat) {h0 : Nat} (g_h0 : G0 h0 = 6) (pq1 : Int32) (pq2 : Int32)  : Ci l K yX5_odds wsX5_odds rmX5_odds 0 0 [.ref h0, .int pq1, .int pq2] G0 w0 sz (fun _ _ _ => True) := by
  refine Met.ofW (cc := cX5_odds) (maxL := 6) (ret := (some .int)) (by decide) rfl ?_
  intro p e s m args below meth c s₁ B hml hv
  obtain ⟨rfl, hsz, hP, hK, hD0, hN⟩ := hv
  have hx := B.exec
  have hb := B.bytes
  have hr := B.returns
  have hts := atoms_spec (ws := wsX5_odds) B.pre
  have hown : s.vm.findClass RX5 = some m.cls := findClass_of_methodNamed B.named
  have hlocks := B.notSynchronized
  have hinX2 : ∀ w ∈ wsX20, w ∈ wsX5_odds := by decide +kernel
  have hinX5 : ∀ w ∈ wsX50, w ∈ wsX5_odds := by decide +kernel
  subst hsz
  have hD := hD0.self (sz := s.heap.size)
  generalize hAe : va_A w0 s.heap.size = A at hD ⊢
  have hA : ∀ q : Nat, s.heap.size ≤ q → A q := fun q h => by rw [← hAe]; exact Or.inr h
  have hS : va_S A s.heap s.heap [] := va_S.rf
  have hG : gLe G0 G0 := gLe.rf
  have hl := lv_entry ([.ref h0, .int pq1, .int pq2]) (n := 6) (Nat.le_of_ble_eq_true rfl)
  rw [lg_entry_eq]
  generalize (lg_sl ([.ref h0, .int pq1, .int pq2]) ++ List.replicate (6 - (lg_sl ([.ref h0, .int pq1, .int pq2])).length) Slot.unset).toArray = ls at hl ⊢
  have hl : lv_has ls 6 [(0, .ref h0), (1, .int pq1), (2, .int pq2)] := hl
  have hJ51 : ∀ (n51 : Nat) (G : Nat → Nat) (w : va_W) (H : Heap) (locs : List Loc) (zq3 : Int32) (zq4 : Int32) (zq5 : Int32), (gLe G0 G) → (TH K G w) → (va_P K.1 vwCl w H) → (va_D A w) → (va_S A s.heap H locs) → (G h0 = 6) → ((2147483647 - zq5.toInt).toNat < n51) → ∀ (ls : Array Slot), lv_has ls 6 [(0, .ref h0), (1, .int pq1), (2, .int pq2), (3, .int zq3), (4, .int zq4), (5, .int zq5)] → W p l e rmX5_odds s m [.ref h0, .int pq1, .int pq2].toArray below meth c H locs 0 0 (MQ below (va_Qi (fun (r : Int32) (u : (Nat → Nat) × va_W) => (fun _ _ _ => True) r u.1 u.2 ∧ gLe G0 u.1 ∧ TH (K) u.1 u.2) (fun u t => va_P K.1 vwCl u.2 t.heap ∧ va_D A u.2) A) [.ref h0, .int pq1, .int pq2].toArray s 0 0 A) (F0 m 51 ls []) := by
    intro n51
    induction n51 with
    | zero =>
      intro G w H locs zq3 zq4 zq5 hG hT hP hD hS g_h0 hm51 ls hl
      exact absurd hm51 (Nat.not_lt_zero _)
    | succ n51 ih51 =>
      intro G w H locs zq3 zq4 zq5 hG hT hP hD hS g_h0 hm51 ls hl
      refine lv_iload hx hb dX5_odds_51 (lv_at hl 5 rfl) ?_
      refine lv_iload_n hx hb dX5_odds_53 rfl (lv_at hl 1 rfl) ?_
      refine lv_icmp_ge (tgt := 75) hx hb dX5_odds_54 (by decide) (fun cq54 => ?_) (fun cq54 => ?_)
      · skip
        refine lv_iload_n hx hb dX5_odds_75 rfl (lv_at hl 2 rfl) ?_
        refine lv_if_ne (tgt := 84) hx hb dX5_odds_76 (by decide) (fun cq76 => ?_) (fun cq76 => ?_)
        · skip
          refine lv_iload hx hb dX5_odds_84 (lv_at hl 4 rfl) ?_
          refine lv_i2l (v := (zq4 : Int32).toInt64) hx hb dX5_odds_86 rfl ?_
          refine lv_topl (fun vq86 eq86 => ?_)
          refine lv_iload_n hx hb dX5_odds_87 rfl (lv_at hl 3 rfl) ?_
          refine lv_iload hx hb dX5_odds_88 (lv_at hl 4 rfl) ?_
          refine r_i (va_runS (As := [.int zq3, .int zq4]) (rest := [.long vq86]) ⟨hx, hb, hml, hown, hts⟩ (k_X5_commonDivisor l zq3 zq4) (va_cwS 2 hts gX5_odds_X5_commonDivisor rfl rfl rfl (by decide +kernel) ⟨Nat.le_of_ble_eq_true rfl, Nat.le_of_ble_eq_true rfl⟩) (pPreS) rfl rfl hl.1 rfl (lv_room (Nat.le_of_ble_eq_true rfl)) dX5_odds_90 ⟨Nat.le_of_ble_eq_true rfl, Nat.le_of_ble_eq_true rfl⟩) hP hS (fun rq90 H locs hp90 hP hS => ?_)
          refine r_l (va_runS (As := [.long vq86, .int rq90]) (rest := []) ⟨hx, hb, hml, hown, hts⟩ (k_X5_cut l vq86 rq90) (va_cwS 2 hts gX5_odds_X5_cut rfl rfl rfl (by decide +kernel) ⟨Nat.le_of_ble_eq_true rfl, Nat.le_of_ble_eq_true rfl⟩) (pPreS) rfl rfl hl.1 rfl (lv_room (Nat.le_of_ble_eq_true rfl)) dX5_odds_93 ⟨Nat.le_of_ble_eq_true rfl, Nat.le_of_ble_eq_true rfl⟩) hP hS (fun rq93 H locs hp93 hP hS => ?_)
          refine lv_l2i (v := (rq93 : Int64).toInt32) hx hb dX5_odds_96 rfl ?_
          refine lv_topi (fun vq96 eq96 => ?_)
          exact W.iret (v := vq96) hx hb hr (fun t ht hW => ⟨⟨vq96, (G, w), rfl, ⟨trivial, hG, hT⟩, by rw [ht]; exact hP, hD⟩, hS.F ht⟩) hS.2.2 dX5_odds_97
        · skip
          refine lv_iload_n hx hb dX5_odds_79 rfl (lv_at hl 3 rfl) ?_
          refine lv_i2l (v := (zq3 : Int32).toInt64) hx hb dX5_odds_80 rfl ?_
          refine lv_topl (fun vq80 eq80 => ?_)
          refine lv_goto (tgt := 87) hx hb dX5_odds_81 (by decide) ?_
          refine lv_iload_n hx hb dX5_odds_87 rfl (lv_at hl 3 rfl) ?_
          refine lv_iload hx hb dX5_odds_88 (lv_at hl 4 rfl) ?_
          refine r_i (va_runS (As := [.int zq3, .int zq4]) (rest := [.long vq80]) ⟨hx, hb, hml, hown, hts⟩ (k_X5_commonDivisor l zq3 zq4) (va_cwS 2 hts gX5_odds_X5_commonDivisor rfl rfl rfl (by decide +kernel) ⟨Nat.le_of_ble_eq_true rfl, Nat.le_of_ble_eq_true rfl⟩) (pPreS) rfl rfl hl.1 rfl (lv_room (Nat.le_of_ble_eq_true rfl)) dX5_odds_90 ⟨Nat.le_of_ble_eq_true rfl, Nat.le_of_ble_eq_true rfl⟩) hP hS (fun rq90 H locs hp90 hP hS => ?_)
          refine r_l (va_runS (As := [.long vq80, .int rq90]) (rest := []) ⟨hx, hb, hml, hown, hts⟩ (k_X5_cut l vq80 rq90) (va_cwS 2 hts gX5_odds_X5_cut rfl rfl rfl (by decide +kernel) ⟨Nat.le_of_ble_eq_true rfl, Nat.le_of_ble_eq_true rfl⟩) (pPreS) rfl rfl hl.1 rfl (lv_room (Nat.le_of_ble_eq_true rfl)) dX5_odds_93 ⟨Nat.le_of_ble_eq_true rfl, Nat.le_of_ble_eq_true rfl⟩) hP hS (fun rq93 H locs hp93 hP hS => ?_)
          refine lv_l2i (v := (rq93 : Int64).toInt32) hx hb dX5_odds_96 rfl ?_
          refine lv_topi (fun vq96 eq96 => ?_)
          exact W.iret (v := vq96) hx hb hr (fun t ht hW => ⟨⟨vq96, (G, w), rfl, ⟨trivial, hG, hT⟩, by rw [ht]; exact hP, hD⟩, hS.F ht⟩) hS.2.2 dX5_odds_97
      · skip
        refine lv_iload hx hb dX5_odds_57 (lv_at hl 4 rfl) ?_
        refine lv_aload_n hx hb dX5_odds_59 rfl (lv_at hl 0 rfl) ?_
        obtain ⟨kq60, qq60, rq60, tq60, uq60, vq60, hk60, g_q60, g_r60, g_t60, g_u60, g_v60⟩ := hT.k6 g_h0
        refine va_get (D := K.1) (ci := 5) (v := .ref qq60) (C := RX5) (T := TX5) (N := 5) hx hb hts hinX5 hown hK hP kq60 hk60 rfl 0 (by decide) (hts (.fieldLink RX5 10 "CodedWords" "code" "LCodedWords$Code;") (by decide +kernel)) (fun _ h9 => h9) rfl dX5_odds_60 ?_
        refine r_i (va_runV (As := []) (rest := [.int zq4]) ⟨hx, hb, hml, hown, hts⟩ (k_X2_strikeCount l hT g_q60) (cwV 0 hts gX5_odds_X2_strikeCount rfl rfl rfl (by decide +kernel) ⟨Nat.le_of_ble_eq_true rfl, Nat.le_of_ble_eq_true rfl⟩) (rPreV (hT.rcv3 g_q60 hK hP) hP hK hD hN) rfl rfl hl.1 rfl (lv_room (Nat.le_of_ble_eq_true rfl)) dX5_odds_63 ⟨Nat.le_of_ble_eq_true rfl, Nat.le_of_ble_eq_true rfl⟩) hP hS (fun rq63 H locs hp63 hP hS => ?_)
        refine lv_imul hx hb dX5_odds_66 ?_
        refine lv_topi (fun vq66 eq66 => ?_)
        refine lv_istore (lv' := [(4, .int vq66), (0, .ref h0), (1, .int pq1), (2, .int pq2), (3, .int zq3), (5, .int zq5)]) hx hb dX5_odds_67 hl (by decide) rfl (fun ls hl => ?_)
        obtain ⟨vq69, eq69⟩ : ∃ y : Int32, y = zq5 + 1 := ⟨_, rfl⟩
        refine lv_iinc (v := vq69) (lv' := [(5, .int vq69), (4, .int vq66), (0, .ref h0), (1, .int pq1), (2, .int pq2), (3, .int zq3)]) hx hb dX5_odds_69 hl (k := 5) rfl (by rw [eq69]; rfl) (by decide) rfl (fun ls hl => ?_)
        refine lv_goto (tgt := 51) hx hb dX5_odds_72 (by decide) ?_
        exact ih51 _ _ _ _ zq3 vq66 vq69 hG hT hP hD hS g_h0 (iq_up hm51 cq54 eq69) _ (lv_sub hl [2, 3, 4, 5, 1, 0] rfl)
  refine lv_iload_n hx hb dX5_odds_0 rfl (lv_at hl 1 rfl) ?_
  refine lv_iconst (v := 1) hx hb dX5_odds_1 (by decide) ?_
  refine lv_icmp_lt (tgt := 19) hx hb dX5_odds_2 (by decide) (fun cq2 => ?_) (fun cq2 => ?_)
  · skip
    refine lv_ldc (v := (-1000001)) hx hb hown (hts (.constant RX5 51 (-1000001)) (by decide +kernel)) dX5_odds_19 ?_
    exact W.iret (v := (-1000001)) hx hb hr (fun t ht hW => ⟨⟨(-1000001), (G0, w0), rfl, ⟨trivial, hG, hT⟩, by rw [ht]; exact hP, hD⟩, hS.F ht⟩) hS.2.2 dX5_odds_21
  · skip
    refine lv_iload_n hx hb dX5_odds_5 rfl (lv_at hl 1 rfl) ?_
    refine lv_iconst (v := 4) hx hb dX5_odds_6 (by decide) ?_
    refine lv_icmp_gt (tgt := 19) hx hb dX5_odds_7 (by decide) (fun cq7 => ?_) (fun cq7 => ?_)
    · skip
      refine lv_ldc (v := (-1000001)) hx hb hown (hts (.constant RX5 51 (-1000001)) (by decide +kernel)) dX5_odds_19 ?_
      exact W.iret (v := (-1000001)) hx hb hr (fun t ht hW => ⟨⟨(-1000001), (G0, w0), rfl, ⟨trivial, hG, hT⟩, by rw [ht]; exact hP, hD⟩, hS.F ht⟩) hS.2.2 dX5_odds_21
    · skip
      refine lv_iload_n hx hb dX5_odds_10 rfl (lv_at hl 2 rfl) ?_
      refine lv_if_lt (tgt := 19) hx hb dX5_odds_11 (by decide) (fun cq11 => ?_) (fun cq11 => ?_)
      · skip
        refine lv_ldc (v := (-1000001)) hx hb hown (hts (.constant RX5 51 (-1000001)) (by decide +kernel)) dX5_odds_19 ?_
        exact W.iret (v := (-1000001)) hx hb hr (fun t ht hW => ⟨⟨(-1000001), (G0, w0), rfl, ⟨trivial, hG, hT⟩, by rw [ht]; exact hP, hD⟩, hS.F ht⟩) hS.2.2 dX5_odds_21
      · skip
        refine lv_iload_n hx hb dX5_odds_14 rfl (lv_at hl 2 rfl) ?_
        refine lv_iconst (v := 1) hx hb dX5_odds_15 (by decide) ?_
        refine lv_icmp_le (tgt := 22) hx hb dX5_odds_16 (by decide) (fun cq16 => ?_) (fun cq16 => ?_)
        · skip
          refine lv_aload_n hx hb dX5_odds_22 rfl (lv_at hl 0 rfl) ?_
          obtain ⟨kq23, qq23, rq23, tq23, uq23, vq23, hk23, g_q23, g_r23, g_t23, g_u23, g_v23⟩ := hT.k6 g_h0
          refine va_get (D := K.1) (ci := 5) (v := .ref vq23) (C := RX5) (T := TX5) (N := 5) hx hb hts hinX5 hown hK hP kq23 hk23 rfl 4 (by decide) (hts (.fieldLink RX5 40 "CodedWords" "chances" "LCodedWords$Chances;") (by decide +kernel)) (fun _ h9 => h9) rfl dX5_odds_23 ?_
          refine lv_iload_n hx hb dX5_odds_26 rfl (lv_at hl 1 rfl) ?_
          refine lv_aload_n hx hb dX5_odds_27 rfl (lv_at hl 0 rfl) ?_
          refine va_get (D := K.1) (ci := 5) (v := .ref qq23) (C := RX5) (T := TX5) (N := 5) hx hb hts hinX5 hown hK hP kq23 hk23 rfl 0 (by decide) (hts (.fieldLink RX5 10 "CodedWords" "code" "LCodedWords$Code;") (by decide +kernel)) (fun _ h9 => h9) rfl dX5_odds_28 ?_
          obtain ⟨kq31, xq31, yq31, qq31, rq31, hk31, g_q31, g_r31⟩ := hT.k3 g_q23
          refine va_getN (host := RX5) (D := K.1) (ci := 2) (v := .int xq31) (C := RX2) (T := TX2) (N := 4) hx hb hts hinX2 hown hK hP kq31 hk31 rfl 0 (by decide) (hN.f (by decide +kernel)) (fun _ h9 => h9) rfl dX5_odds_31 ?_
          refine lv_aload_n hx hb dX5_odds_34 rfl (lv_at hl 0 rfl) ?_
          refine va_get (D := K.1) (ci := 5) (v := .ref qq23) (C := RX5) (T := TX5) (N := 5) hx hb hts hinX5 hown hK hP kq23 hk23 rfl 0 (by decide) (hts (.fieldLink RX5 10 "CodedWords" "code" "LCodedWords$Code;") (by decide +kernel)) (fun _ h9 => h9) rfl dX5_odds_35 ?_
          refine va_getN (host := RX5) (D := K.1) (ci := 2) (v := .int yq31) (C := RX2) (T := TX2) (N := 4) hx hb hts hinX2 hown hK hP kq31 hk31 rfl 1 (by decide) (hN.f (by decide +kernel)) (fun _ h9 => h9) rfl dX5_odds_38 ?_
          refine c_i (K := K) (K2 := K) (G := G0) (w := w0) (post := fun _ _ _ => True) (va_runV (mc := 0) (ms := 0) (rm := rmX1_waysToFit) (As := [.int pq1, .int xq31, .int yq31]) (rest := []) ⟨hx, hb, hml, hown, hts⟩ (k_X1_waysToFit l hT s.heap.size g_v23 pq1 xq31 yq31) (cwV 3 hts gX5_odds_X1_waysToFit rfl rfl rfl (by decide +kernel) ⟨Nat.le_of_ble_eq_true rfl, Nat.le_of_ble_eq_true rfl⟩) (kPreV (hT.rcv2 g_v23 hK hP) hP hK hD hN) rfl rfl hl.1 rfl (lv_room (Nat.le_of_ble_eq_true rfl)) dX5_odds_41 ⟨Nat.le_of_ble_eq_true rfl, Nat.le_of_ble_eq_true rfl⟩) hD hS hA (fun rq41 G w H locs hp41 hg hT hP hD hS => ?_)
          have hG := hG.tr hg
          have g_h0 := hg.at g_h0 (by decide)
          refine lv_istore_n (lv' := [(3, .int rq41), (0, .ref h0), (1, .int pq1), (2, .int pq2)]) hx hb dX5_odds_44 rfl hl (by decide) rfl (fun ls hl => ?_)
          refine lv_iconst (v := 1) hx hb dX5_odds_45 (by decide) ?_
          refine lv_istore (lv' := [(4, .int 1), (3, .int rq41), (0, .ref h0), (1, .int pq1), (2, .int pq2)]) hx hb dX5_odds_46 hl (by decide) rfl (fun ls hl => ?_)
          refine lv_iconst (v := 0) hx hb dX5_odds_48 (by decide) ?_
          refine lv_istore (lv' := [(5, .int 0), (4, .int 1), (3, .int rq41), (0, .ref h0), (1, .int pq1), (2, .int pq2)]) hx hb dX5_odds_49 hl (by decide) rfl (fun ls hl => ?_)
          exact hJ51 ((2147483647 - (0 : Int32).toInt).toNat + 1) _ _ _ _ rq41 1 0 hG hT hP hD hS g_h0 (Nat.lt_succ_self _) _ (lv_sub hl [3, 4, 5, 2, 1, 0] rfl)
        · skip
          refine lv_ldc (v := (-1000001)) hx hb hown (hts (.constant RX5 51 (-1000001)) (by decide +kernel)) dX5_odds_19 ?_
          exact W.iret (v := (-1000001)) hx hb hr (fun t ht hW => ⟨⟨(-1000001), (G0, w0), rfl, ⟨trivial, hG, hT⟩, by rw [ht]; exact hP, hD⟩, hS.F ht⟩) hS.2.2 dX5_odds_21
abbrev rmX5_sees : Room := { frames := 1, cells := 0, slots := 0, locals := 22 }
set_option maxHeartbeats 4000000 in
set_option maxRecDepth 100000 in
theorem k_X5_sees (l : Launch) {K : Cx} {G0 : Nat → Nat} {w0 : va_W} (hT : TH K G0 w0) (sz : Nat) {h0 : Nat} (g_h0 : G0 h0 = 6) (pq1 : Int32) (pq2 : Int32)  : CiK l K (Kw K (seN (snK K) pq1 pq2)) yX5_sees wsX5_sees rmX5_sees 0 0 [.ref h0, .int pq1, .int pq2] G0 w0 sz (fun (r : Int32) _ _ => seA (snK K) pq1 pq2 r) := by
  refine Met.ofW (cc := cX5_sees) (maxL := 3) (ret := (some .int)) (by decide) rfl ?_
  intro p e s m args below meth c s₁ B hml hv
  obtain ⟨rfl, hsz, hP, hK, hD0, hN⟩ := hv
  have hx := B.exec
  have hb := B.bytes
  have hr := B.returns
  have hts := atoms_spec (ws := wsX5_sees) B.pre
  have hown : s.vm.findClass RX5 = some m.cls := findClass_of_methodNamed B.named
  have hlocks := B.notSynchronized
  have hinX4 : ∀ w ∈ wsX40, w ∈ wsX5_sees := by decide +kernel
  have hinX5 : ∀ w ∈ wsX50, w ∈ wsX5_sees := by decide +kernel
  subst hsz
  have hD := hD0.self (sz := s.heap.size)
  generalize hAe : va_A w0 s.heap.size = A at hD ⊢
  have hA : ∀ q : Nat, s.heap.size ≤ q → A q := fun q h => by rw [← hAe]; exact Or.inr h
  have hS : va_S A s.heap s.heap [] := va_S.rf
  have hG : gLe G0 G0 := gLe.rf
  have hl := lv_entry ([.ref h0, .int pq1, .int pq2]) (n := 3) (Nat.le_of_ble_eq_true rfl)
  rw [lg_entry_eq]
  generalize (lg_sl ([.ref h0, .int pq1, .int pq2]) ++ List.replicate (3 - (lg_sl ([.ref h0, .int pq1, .int pq2])).length) Slot.unset).toArray = ls at hl ⊢
  have hl : lv_has ls 3 [(0, .ref h0), (1, .int pq1), (2, .int pq2)] := hl
  refine lv_iload_n hx hb dX5_sees_0 rfl (lv_at hl 1 rfl) ?_
  refine lv_iconst (v := 1) hx hb dX5_sees_1 (by decide) ?_
  refine lv_icmp_lt (tgt := 21) hx hb dX5_sees_2 (by decide) (fun cq2 => ?_) (fun cq2 => ?_)
  · skip
    refine lv_ldc (v := (-1000001)) hx hb hown (hts (.constant RX5 51 (-1000001)) (by decide +kernel)) dX5_sees_21 ?_
    exact W.iret (v := (-1000001)) hx hb hr (fun t ht hW => ⟨⟨(-1000001), (G0, w0), rfl, ⟨Or.inl ⟨by first | exact (fun h => by rw [iq_lt] at cq2; exact absurd cq2 (Int.not_lt.mpr h.1.1)) | exact (fun h => by rw [iq_lt] at cq9; exact absurd cq9 (Int.not_lt.mpr h.1.2)) | exact (fun h => by rw [iq_lt] at cq13; exact absurd cq13 (Int.not_lt.mpr h.2.1)) | exact (fun h => by rw [iq_le] at cq18; exact absurd h.2.2 cq18), rfl⟩, hG, seN_bad hT (by first | exact (fun h => by rw [iq_lt] at cq2; exact absurd cq2 (Int.not_lt.mpr h.1.1)) | exact (fun h => by rw [iq_lt] at cq9; exact absurd cq9 (Int.not_lt.mpr h.1.2)) | exact (fun h => by rw [iq_lt] at cq13; exact absurd cq13 (Int.not_lt.mpr h.2.1)) | exact (fun h => by rw [iq_le] at cq18; exact absurd h.2.2 cq18))⟩, by rw [ht]; exact hP, hD⟩, hS.F ht⟩) hS.2.2 dX5_sees_23
  · skip
    refine lv_iload_n hx hb dX5_sees_5 rfl (lv_at hl 1 rfl) ?_
    refine lv_sipush (v := 9999) hx hb dX5_sees_6 (by decide) ?_
    refine lv_icmp_gt (tgt := 21) hx hb dX5_sees_9 (by decide) (fun cq9 => ?_) (fun cq9 => ?_)
    · skip
      refine lv_ldc (v := (-1000001)) hx hb hown (hts (.constant RX5 51 (-1000001)) (by decide +kernel)) dX5_sees_21 ?_
      exact W.iret (v := (-1000001)) hx hb hr (fun t ht hW => ⟨⟨(-1000001), (G0, w0), rfl, ⟨Or.inl ⟨by first | exact (fun h => by rw [iq_lt] at cq2; exact absurd cq2 (Int.not_lt.mpr h.1.1)) | exact (fun h => by rw [iq_lt] at cq9; exact absurd cq9 (Int.not_lt.mpr h.1.2)) | exact (fun h => by rw [iq_lt] at cq13; exact absurd cq13 (Int.not_lt.mpr h.2.1)) | exact (fun h => by rw [iq_le] at cq18; exact absurd h.2.2 cq18), rfl⟩, hG, seN_bad hT (by first | exact (fun h => by rw [iq_lt] at cq2; exact absurd cq2 (Int.not_lt.mpr h.1.1)) | exact (fun h => by rw [iq_lt] at cq9; exact absurd cq9 (Int.not_lt.mpr h.1.2)) | exact (fun h => by rw [iq_lt] at cq13; exact absurd cq13 (Int.not_lt.mpr h.2.1)) | exact (fun h => by rw [iq_le] at cq18; exact absurd h.2.2 cq18))⟩, by rw [ht]; exact hP, hD⟩, hS.F ht⟩) hS.2.2 dX5_sees_23
    · skip
      refine lv_iload_n hx hb dX5_sees_12 rfl (lv_at hl 2 rfl) ?_
      refine lv_if_lt (tgt := 21) hx hb dX5_sees_13 (by decide) (fun cq13 => ?_) (fun cq13 => ?_)
      · skip
        refine lv_ldc (v := (-1000001)) hx hb hown (hts (.constant RX5 51 (-1000001)) (by decide +kernel)) dX5_sees_21 ?_
        exact W.iret (v := (-1000001)) hx hb hr (fun t ht hW => ⟨⟨(-1000001), (G0, w0), rfl, ⟨Or.inl ⟨by first | exact (fun h => by rw [iq_lt] at cq2; exact absurd cq2 (Int.not_lt.mpr h.1.1)) | exact (fun h => by rw [iq_lt] at cq9; exact absurd cq9 (Int.not_lt.mpr h.1.2)) | exact (fun h => by rw [iq_lt] at cq13; exact absurd cq13 (Int.not_lt.mpr h.2.1)) | exact (fun h => by rw [iq_le] at cq18; exact absurd h.2.2 cq18), rfl⟩, hG, seN_bad hT (by first | exact (fun h => by rw [iq_lt] at cq2; exact absurd cq2 (Int.not_lt.mpr h.1.1)) | exact (fun h => by rw [iq_lt] at cq9; exact absurd cq9 (Int.not_lt.mpr h.1.2)) | exact (fun h => by rw [iq_lt] at cq13; exact absurd cq13 (Int.not_lt.mpr h.2.1)) | exact (fun h => by rw [iq_le] at cq18; exact absurd h.2.2 cq18))⟩, by rw [ht]; exact hP, hD⟩, hS.F ht⟩) hS.2.2 dX5_sees_23
      · skip
        refine lv_iload_n hx hb dX5_sees_16 rfl (lv_at hl 2 rfl) ?_
        refine lv_iconst (v := 1) hx hb dX5_sees_17 (by decide) ?_
        refine lv_icmp_le (tgt := 24) hx hb dX5_sees_18 (by decide) (fun cq18 => ?_) (fun cq18 => ?_)
        · skip
          have hse := (⟨⟨by rw [iq_lt] at cq2; exact Int.not_lt.mp cq2, by rw [iq_lt] at cq9; exact Int.not_lt.mp cq9⟩, by rw [iq_lt] at cq13; exact Int.not_lt.mp cq13, by rw [iq_le] at cq18; exact cq18⟩ : isSe pq1 pq2)
          refine lv_aload_n hx hb dX5_sees_24 rfl (lv_at hl 0 rfl) ?_
          obtain ⟨kq25, qq25, rq25, tq25, uq25, vq25, hk25, g_q25, g_r25, g_t25, g_u25, g_v25⟩ := hT.k6 g_h0
          refine va_get (D := K.1) (ci := 5) (v := .ref uq25) (C := RX5) (T := TX5) (N := 5) hx hb hts hinX5 hown hK hP kq25 hk25 rfl 3 (by decide) (hts (.fieldLink RX5 33 "CodedWords" "search" "LCodedWords$Search;") (by decide +kernel)) (fun _ h9 => h9) rfl dX5_sees_25 ?_
          refine lv_iload_n hx hb dX5_sees_28 rfl (lv_at hl 1 rfl) ?_
          refine lv_iload_n hx hb dX5_sees_29 rfl (lv_at hl 2 rfl) ?_
          refine c_i (K := K) (K2 := Kw K (noN (snK K) pq1 pq2)) (G := G0) (w := w0) (post := fun (r : Int32) _ _ => (r = 1 ∧ (snK K).1.toInt < 6) ∨ (r = 0 ∧ ¬ (snK K).1.toInt < 6)) (va_runV (mc := 0) (ms := 0) (rm := rmX4_note) (As := [.int pq1, .int pq2]) (rest := []) ⟨hx, hb, hml, hown, hts⟩ (k_X4_note l hT s.heap.size g_u25 pq1 pq2 (hse.1.1) (hse.1.2) (isSe.bit hse)) (cwV 2 hts gX5_sees_X4_note rfl rfl rfl (by decide +kernel) ⟨Nat.le_of_ble_eq_true rfl, Nat.le_of_ble_eq_true rfl⟩) (kPreV (hT.rcv5 g_u25 hK hP) hP hK hD hN) rfl rfl hl.1 rfl (lv_room (Nat.le_of_ble_eq_true rfl)) dX5_sees_30 ⟨Nat.le_of_ble_eq_true rfl, Nat.le_of_ble_eq_true rfl⟩) hD hS hA (fun rq30 G w H locs hp30 hg hT hP hD hS => ?_)
          have hG := hG.tr hg
          have g_h0 := hg.at g_h0 (by decide)
          refine lv_if_eq (tgt := 46) hx hb dX5_sees_33 (by decide) (fun cq33 => ?_) (fun cq33 => ?_)
          · skip
            refine lv_ldc (v := (-1000003)) hx hb hown (hts (.constant RX5 183 (-1000003)) (by decide +kernel)) dX5_sees_46 ?_
            exact W.iret (v := (-1000003)) hx hb hr (fun t ht hW => ⟨⟨(-1000003), (G, w), rfl, ⟨by first | (obtain ⟨hs9, -⟩ := hT.seen hD g_u37 hk40; exact seA_more hse hp30 cq33 hs9) | exact seA_full hse hp30 cq33, hG, seN_ok hT hse⟩, by rw [ht]; exact hP, hD⟩, hS.F ht⟩) hS.2.2 dX5_sees_48
          · skip
            refine lv_aload_n hx hb dX5_sees_36 rfl (lv_at hl 0 rfl) ?_
            obtain ⟨kq37, qq37, rq37, tq37, uq37, vq37, hk37, g_q37, g_r37, g_t37, g_u37, g_v37⟩ := hT.k6 g_h0
            refine va_get (D := K.1) (ci := 5) (v := .ref uq37) (C := RX5) (T := TX5) (N := 5) hx hb hts hinX5 hown hK hP kq37 hk37 rfl 3 (by decide) (hts (.fieldLink RX5 33 "CodedWords" "search" "LCodedWords$Search;") (by decide +kernel)) (fun _ h9 => h9) rfl dX5_sees_37 ?_
            obtain ⟨kq40, qq40, rq40, tq40, xq40, hk40, g_q40, g_r40, g_t40⟩ := hT.k5 g_u37
            refine va_getN (host := RX5) (D := K.1) (ci := 4) (v := .int xq40) (C := RX4) (T := TX4) (N := 4) hx hb hts hinX4 hown hK hP kq40 hk40 rfl 3 (by decide) (hN.f (by decide +kernel)) (fun _ h9 => h9) rfl dX5_sees_40 ?_
            refine lv_goto (tgt := 48) hx hb dX5_sees_43 (by decide) ?_
            exact W.iret (v := xq40) hx hb hr (fun t ht hW => ⟨⟨xq40, (G, w), rfl, ⟨by first | (obtain ⟨hs9, -⟩ := hT.seen hD g_u37 hk40; exact seA_more hse hp30 cq33 hs9) | exact seA_full hse hp30 cq33, hG, seN_ok hT hse⟩, by rw [ht]; exact hP, hD⟩, hS.F ht⟩) hS.2.2 dX5_sees_48
        · skip
          refine lv_ldc (v := (-1000001)) hx hb hown (hts (.constant RX5 51 (-1000001)) (by decide +kernel)) dX5_sees_21 ?_
          exact W.iret (v := (-1000001)) hx hb hr (fun t ht hW => ⟨⟨(-1000001), (G0, w0), rfl, ⟨Or.inl ⟨by first | exact (fun h => by rw [iq_lt] at cq2; exact absurd cq2 (Int.not_lt.mpr h.1.1)) | exact (fun h => by rw [iq_lt] at cq9; exact absurd cq9 (Int.not_lt.mpr h.1.2)) | exact (fun h => by rw [iq_lt] at cq13; exact absurd cq13 (Int.not_lt.mpr h.2.1)) | exact (fun h => by rw [iq_le] at cq18; exact absurd h.2.2 cq18), rfl⟩, hG, seN_bad hT (by first | exact (fun h => by rw [iq_lt] at cq2; exact absurd cq2 (Int.not_lt.mpr h.1.1)) | exact (fun h => by rw [iq_lt] at cq9; exact absurd cq9 (Int.not_lt.mpr h.1.2)) | exact (fun h => by rw [iq_lt] at cq13; exact absurd cq13 (Int.not_lt.mpr h.2.1)) | exact (fun h => by rw [iq_le] at cq18; exact absurd h.2.2 cq18))⟩, by rw [ht]; exact hP, hD⟩, hS.F ht⟩) hS.2.2 dX5_sees_23
abbrev rmX5_forget : Room := { frames := 0, cells := 0, slots := 0, locals := 0 }
set_option maxHeartbeats 4000000 in
set_option maxRecDepth 100000 in
theorem k_X5_forget (l : Launch) {K : Cx} {G0 : Nat → Nat} {w0 : va_W} (hT : TH K G0 w0) (sz : Nat) {h0 : Nat} (g_h0 : G0 h0 = 6)  : CiK l K (Kw K (0, (snK K).2.1, (snK K).2.2)) yX5_forget wsX5_forget rmX5_forget 0 0 [.ref h0] G0 w0 sz (fun (r : Int32) _ _ => r = (snK K).1) := by
  refine Met.ofW (cc := cX5_forget) (maxL := 2) (ret := (some .int)) (by decide) rfl ?_
  intro p e s m args below meth c s₁ B hml hv
  obtain ⟨rfl, hsz, hP, hK, hD0, hN⟩ := hv
  have hx := B.exec
  have hb := B.bytes
  have hr := B.returns
  have hts := atoms_spec (ws := wsX5_forget) B.pre
  have hown : s.vm.findClass RX5 = some m.cls := findClass_of_methodNamed B.named
  have hlocks := B.notSynchronized
  have hinX4 : ∀ w ∈ wsX40, w ∈ wsX5_forget := by decide +kernel
  have hinX5 : ∀ w ∈ wsX50, w ∈ wsX5_forget := by decide +kernel
  subst hsz
  have hD := hD0.self (sz := s.heap.size)
  generalize hAe : va_A w0 s.heap.size = A at hD ⊢
  have hA : ∀ q : Nat, s.heap.size ≤ q → A q := fun q h => by rw [← hAe]; exact Or.inr h
  have hS : va_S A s.heap s.heap [] := va_S.rf
  have hG : gLe G0 G0 := gLe.rf
  have hl := lv_entry ([.ref h0]) (n := 2) (Nat.le_of_ble_eq_true rfl)
  rw [lg_entry_eq]
  generalize (lg_sl ([.ref h0]) ++ List.replicate (2 - (lg_sl ([.ref h0])).length) Slot.unset).toArray = ls at hl ⊢
  have hl : lv_has ls 2 [(0, .ref h0)] := hl
  refine lv_aload_n hx hb dX5_forget_0 rfl (lv_at hl 0 rfl) ?_
  obtain ⟨kq1, qq1, rq1, tq1, uq1, vq1, hk1, g_q1, g_r1, g_t1, g_u1, g_v1⟩ := hT.k6 g_h0
  refine va_get (D := K.1) (ci := 5) (v := .ref uq1) (C := RX5) (T := TX5) (N := 5) hx hb hts hinX5 hown hK hP kq1 hk1 rfl 3 (by decide) (hts (.fieldLink RX5 33 "CodedWords" "search" "LCodedWords$Search;") (by decide +kernel)) (fun _ h9 => h9) rfl dX5_forget_1 ?_
  obtain ⟨kq4, qq4, rq4, tq4, xq4, hk4, g_q4, g_r4, g_t4⟩ := hT.k5 g_u1
  refine va_getN (host := RX5) (D := K.1) (ci := 4) (v := .int xq4) (C := RX4) (T := TX4) (N := 4) hx hb hts hinX4 hown hK hP kq4 hk4 rfl 3 (by decide) (hN.f (by decide +kernel)) (fun _ h9 => h9) rfl dX5_forget_4 ?_
  obtain ⟨hsx, hsn⟩ := hT.seen hD g_u1 hk4
  refine lv_istore_n (lv' := [(1, .int xq4), (0, .ref h0)]) hx hb dX5_forget_7 rfl hl (by decide) rfl (fun ls hl => ?_)
  refine lv_aload_n hx hb dX5_forget_8 rfl (lv_at hl 1 rfl) ?_
  refine va_get (D := K.1) (ci := 5) (v := .ref uq1) (C := RX5) (T := TX5) (N := 5) hx hb hts hinX5 hown hK hP kq1 hk1 rfl 3 (by decide) (hts (.fieldLink RX5 33 "CodedWords" "search" "LCodedWords$Search;") (by decide +kernel)) (fun _ h9 => h9) rfl dX5_forget_9 ?_
  refine lv_iconst (v := 0) hx hb dX5_forget_12 (by decide) ?_
  obtain ⟨kq13, qq13, rq13, tq13, xq13, hk13, g_q13, g_r13, g_t13⟩ := hT.k5 g_u1
  refine t_putN5 (host := RX5) (K := K) (ci := 4) (v := .int 0) (ty := .int) (C := RX4) (T := TX4) (N := 4) (n := (0, (snK K).2.1, (snK K).2.2)) hx hb hts hinX4 tyX4 tyX4_ok nmX4 hown hK hP hD hS hT kq13 hk13 rfl 3 (by decide) (hN.f (by decide +kernel)) (fun _ h9 => h9) rfl (by decide +kernel) rfl rfl (Nat.le_of_ble_eq_true rfl) g_u1 (fun _ => okN.fg hsn) rfl rfl (⟨_, _, _, _, rfl, g_q13, g_r13, g_t13, rfl, okN.fg hsn⟩) dX5_forget_13 (fun w H locs hT hP hD hS hnw hkp => ?_)
  have hT : TH (Kw K ((0, (snK K).2.1, (snK K).2.2))) G0 w := hT
  refine lv_iload_n hx hb dX5_forget_16 rfl (lv_at hl 0 rfl) ?_
  exact W.iret (v := xq4) hx hb hr (fun t ht hW => ⟨⟨xq4, (G0, w), rfl, ⟨hsx, hG, hT⟩, by rw [ht]; exact hP, hD⟩, hS.F ht⟩) hS.2.2 dX5_forget_17
abbrev rmX5_unseen : Room := { frames := 5, cells := 0, slots := 0, locals := 108 }
set_option maxHeartbeats 4000000 in
set_option maxRecDepth 100000 in
theorem k_X5_unseen (l : Launch) {K : Cx} {G0 : Nat → Nat} {w0 : va_W} (hT : TH K G0 w0) (sz : Nat) {h0 : Nat} (g_h0 : G0 h0 = 6) (pq1 : Int32)  : Ci l K yX5_unseen wsX5_unseen rmX5_unseen 0 0 [.ref h0, .int pq1] G0 w0 sz (fun (r : Int32) _ _ => unA (snK K) pq1 r) := by
  refine Met.ofW (cc := cX5_unseen) (maxL := 2) (ret := (some .int)) (by decide) rfl ?_
  intro p e s m args below meth c s₁ B hml hv
  obtain ⟨rfl, hsz, hP, hK, hD0, hN⟩ := hv
  have hx := B.exec
  have hb := B.bytes
  have hr := B.returns
  have hts := atoms_spec (ws := wsX5_unseen) B.pre
  have hown : s.vm.findClass RX5 = some m.cls := findClass_of_methodNamed B.named
  have hlocks := B.notSynchronized
  have hinX5 : ∀ w ∈ wsX50, w ∈ wsX5_unseen := by decide +kernel
  subst hsz
  have hD := hD0.self (sz := s.heap.size)
  generalize hAe : va_A w0 s.heap.size = A at hD ⊢
  have hA : ∀ q : Nat, s.heap.size ≤ q → A q := fun q h => by rw [← hAe]; exact Or.inr h
  have hS : va_S A s.heap s.heap [] := va_S.rf
  have hG : gLe G0 G0 := gLe.rf
  have hl := lv_entry ([.ref h0, .int pq1]) (n := 2) (Nat.le_of_ble_eq_true rfl)
  rw [lg_entry_eq]
  generalize (lg_sl ([.ref h0, .int pq1]) ++ List.replicate (2 - (lg_sl ([.ref h0, .int pq1])).length) Slot.unset).toArray = ls at hl ⊢
  have hl : lv_has ls 2 [(0, .ref h0), (1, .int pq1)] := hl
  refine lv_iload_n hx hb dX5_unseen_0 rfl (lv_at hl 1 rfl) ?_
  rcases (show (pq1.toInt ≠ 0 ∧ pq1.toInt ≠ 1) ∨ pq1.toInt = 0 ∨ pq1.toInt = 1 by omega) with tq1 | tq1 | tq1
  · skip
    refine lv_lookup (off := 43) (tgt := 44) hx hb dX5_unseen_1 (by decide) (by simp [Op.lookupswitch.offset, List.find?, tq1.1.symm, tq1.2.symm, Ne.symm tq1.1, Ne.symm tq1.2]) (by decide) ?_
    refine lv_ldc (v := (-1000001)) hx hb hown (hts (.constant RX5 51 (-1000001)) (by decide +kernel)) dX5_unseen_44 ?_
    exact W.iret (v := (-1000001)) hx hb hr (fun t ht hW => ⟨⟨(-1000001), (G0, w0), rfl, ⟨Or.inl ⟨fun q => q.elim tq1.1 tq1.2, rfl⟩, hG, hT⟩, by rw [ht]; exact hP, hD⟩, hS.F ht⟩) hS.2.2 dX5_unseen_46
  · skip
    refine lv_lookup (off := 27) (tgt := 28) hx hb dX5_unseen_1 (by decide) (by rw [tq1]; rfl) (by decide) ?_
    refine lv_aload_n hx hb dX5_unseen_28 rfl (lv_at hl 0 rfl) ?_
    obtain ⟨kq29, qq29, rq29, tq29, uq29, vq29, hk29, g_q29, g_r29, g_t29, g_u29, g_v29⟩ := hT.k6 g_h0
    refine va_get (D := K.1) (ci := 5) (v := .ref uq29) (C := RX5) (T := TX5) (N := 5) hx hb hts hinX5 hown hK hP kq29 hk29 rfl 3 (by decide) (hts (.fieldLink RX5 33 "CodedWords" "search" "LCodedWords$Search;") (by decide +kernel)) (fun _ h9 => h9) rfl dX5_unseen_29 ?_
    refine c_i (K := K) (K2 := K) (G := G0) (w := w0) (post := fun (r : Int32) _ w1 => goA K w1 uq29 r) (va_runV (mc := 0) (ms := 0) (rm := rmX4_gatherOpen) (As := []) (rest := []) ⟨hx, hb, hml, hown, hts⟩ (k_X4_gatherOpen l hT s.heap.size g_u29) (cwV 0 hts gX5_unseen_X4_gatherOpen rfl rfl rfl (by decide +kernel) ⟨Nat.le_of_ble_eq_true rfl, Nat.le_of_ble_eq_true rfl⟩) (kPreV (hT.rcv5 g_u29 hK hP) hP hK hD hN) rfl rfl hl.1 rfl (lv_room (Nat.le_of_ble_eq_true rfl)) dX5_unseen_32 ⟨Nat.le_of_ble_eq_true rfl, Nat.le_of_ble_eq_true rfl⟩) hD hS hA (fun rq32 G w H locs hp32 hg hT hP hD hS => ?_)
    have hG := hG.tr hg
    have g_h0 := hg.at g_h0 (by decide)
    exact W.iret (v := rq32) hx hb hr (fun t ht hW => ⟨⟨rq32, (G, w), rfl, ⟨Or.inr (Or.inl ⟨tq1, hp32.1⟩), hG, hT⟩, by rw [ht]; exact hP, hD⟩, hS.F ht⟩) hS.2.2 dX5_unseen_35
  · skip
    refine lv_lookup (off := 35) (tgt := 36) hx hb dX5_unseen_1 (by decide) (by rw [tq1]; rfl) (by decide) ?_
    refine lv_aload_n hx hb dX5_unseen_36 rfl (lv_at hl 0 rfl) ?_
    obtain ⟨kq37, qq37, rq37, tq37, uq37, vq37, hk37, g_q37, g_r37, g_t37, g_u37, g_v37⟩ := hT.k6 g_h0
    refine va_get (D := K.1) (ci := 5) (v := .ref uq37) (C := RX5) (T := TX5) (N := 5) hx hb hts hinX5 hown hK hP kq37 hk37 rfl 3 (by decide) (hts (.fieldLink RX5 33 "CodedWords" "search" "LCodedWords$Search;") (by decide +kernel)) (fun _ h9 => h9) rfl dX5_unseen_37 ?_
    refine c_i (K := K) (K2 := K) (G := G0) (w := w0) (post := fun (r : Int32) _ _ => loA (snK K) r) (va_runV (mc := 0) (ms := 0) (rm := rmX4_leastOpen) (As := []) (rest := []) ⟨hx, hb, hml, hown, hts⟩ (k_X4_leastOpen l hT s.heap.size g_u37) (cwV 0 hts gX5_unseen_X4_leastOpen rfl rfl rfl (by decide +kernel) ⟨Nat.le_of_ble_eq_true rfl, Nat.le_of_ble_eq_true rfl⟩) (kPreV (hT.rcv5 g_u37 hK hP) hP hK hD hN) rfl rfl hl.1 rfl (lv_room (Nat.le_of_ble_eq_true rfl)) dX5_unseen_40 ⟨Nat.le_of_ble_eq_true rfl, Nat.le_of_ble_eq_true rfl⟩) hD hS hA (fun rq40 G w H locs hp40 hg hT hP hD hS => ?_)
    have hG := hG.tr hg
    have g_h0 := hg.at g_h0 (by decide)
    exact W.iret (v := rq40) hx hb hr (fun t ht hW => ⟨⟨rq40, (G, w), rfl, ⟨Or.inr (Or.inr ⟨tq1, hp40⟩), hG, hT⟩, by rw [ht]; exact hP, hD⟩, hS.F ht⟩) hS.2.2 dX5_unseen_43
abbrev rmX5_next : Room := { frames := 5, cells := 0, slots := 0, locals := 114 }
set_option maxHeartbeats 4000000 in
set_option maxRecDepth 100000 in
theorem k_X5_next (l : Launch) {K : Cx} {G0 : Nat → Nat} {w0 : va_W} (hT : TH K G0 w0) (sz : Nat) {h0 : Nat} (g_h0 : G0 h0 = 6)  : Ci l K yX5_next wsX5_next rmX5_next 0 0 [.ref h0] G0 w0 sz (fun (r : Int32) _ _ => nxA (snK K) r) := by
  refine Met.ofW (cc := cX5_next) (maxL := 1) (ret := (some .int)) (by decide) rfl ?_
  intro p e s m args below meth c s₁ B hml hv
  obtain ⟨rfl, hsz, hP, hK, hD0, hN⟩ := hv
  have hx := B.exec
  have hb := B.bytes
  have hr := B.returns
  have hts := atoms_spec (ws := wsX5_next) B.pre
  have hown : s.vm.findClass RX5 = some m.cls := findClass_of_methodNamed B.named
  have hlocks := B.notSynchronized
  have hinX5 : ∀ w ∈ wsX50, w ∈ wsX5_next := by decide +kernel
  subst hsz
  have hD := hD0.self (sz := s.heap.size)
  generalize hAe : va_A w0 s.heap.size = A at hD ⊢
  have hA : ∀ q : Nat, s.heap.size ≤ q → A q := fun q h => by rw [← hAe]; exact Or.inr h
  have hS : va_S A s.heap s.heap [] := va_S.rf
  have hG : gLe G0 G0 := gLe.rf
  have hl := lv_entry ([.ref h0]) (n := 1) (Nat.le_of_ble_eq_true rfl)
  rw [lg_entry_eq]
  generalize (lg_sl ([.ref h0]) ++ List.replicate (1 - (lg_sl ([.ref h0])).length) Slot.unset).toArray = ls at hl ⊢
  have hl : lv_has ls 1 [(0, .ref h0)] := hl
  refine lv_aload_n hx hb dX5_next_0 rfl (lv_at hl 0 rfl) ?_
  obtain ⟨kq1, qq1, rq1, tq1, uq1, vq1, hk1, g_q1, g_r1, g_t1, g_u1, g_v1⟩ := hT.k6 g_h0
  refine va_get (D := K.1) (ci := 5) (v := .ref uq1) (C := RX5) (T := TX5) (N := 5) hx hb hts hinX5 hown hK hP kq1 hk1 rfl 3 (by decide) (hts (.fieldLink RX5 33 "CodedWords" "search" "LCodedWords$Search;") (by decide +kernel)) (fun _ h9 => h9) rfl dX5_next_1 ?_
  refine c_i (K := K) (K2 := K) (G := G0) (w := w0) (post := fun (r : Int32) _ _ => nxA (snK K) r) (va_runV (mc := 0) (ms := 0) (rm := rmX4_bestTry) (As := []) (rest := []) ⟨hx, hb, hml, hown, hts⟩ (k_X4_bestTry l hT s.heap.size g_u1) (cwV 0 hts gX5_next_X4_bestTry rfl rfl rfl (by decide +kernel) ⟨Nat.le_of_ble_eq_true rfl, Nat.le_of_ble_eq_true rfl⟩) (kPreV (hT.rcv5 g_u1 hK hP) hP hK hD hN) rfl rfl hl.1 rfl (lv_room (Nat.le_of_ble_eq_true rfl)) dX5_next_4 ⟨Nat.le_of_ble_eq_true rfl, Nat.le_of_ble_eq_true rfl⟩) hD hS hA (fun rq4 G w H locs hp4 hg hT hP hD hS => ?_)
  have hG := hG.tr hg
  have g_h0 := hg.at g_h0 (by decide)
  exact W.iret (v := rq4) hx hb hr (fun t ht hW => ⟨⟨rq4, (G, w), rfl, ⟨hp4, hG, hT⟩, by rw [ht]; exact hP, hD⟩, hS.F ht⟩) hS.2.2 dX5_next_7
abbrev rmX5_back : Room := { frames := 4, cells := 0, slots := 0, locals := 88 }
set_option maxHeartbeats 4000000 in
set_option maxRecDepth 100000 in
theorem k_X5_back (l : Launch) {K : Cx} {G0 : Nat → Nat} {w0 : va_W} (hT : TH K G0 w0) (sz : Nat) {h0 : Nat} (g_h0 : G0 h0 = 6) (pq1 : Int32)  : Ci l K yX5_back wsX5_back rmX5_back 0 0 [.ref h0, .int pq1] G0 w0 sz (fun _ _ _ => True) := by
  refine Met.ofW (cc := cX5_back) (maxL := 2) (ret := (some .int)) (by decide) rfl ?_
  intro p e s m args below meth c s₁ B hml hv
  obtain ⟨rfl, hsz, hP, hK, hD0, hN⟩ := hv
  have hx := B.exec
  have hb := B.bytes
  have hr := B.returns
  have hts := atoms_spec (ws := wsX5_back) B.pre
  have hown : s.vm.findClass RX5 = some m.cls := findClass_of_methodNamed B.named
  have hlocks := B.notSynchronized
  have hinX2 : ∀ w ∈ wsX20, w ∈ wsX5_back := by decide +kernel
  have hinX5 : ∀ w ∈ wsX50, w ∈ wsX5_back := by decide +kernel
  subst hsz
  have hD := hD0.self (sz := s.heap.size)
  generalize hAe : va_A w0 s.heap.size = A at hD ⊢
  have hA : ∀ q : Nat, s.heap.size ≤ q → A q := fun q h => by rw [← hAe]; exact Or.inr h
  have hS : va_S A s.heap s.heap [] := va_S.rf
  have hG : gLe G0 G0 := gLe.rf
  have hl := lv_entry ([.ref h0, .int pq1]) (n := 2) (Nat.le_of_ble_eq_true rfl)
  rw [lg_entry_eq]
  generalize (lg_sl ([.ref h0, .int pq1]) ++ List.replicate (2 - (lg_sl ([.ref h0, .int pq1])).length) Slot.unset).toArray = ls at hl ⊢
  have hl : lv_has ls 2 [(0, .ref h0), (1, .int pq1)] := hl
  refine lv_iload_n hx hb dX5_back_0 rfl (lv_at hl 1 rfl) ?_
  refine r_i (va_runS (As := [.int pq1]) (rest := []) ⟨hx, hb, hml, hown, hts⟩ (k_X5_isImage l pq1) (va_cwS 1 hts gX5_back_X5_isImage rfl rfl rfl (by decide +kernel) ⟨Nat.le_of_ble_eq_true rfl, Nat.le_of_ble_eq_true rfl⟩) (pPreS) rfl rfl hl.1 rfl (lv_room (Nat.le_of_ble_eq_true rfl)) dX5_back_1 ⟨Nat.le_of_ble_eq_true rfl, Nat.le_of_ble_eq_true rfl⟩) hP hS (fun rq1 H locs hp1 hP hS => ?_)
  refine lv_if_ne (tgt := 10) hx hb dX5_back_4 (by decide) (fun cq4 => ?_) (fun cq4 => ?_)
  · skip
    refine lv_aload_n hx hb dX5_back_10 rfl (lv_at hl 0 rfl) ?_
    obtain ⟨kq11, qq11, rq11, tq11, uq11, vq11, hk11, g_q11, g_r11, g_t11, g_u11, g_v11⟩ := hT.k6 g_h0
    refine va_get (D := K.1) (ci := 5) (v := .ref tq11) (C := RX5) (T := TX5) (N := 5) hx hb hts hinX5 hown hK hP kq11 hk11 rfl 2 (by decide) (hts (.fieldLink RX5 26 "CodedWords" "album" "LCodedWords$Album;") (by decide +kernel)) (fun _ h9 => h9) rfl dX5_back_11 ?_
    refine lv_iload_n hx hb dX5_back_14 rfl (lv_at hl 1 rfl) ?_
    refine lv_aload_n hx hb dX5_back_15 rfl (lv_at hl 0 rfl) ?_
    refine va_get (D := K.1) (ci := 5) (v := .ref qq11) (C := RX5) (T := TX5) (N := 5) hx hb hts hinX5 hown hK hP kq11 hk11 rfl 0 (by decide) (hts (.fieldLink RX5 10 "CodedWords" "code" "LCodedWords$Code;") (by decide +kernel)) (fun _ h9 => h9) rfl dX5_back_16 ?_
    refine c_i (K := K) (K2 := K) (G := G0) (w := w0) (post := fun _ _ _ => True) (va_runV (mc := 0) (ms := 0) (rm := rmX0_fetch) (As := [.int pq1, .ref qq11]) (rest := []) ⟨hx, hb, hml, hown, hts⟩ (k_X0_fetch l hT H.size g_t11 pq1 g_q11) (cwV 2 hts gX5_back_X0_fetch rfl rfl rfl (by decide +kernel) ⟨Nat.le_of_ble_eq_true rfl, Nat.le_of_ble_eq_true rfl⟩) (kPreV (hT.rcv1 g_t11 hK hP) hP hK hD hN) rfl rfl hl.1 rfl (lv_room (Nat.le_of_ble_eq_true rfl)) dX5_back_19 ⟨Nat.le_of_ble_eq_true rfl, Nat.le_of_ble_eq_true rfl⟩) hD hS hA (fun rq19 G w H locs hp19 hg hT hP hD hS => ?_)
    have hG := hG.tr hg
    have g_h0 := hg.at g_h0 (by decide)
    refine lv_if_ne (tgt := 28) hx hb dX5_back_22 (by decide) (fun cq22 => ?_) (fun cq22 => ?_)
    · skip
      refine lv_aload_n hx hb dX5_back_28 rfl (lv_at hl 0 rfl) ?_
      obtain ⟨kq29, qq29, rq29, tq29, uq29, vq29, hk29, g_q29, g_r29, g_t29, g_u29, g_v29⟩ := hT.k6 g_h0
      refine va_get (D := K.1) (ci := 5) (v := .ref rq29) (C := RX5) (T := TX5) (N := 5) hx hb hts hinX5 hown hK hP kq29 hk29 rfl 1 (by decide) (hts (.fieldLink RX5 19 "CodedWords" "past" "LCodedWords$Past;") (by decide +kernel)) (fun _ h9 => h9) rfl dX5_back_29 ?_
      refine c_v (K := K) (K2 := K) (G := G) (w := w) (post := fun _ _ => True) (va_runV (mc := 0) (ms := 0) (rm := rmX3_lose) (As := []) (rest := []) ⟨hx, hb, hml, hown, hts⟩ (k_X3_lose l hT H.size g_r29) (cwV 0 hts gX5_back_X3_lose rfl rfl rfl (by decide +kernel) ⟨Nat.le_of_ble_eq_true rfl, Nat.le_of_ble_eq_true rfl⟩) (kPreV (hT.rcv4 g_r29 hK hP) hP hK hD hN) rfl rfl hl.1 rfl (lv_room (Nat.le_of_ble_eq_true rfl)) dX5_back_32 ⟨Nat.le_of_ble_eq_true rfl, Nat.le_of_ble_eq_true rfl⟩) hD hS hA (fun G w H locs hp32 hg hT hP hD hS => ?_)
      have hG := hG.tr hg
      have g_h0 := hg.at g_h0 (by decide)
      refine lv_aload_n hx hb dX5_back_35 rfl (lv_at hl 0 rfl) ?_
      obtain ⟨kq36, qq36, rq36, tq36, uq36, vq36, hk36, g_q36, g_r36, g_t36, g_u36, g_v36⟩ := hT.k6 g_h0
      refine va_get (D := K.1) (ci := 5) (v := .ref qq36) (C := RX5) (T := TX5) (N := 5) hx hb hts hinX5 hown hK hP kq36 hk36 rfl 0 (by decide) (hts (.fieldLink RX5 10 "CodedWords" "code" "LCodedWords$Code;") (by decide +kernel)) (fun _ h9 => h9) rfl dX5_back_36 ?_
      obtain ⟨kq39, xq39, yq39, qq39, rq39, hk39, g_q39, g_r39⟩ := hT.k3 g_q36
      refine va_getN (host := RX5) (D := K.1) (ci := 2) (v := .int xq39) (C := RX2) (T := TX2) (N := 4) hx hb hts hinX2 hown hK hP kq39 hk39 rfl 0 (by decide) (hN.f (by decide +kernel)) (fun _ h9 => h9) rfl dX5_back_39 ?_
      exact W.iret (v := xq39) hx hb hr (fun t ht hW => ⟨⟨xq39, (G, w), rfl, ⟨trivial, hG, hT⟩, by rw [ht]; exact hP, hD⟩, hS.F ht⟩) hS.2.2 dX5_back_42
    · skip
      refine lv_ldc (v := (-1000002)) hx hb hown (hts (.constant RX5 89 (-1000002)) (by decide +kernel)) dX5_back_25 ?_
      exact W.iret (v := (-1000002)) hx hb hr (fun t ht hW => ⟨⟨(-1000002), (G, w), rfl, ⟨trivial, hG, hT⟩, by rw [ht]; exact hP, hD⟩, hS.F ht⟩) hS.2.2 dX5_back_27
  · skip
    refine lv_ldc (v := (-1000001)) hx hb hown (hts (.constant RX5 51 (-1000001)) (by decide +kernel)) dX5_back_7 ?_
    exact W.iret (v := (-1000001)) hx hb hr (fun t ht hW => ⟨⟨(-1000001), (G0, w0), rfl, ⟨trivial, hG, hT⟩, by rw [ht]; exact hP, hD⟩, hS.F ht⟩) hS.2.2 dX5_back_9
abbrev rmX5_count : Room := { frames := 6, cells := 0, slots := 0, locals := 129 }
set_option maxHeartbeats 4000000 in
set_option maxRecDepth 100000 in
theorem k_X5_count (l : Launch) {K : Cx} {G0 : Nat → Nat} {w0 : va_W} (hT : TH K G0 w0) {h0 : Nat} (g_h0 : G0 h0 = 6) (pq1 : Int32)  : Ri l K yX5_count wsX5_count rmX5_count [.ref h0, .int pq1] w0 (fun _ => True) := by
  refine Met.ofW (cc := cX5_count) (maxL := 2) (ret := (some .int)) (by decide) rfl ?_
  intro p e s m args below meth c s₁ B hml hv
  obtain ⟨rfl, hP, hK, hD, hN⟩ := hv
  have hx := B.exec
  have hb := B.bytes
  have hr := B.returns
  have hts := atoms_spec (ws := wsX5_count) B.pre
  have hown : s.vm.findClass RX5 = some m.cls := findClass_of_methodNamed B.named
  have hlocks := B.notSynchronized
  have hinX2 : ∀ w ∈ wsX20, w ∈ wsX5_count := by decide +kernel
  have hinX3 : ∀ w ∈ wsX30, w ∈ wsX5_count := by decide +kernel
  have hinX4 : ∀ w ∈ wsX40, w ∈ wsX5_count := by decide +kernel
  have hinX5 : ∀ w ∈ wsX50, w ∈ wsX5_count := by decide +kernel
  have hS : va_S (fun _ => False) s.heap s.heap [] := va_S.rf
  have hl := lv_entry ([.ref h0, .int pq1]) (n := 2) (Nat.le_of_ble_eq_true rfl)
  rw [lg_entry_eq]
  generalize (lg_sl ([.ref h0, .int pq1]) ++ List.replicate (2 - (lg_sl ([.ref h0, .int pq1])).length) Slot.unset).toArray = ls at hl ⊢
  have hl : lv_has ls 2 [(0, .ref h0), (1, .int pq1)] := hl
  refine lv_iload_n hx hb dX5_count_0 rfl (lv_at hl 1 rfl) ?_
  rcases (show (pq1.toInt < 0 ∨ 6 < pq1.toInt) ∨ pq1.toInt = 0 ∨ pq1.toInt = 1 ∨ pq1.toInt = 2 ∨ pq1.toInt = 3 ∨ pq1.toInt = 4 ∨ pq1.toInt = 5 ∨ pq1.toInt = 6 by omega) with tq1 | tq1 | tq1 | tq1 | tq1 | tq1 | tq1 | tq1
  · skip
    refine lv_tableOut (tgt := 100) hx hb dX5_count_1 tq1 (by decide) ?_
    refine lv_ldc (v := (-1000001)) hx hb hown (hts (.constant RX5 51 (-1000001)) (by decide +kernel)) dX5_count_100 ?_
    exact W.iret (v := (-1000001)) hx hb hr (fun t ht hW => ⟨⟨(-1000001), (), rfl, trivial, trivial⟩, hS.F ht⟩) hS.2.2 dX5_count_102
  · skip
    refine lv_tableIn (off := 43) (tgt := 44) hx hb dX5_count_1 (by omega) (by omega) (by rw [tq1]; rfl) (by decide) ?_
    refine lv_aload_n hx hb dX5_count_44 rfl (lv_at hl 0 rfl) ?_
    obtain ⟨kq45, qq45, rq45, tq45, uq45, vq45, hk45, g_q45, g_r45, g_t45, g_u45, g_v45⟩ := hT.k6 g_h0
    refine va_get (D := K.1) (ci := 5) (v := .ref qq45) (C := RX5) (T := TX5) (N := 5) hx hb hts hinX5 hown hK hP kq45 hk45 rfl 0 (by decide) (hts (.fieldLink RX5 10 "CodedWords" "code" "LCodedWords$Code;") (by decide +kernel)) (fun _ h9 => h9) rfl dX5_count_45 ?_
    obtain ⟨kq48, xq48, yq48, qq48, rq48, hk48, g_q48, g_r48⟩ := hT.k3 g_q45
    refine va_getN (host := RX5) (D := K.1) (ci := 2) (v := .int xq48) (C := RX2) (T := TX2) (N := 4) hx hb hts hinX2 hown hK hP kq48 hk48 rfl 0 (by decide) (hN.f (by decide +kernel)) (fun _ h9 => h9) rfl dX5_count_48 ?_
    exact W.iret (v := xq48) hx hb hr (fun t ht hW => ⟨⟨xq48, (), rfl, trivial, trivial⟩, hS.F ht⟩) hS.2.2 dX5_count_51
  · skip
    refine lv_tableIn (off := 51) (tgt := 52) hx hb dX5_count_1 (by omega) (by omega) (by rw [tq1]; rfl) (by decide) ?_
    refine lv_aload_n hx hb dX5_count_52 rfl (lv_at hl 0 rfl) ?_
    obtain ⟨kq53, qq53, rq53, tq53, uq53, vq53, hk53, g_q53, g_r53, g_t53, g_u53, g_v53⟩ := hT.k6 g_h0
    refine va_get (D := K.1) (ci := 5) (v := .ref qq53) (C := RX5) (T := TX5) (N := 5) hx hb hts hinX5 hown hK hP kq53 hk53 rfl 0 (by decide) (hts (.fieldLink RX5 10 "CodedWords" "code" "LCodedWords$Code;") (by decide +kernel)) (fun _ h9 => h9) rfl dX5_count_53 ?_
    obtain ⟨kq56, xq56, yq56, qq56, rq56, hk56, g_q56, g_r56⟩ := hT.k3 g_q53
    refine va_getN (host := RX5) (D := K.1) (ci := 2) (v := .int yq56) (C := RX2) (T := TX2) (N := 4) hx hb hts hinX2 hown hK hP kq56 hk56 rfl 1 (by decide) (hN.f (by decide +kernel)) (fun _ h9 => h9) rfl dX5_count_56 ?_
    exact W.iret (v := yq56) hx hb hr (fun t ht hW => ⟨⟨yq56, (), rfl, trivial, trivial⟩, hS.F ht⟩) hS.2.2 dX5_count_59
  · skip
    refine lv_tableIn (off := 59) (tgt := 60) hx hb dX5_count_1 (by omega) (by omega) (by rw [tq1]; rfl) (by decide) ?_
    refine lv_aload_n hx hb dX5_count_60 rfl (lv_at hl 0 rfl) ?_
    obtain ⟨kq61, qq61, rq61, tq61, uq61, vq61, hk61, g_q61, g_r61, g_t61, g_u61, g_v61⟩ := hT.k6 g_h0
    refine va_get (D := K.1) (ci := 5) (v := .ref qq61) (C := RX5) (T := TX5) (N := 5) hx hb hts hinX5 hown hK hP kq61 hk61 rfl 0 (by decide) (hts (.fieldLink RX5 10 "CodedWords" "code" "LCodedWords$Code;") (by decide +kernel)) (fun _ h9 => h9) rfl dX5_count_61 ?_
    refine r_i (va_runV (As := []) (rest := []) ⟨hx, hb, hml, hown, hts⟩ (k_X2_top l hT g_q61) (cwV 0 hts gX5_count_X2_top rfl rfl rfl (by decide +kernel) ⟨Nat.le_of_ble_eq_true rfl, Nat.le_of_ble_eq_true rfl⟩) (rPreV (hT.rcv3 g_q61 hK hP) hP hK hD hN) rfl rfl hl.1 rfl (lv_room (Nat.le_of_ble_eq_true rfl)) dX5_count_64 ⟨Nat.le_of_ble_eq_true rfl, Nat.le_of_ble_eq_true rfl⟩) hP hS (fun rq64 H locs hp64 hP hS => ?_)
    exact W.iret (v := rq64) hx hb hr (fun t ht hW => ⟨⟨rq64, (), rfl, trivial, trivial⟩, hS.F ht⟩) hS.2.2 dX5_count_67
  · skip
    refine lv_tableIn (off := 67) (tgt := 68) hx hb dX5_count_1 (by omega) (by omega) (by rw [tq1]; rfl) (by decide) ?_
    refine lv_aload_n hx hb dX5_count_68 rfl (lv_at hl 0 rfl) ?_
    obtain ⟨kq69, qq69, rq69, tq69, uq69, vq69, hk69, g_q69, g_r69, g_t69, g_u69, g_v69⟩ := hT.k6 g_h0
    refine va_get (D := K.1) (ci := 5) (v := .ref qq69) (C := RX5) (T := TX5) (N := 5) hx hb hts hinX5 hown hK hP kq69 hk69 rfl 0 (by decide) (hts (.fieldLink RX5 10 "CodedWords" "code" "LCodedWords$Code;") (by decide +kernel)) (fun _ h9 => h9) rfl dX5_count_69 ?_
    refine r_i (va_runV (As := []) (rest := []) ⟨hx, hb, hml, hown, hts⟩ (k_X2_reach l hT g_q69) (cwV 0 hts gX5_count_X2_reach rfl rfl rfl (by decide +kernel) ⟨Nat.le_of_ble_eq_true rfl, Nat.le_of_ble_eq_true rfl⟩) (rPreV (hT.rcv3 g_q69 hK hP) hP hK hD hN) rfl rfl hl.1 rfl (lv_room (Nat.le_of_ble_eq_true rfl)) dX5_count_72 ⟨Nat.le_of_ble_eq_true rfl, Nat.le_of_ble_eq_true rfl⟩) hP hS (fun rq72 H locs hp72 hP hS => ?_)
    exact W.iret (v := rq72) hx hb hr (fun t ht hW => ⟨⟨rq72, (), rfl, trivial, trivial⟩, hS.F ht⟩) hS.2.2 dX5_count_75
  · skip
    refine lv_tableIn (off := 75) (tgt := 76) hx hb dX5_count_1 (by omega) (by omega) (by rw [tq1]; rfl) (by decide) ?_
    refine lv_aload_n hx hb dX5_count_76 rfl (lv_at hl 0 rfl) ?_
    obtain ⟨kq77, qq77, rq77, tq77, uq77, vq77, hk77, g_q77, g_r77, g_t77, g_u77, g_v77⟩ := hT.k6 g_h0
    refine va_get (D := K.1) (ci := 5) (v := .ref qq77) (C := RX5) (T := TX5) (N := 5) hx hb hts hinX5 hown hK hP kq77 hk77 rfl 0 (by decide) (hts (.fieldLink RX5 10 "CodedWords" "code" "LCodedWords$Code;") (by decide +kernel)) (fun _ h9 => h9) rfl dX5_count_77 ?_
    refine r_i (va_runV (As := []) (rest := []) ⟨hx, hb, hml, hown, hts⟩ (k_X2_registersRight l hT g_q77) (cwV 0 hts gX5_count_X2_registersRight rfl rfl rfl (by decide +kernel) ⟨Nat.le_of_ble_eq_true rfl, Nat.le_of_ble_eq_true rfl⟩) (rPreV (hT.rcv3 g_q77 hK hP) hP hK hD hN) rfl rfl hl.1 rfl (lv_room (Nat.le_of_ble_eq_true rfl)) dX5_count_80 ⟨Nat.le_of_ble_eq_true rfl, Nat.le_of_ble_eq_true rfl⟩) hP hS (fun rq80 H locs hp80 hP hS => ?_)
    exact W.iret (v := rq80) hx hb hr (fun t ht hW => ⟨⟨rq80, (), rfl, trivial, trivial⟩, hS.F ht⟩) hS.2.2 dX5_count_83
  · skip
    refine lv_tableIn (off := 83) (tgt := 84) hx hb dX5_count_1 (by omega) (by omega) (by rw [tq1]; rfl) (by decide) ?_
    refine lv_aload_n hx hb dX5_count_84 rfl (lv_at hl 0 rfl) ?_
    obtain ⟨kq85, qq85, rq85, tq85, uq85, vq85, hk85, g_q85, g_r85, g_t85, g_u85, g_v85⟩ := hT.k6 g_h0
    refine va_get (D := K.1) (ci := 5) (v := .ref uq85) (C := RX5) (T := TX5) (N := 5) hx hb hts hinX5 hown hK hP kq85 hk85 rfl 3 (by decide) (hts (.fieldLink RX5 33 "CodedWords" "search" "LCodedWords$Search;") (by decide +kernel)) (fun _ h9 => h9) rfl dX5_count_85 ?_
    obtain ⟨kq88, qq88, rq88, tq88, xq88, hk88, g_q88, g_r88, g_t88⟩ := hT.k5 g_u85
    refine va_getN (host := RX5) (D := K.1) (ci := 4) (v := .int xq88) (C := RX4) (T := TX4) (N := 4) hx hb hts hinX4 hown hK hP kq88 hk88 rfl 3 (by decide) (hN.f (by decide +kernel)) (fun _ h9 => h9) rfl dX5_count_88 ?_
    exact W.iret (v := xq88) hx hb hr (fun t ht hW => ⟨⟨xq88, (), rfl, trivial, trivial⟩, hS.F ht⟩) hS.2.2 dX5_count_91
  · skip
    refine lv_tableIn (off := 91) (tgt := 92) hx hb dX5_count_1 (by omega) (by omega) (by rw [tq1]; rfl) (by decide) ?_
    refine lv_aload_n hx hb dX5_count_92 rfl (lv_at hl 0 rfl) ?_
    obtain ⟨kq93, qq93, rq93, tq93, uq93, vq93, hk93, g_q93, g_r93, g_t93, g_u93, g_v93⟩ := hT.k6 g_h0
    refine va_get (D := K.1) (ci := 5) (v := .ref rq93) (C := RX5) (T := TX5) (N := 5) hx hb hts hinX5 hown hK hP kq93 hk93 rfl 1 (by decide) (hts (.fieldLink RX5 19 "CodedWords" "past" "LCodedWords$Past;") (by decide +kernel)) (fun _ h9 => h9) rfl dX5_count_93 ?_
    obtain ⟨kq96, qq96, xq96, yq96, hk96, g_q96⟩ := hT.k4 g_r93
    refine va_getN (host := RX5) (D := K.1) (ci := 3) (v := .int yq96) (C := RX3) (T := TX3) (N := 3) hx hb hts hinX3 hown hK hP kq96 hk96 rfl 2 (by decide) (hN.f (by decide +kernel)) (fun _ h9 => h9) rfl dX5_count_96 ?_
    exact W.iret (v := yq96) hx hb hr (fun t ht hW => ⟨⟨yq96, (), rfl, trivial, trivial⟩, hS.F ht⟩) hS.2.2 dX5_count_99

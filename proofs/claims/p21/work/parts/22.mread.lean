abbrev rmX6_top : Room := { frames := 0, cells := 0, slots := 0, locals := 0 }
set_option maxHeartbeats 4000000 in
set_option maxRecDepth 100000 in
theorem k_X6_top (l : Launch) {K : Cx} {a : Nat → Nat} {th um sm : Int32} {sA uA kA iA wA fA cA : Nat → Int32} {yA tA : Nat → Int64} (hMS : okS sA)   : Ri l K yX6_top wsX6_top rmX6_top [.ref (a 0)] (mW K a th um sm sA uA kA iA wA fA cA yA tA) (fun r => r = mTop sA) := by
  refine Met.ofW (cc := cX6_top) (maxL := 1) (ret := (some .int)) (by decide) rfl ?_
  intro p e s m args below meth c s₁ B hml hv
  obtain ⟨rfl, hP, hK, hD, hN⟩ := hv
  have hx := B.exec
  have hb := B.bytes
  have hr := B.returns
  have hts := atoms_spec (ws := wsX6_top) B.pre
  have hown : s.vm.findClass RX6 = some m.cls := findClass_of_methodNamed B.named
  have hlocks := B.notSynchronized
  have hinX6 : ∀ w ∈ wsX60, w ∈ wsX6_top := by decide +kernel
  have hS : va_S (fun _ => False) s.heap s.heap [] := va_S.rf
  have hl := lv_entry ([.ref (a 0)]) (n := 1) (Nat.le_of_ble_eq_true rfl)
  rw [lg_entry_eq]
  generalize (lg_sl ([.ref (a 0)]) ++ List.replicate (1 - (lg_sl ([.ref (a 0)])).length) Slot.unset).toArray = ls at hl ⊢
  have hl : lv_has ls 1 [(0, .ref (a 0))] := hl
  refine lv_iconst (v := 1) hx hb dX6_top_0 (by decide) ?_
  refine lv_aload_n hx hb dX6_top_1 rfl (lv_at hl 0 rfl) ?_
  refine va_get (D := K.1) (ci := 6) (v := .ref (a 1)) (C := RX6) (T := TX6) (N := 12) hx hb hts hinX6 hown hK hP 0 rfl rfl 1 (by decide) (hts (.fieldLink RX6 7 "CodedWordsModel" "s" "[I") (by decide +kernel)) (fun _ h9 => h9) rfl dX6_top_2 ?_
  refine lv_iconst (v := 1) hx hb dX6_top_5 (by decide) ?_
  refine va_iald hx hb hK hP 1 0 rfl rfl (iq_in (by decide) (by decide)) dX6_top_6 ?_
  refine lv_topi (fun vq6 eq6 => ?_)
  refine lv_ishl hx hb dX6_top_7 ?_
  refine lv_topi (fun vq7 eq7 => ?_)
  refine lv_iconst (v := 1) hx hb dX6_top_8 (by decide) ?_
  refine lv_isub hx hb dX6_top_9 ?_
  refine lv_topi (fun vq9 eq9 => ?_)
  exact W.iret (v := vq9) hx hb hr (fun t ht hW => ⟨⟨vq9, (), rfl, by unfold mTop; rw [eq9, eq7, eq6]; rfl, trivial⟩, hS.F ht⟩) hS.2.2 dX6_top_10
abbrev rmX6_strikeMany : Room := { frames := 0, cells := 0, slots := 0, locals := 0 }
set_option maxHeartbeats 4000000 in
set_option maxRecDepth 100000 in
theorem k_X6_strikeMany (l : Launch) {K : Cx} {a : Nat → Nat} {th um sm : Int32} {sA uA kA iA wA fA cA : Nat → Int32} {yA tA : Nat → Int64} (hMS : okS sA)   : Ri l K yX6_strikeMany wsX6_strikeMany rmX6_strikeMany [.ref (a 0)] (mW K a th um sm sA uA kA iA wA fA cA yA tA) (fun r => r = 2 * sA 1) := by
  refine Met.ofW (cc := cX6_strikeMany) (maxL := 1) (ret := (some .int)) (by decide) rfl ?_
  intro p e s m args below meth c s₁ B hml hv
  obtain ⟨rfl, hP, hK, hD, hN⟩ := hv
  have hx := B.exec
  have hb := B.bytes
  have hr := B.returns
  have hts := atoms_spec (ws := wsX6_strikeMany) B.pre
  have hown : s.vm.findClass RX6 = some m.cls := findClass_of_methodNamed B.named
  have hlocks := B.notSynchronized
  have hinX6 : ∀ w ∈ wsX60, w ∈ wsX6_strikeMany := by decide +kernel
  have hS : va_S (fun _ => False) s.heap s.heap [] := va_S.rf
  have hl := lv_entry ([.ref (a 0)]) (n := 1) (Nat.le_of_ble_eq_true rfl)
  rw [lg_entry_eq]
  generalize (lg_sl ([.ref (a 0)]) ++ List.replicate (1 - (lg_sl ([.ref (a 0)])).length) Slot.unset).toArray = ls at hl ⊢
  have hl : lv_has ls 1 [(0, .ref (a 0))] := hl
  refine lv_iconst (v := 2) hx hb dX6_strikeMany_0 (by decide) ?_
  refine lv_aload_n hx hb dX6_strikeMany_1 rfl (lv_at hl 0 rfl) ?_
  refine va_get (D := K.1) (ci := 6) (v := .ref (a 1)) (C := RX6) (T := TX6) (N := 12) hx hb hts hinX6 hown hK hP 0 rfl rfl 1 (by decide) (hts (.fieldLink RX6 7 "CodedWordsModel" "s" "[I") (by decide +kernel)) (fun _ h9 => h9) rfl dX6_strikeMany_2 ?_
  refine lv_iconst (v := 1) hx hb dX6_strikeMany_5 (by decide) ?_
  refine va_iald hx hb hK hP 1 0 rfl rfl (iq_in (by decide) (by decide)) dX6_strikeMany_6 ?_
  refine lv_topi (fun vq6 eq6 => ?_)
  refine lv_imul hx hb dX6_strikeMany_7 ?_
  refine lv_topi (fun vq7 eq7 => ?_)
  exact W.iret (v := vq7) hx hb hr (fun t ht hW => ⟨⟨vq7, (), rfl, by rw [eq7, eq6]; rfl, trivial⟩, hS.F ht⟩) hS.2.2 dX6_strikeMany_8
abbrev rmX6_reach : Room := { frames := 1, cells := 0, slots := 0, locals := 20 }
set_option maxHeartbeats 4000000 in
set_option maxRecDepth 100000 in
theorem k_X6_reach (l : Launch) {K : Cx} {a : Nat → Nat} {th um sm : Int32} {sA uA kA iA wA fA cA : Nat → Int32} {yA tA : Nat → Int64} (hMS : okS sA)   : Ri l K yX6_reach wsX6_reach rmX6_reach [.ref (a 0)] (mW K a th um sm sA uA kA iA wA fA cA yA tA) (fun r => r = mTop sA / sA 0) := by
  refine Met.ofW (cc := cX6_reach) (maxL := 1) (ret := (some .int)) (by decide) rfl ?_
  intro p e s m args below meth c s₁ B hml hv
  obtain ⟨rfl, hP, hK, hD, hN⟩ := hv
  have hx := B.exec
  have hb := B.bytes
  have hr := B.returns
  have hts := atoms_spec (ws := wsX6_reach) B.pre
  have hown : s.vm.findClass RX6 = some m.cls := findClass_of_methodNamed B.named
  have hlocks := B.notSynchronized
  have hinX6 : ∀ w ∈ wsX60, w ∈ wsX6_reach := by decide +kernel
  have hS : va_S (fun _ => False) s.heap s.heap [] := va_S.rf
  have hl := lv_entry ([.ref (a 0)]) (n := 1) (Nat.le_of_ble_eq_true rfl)
  rw [lg_entry_eq]
  generalize (lg_sl ([.ref (a 0)]) ++ List.replicate (1 - (lg_sl ([.ref (a 0)])).length) Slot.unset).toArray = ls at hl ⊢
  have hl : lv_has ls 1 [(0, .ref (a 0))] := hl
  refine lv_aload_n hx hb dX6_reach_0 rfl (lv_at hl 0 rfl) ?_
  refine r_i (K := K) (w := mW K a th um sm sA uA kA iA wA fA cA yA tA) (va_runV (As := []) (rest := []) ⟨hx, hb, hml, hown, hts⟩ (k_X6_top l hMS) (cwV 0 hts gX6_reach_X6_top rfl rfl rfl (by decide +kernel) ⟨Nat.le_of_ble_eq_true rfl, Nat.le_of_ble_eq_true rfl⟩) (rPreV (m_rcv hK hP) hP hK hD hN) rfl rfl hl.1 rfl (lv_room (Nat.le_of_ble_eq_true rfl)) dX6_reach_1 ⟨Nat.le_of_ble_eq_true rfl, Nat.le_of_ble_eq_true rfl⟩) hP hS (fun rq1 H locs hp1 hP hS => ?_)
  refine lv_aload_n hx hb dX6_reach_4 rfl (lv_at hl 0 rfl) ?_
  refine va_get (D := K.1) (ci := 6) (v := .ref (a 1)) (C := RX6) (T := TX6) (N := 12) hx hb hts hinX6 hown hK hP 0 rfl rfl 1 (by decide) (hts (.fieldLink RX6 7 "CodedWordsModel" "s" "[I") (by decide +kernel)) (fun _ h9 => h9) rfl dX6_reach_5 ?_
  refine lv_iconst (v := 0) hx hb dX6_reach_8 (by decide) ?_
  refine va_iald hx hb hK hP 1 0 rfl rfl (iq_in (by decide) (by decide)) dX6_reach_9 ?_
  refine lv_topi (fun vq9 eq9 => ?_)
  refine lv_idiv hx hb dX6_reach_10 (fun h => hMS.ne (eq9.symm.trans h)) ?_
  refine lv_topi (fun vq10 eq10 => ?_)
  exact W.iret (v := vq10) hx hb hr (fun t ht hW => ⟨⟨vq10, (), rfl, by rw [eq10, eq9, hp1]; rfl, trivial⟩, hS.F ht⟩) hS.2.2 dX6_reach_11
abbrev rmX6_fits : Room := { frames := 0, cells := 0, slots := 0, locals := 0 }
set_option maxHeartbeats 4000000 in
set_option maxRecDepth 100000 in
theorem k_X6_fits (l : Launch) {K : Cx} {a : Nat → Nat} {th um sm : Int32} {sA uA kA iA wA fA cA : Nat → Int32} {yA tA : Nat → Int64} (hMS : okS sA) (pq1 : Int32)  : Ri l K yX6_fits wsX6_fits rmX6_fits [.ref (a 0), .int pq1] (mW K a th um sm sA uA kA iA wA fA cA yA tA) (fun r => (r = 1 ∧ mFit sA pq1) ∨ (r = 0 ∧ ¬ mFit sA pq1)) := by
  refine Met.ofW (cc := cX6_fits) (maxL := 2) (ret := (some .boolean)) (by decide) rfl ?_
  intro p e s m args below meth c s₁ B hml hv
  obtain ⟨rfl, hP, hK, hD, hN⟩ := hv
  have hx := B.exec
  have hb := B.bytes
  have hr := B.returns
  have hts := atoms_spec (ws := wsX6_fits) B.pre
  have hown : s.vm.findClass RX6 = some m.cls := findClass_of_methodNamed B.named
  have hlocks := B.notSynchronized
  have hinX6 : ∀ w ∈ wsX60, w ∈ wsX6_fits := by decide +kernel
  have hS : va_S (fun _ => False) s.heap s.heap [] := va_S.rf
  have hl := lv_entry ([.ref (a 0), .int pq1]) (n := 2) (Nat.le_of_ble_eq_true rfl)
  rw [lg_entry_eq]
  generalize (lg_sl ([.ref (a 0), .int pq1]) ++ List.replicate (2 - (lg_sl ([.ref (a 0), .int pq1])).length) Slot.unset).toArray = ls at hl ⊢
  have hl : lv_has ls 2 [(0, .ref (a 0)), (1, .int pq1)] := hl
  refine lv_iload_n hx hb dX6_fits_0 rfl (lv_at hl 1 rfl) ?_
  refine lv_aload_n hx hb dX6_fits_1 rfl (lv_at hl 0 rfl) ?_
  refine va_get (D := K.1) (ci := 6) (v := .ref (a 1)) (C := RX6) (T := TX6) (N := 12) hx hb hts hinX6 hown hK hP 0 rfl rfl 1 (by decide) (hts (.fieldLink RX6 7 "CodedWordsModel" "s" "[I") (by decide +kernel)) (fun _ h9 => h9) rfl dX6_fits_2 ?_
  refine lv_iconst (v := 0) hx hb dX6_fits_5 (by decide) ?_
  refine va_iald hx hb hK hP 1 0 rfl rfl (iq_in (by decide) (by decide)) dX6_fits_6 ?_
  refine lv_topi (fun vq6 eq6 => ?_)
  refine lv_irem hx hb dX6_fits_7 (fun h => hMS.ne (eq6.symm.trans h)) ?_
  refine lv_topi (fun vq7 eq7 => ?_)
  refine lv_if_ne (tgt := 15) hx hb dX6_fits_8 (by decide) (fun cq8 => ?_) (fun cq8 => ?_)
  · skip
    refine lv_iconst (v := 0) hx hb dX6_fits_15 (by decide) ?_
    exact W.zret (v := 0) (ty := .boolean) hx hb hr (rfl) (fun t ht hW => ⟨⟨0, (), rfl, by subst eq6; first | exact Or.inl ⟨rfl, by rw [eq7] at cq8; exact cq8⟩ | exact Or.inr ⟨rfl, fun h => cq8 (by rw [eq7]; exact h)⟩, trivial⟩, hS.F ht⟩) hS.2.2 dX6_fits_16
  · skip
    refine lv_iconst (v := 1) hx hb dX6_fits_11 (by decide) ?_
    refine lv_goto (tgt := 16) hx hb dX6_fits_12 (by decide) ?_
    exact W.zret (v := 1) (ty := .boolean) hx hb hr (rfl) (fun t ht hW => ⟨⟨1, (), rfl, by subst eq6; first | exact Or.inl ⟨rfl, by rw [eq7] at cq8; exact cq8⟩ | exact Or.inr ⟨rfl, fun h => cq8 (by rw [eq7]; exact h)⟩, trivial⟩, hS.F ht⟩) hS.2.2 dX6_fits_16
abbrev rmX6_isInReach : Room := { frames := 2, cells := 0, slots := 0, locals := 40 }
set_option maxHeartbeats 4000000 in
set_option maxRecDepth 100000 in
theorem k_X6_isInReach (l : Launch) {K : Cx} {a : Nat → Nat} {th um sm : Int32} {sA uA kA iA wA fA cA : Nat → Int32} {yA tA : Nat → Int64} (hMS : okS sA) (pq1 : Int32)  : Ri l K yX6_isInReach wsX6_isInReach rmX6_isInReach [.ref (a 0), .int pq1] (mW K a th um sm sA uA kA iA wA fA cA yA tA) (fun r => (r = 1 ∧ mIn sA pq1) ∨ (r = 0 ∧ ¬ mIn sA pq1)) := by
  refine Met.ofW (cc := cX6_isInReach) (maxL := 2) (ret := (some .boolean)) (by decide) rfl ?_
  intro p e s m args below meth c s₁ B hml hv
  obtain ⟨rfl, hP, hK, hD, hN⟩ := hv
  have hx := B.exec
  have hb := B.bytes
  have hr := B.returns
  have hts := atoms_spec (ws := wsX6_isInReach) B.pre
  have hown : s.vm.findClass RX6 = some m.cls := findClass_of_methodNamed B.named
  have hlocks := B.notSynchronized
  have hinX6 : ∀ w ∈ wsX60, w ∈ wsX6_isInReach := by decide +kernel
  have hS : va_S (fun _ => False) s.heap s.heap [] := va_S.rf
  have hl := lv_entry ([.ref (a 0), .int pq1]) (n := 2) (Nat.le_of_ble_eq_true rfl)
  rw [lg_entry_eq]
  generalize (lg_sl ([.ref (a 0), .int pq1]) ++ List.replicate (2 - (lg_sl ([.ref (a 0), .int pq1])).length) Slot.unset).toArray = ls at hl ⊢
  have hl : lv_has ls 2 [(0, .ref (a 0)), (1, .int pq1)] := hl
  refine lv_aload_n hx hb dX6_isInReach_0 rfl (lv_at hl 0 rfl) ?_
  refine lv_iload_n hx hb dX6_isInReach_1 rfl (lv_at hl 1 rfl) ?_
  refine r_i (K := K) (w := mW K a th um sm sA uA kA iA wA fA cA yA tA) (va_runV (As := [.int pq1]) (rest := []) ⟨hx, hb, hml, hown, hts⟩ (k_X6_fits l hMS pq1) (cwV 1 hts gX6_isInReach_X6_fits rfl rfl rfl (by decide +kernel) ⟨Nat.le_of_ble_eq_true rfl, Nat.le_of_ble_eq_true rfl⟩) (rPreV (m_rcv hK hP) hP hK hD hN) rfl rfl hl.1 rfl (lv_room (Nat.le_of_ble_eq_true rfl)) dX6_isInReach_2 ⟨Nat.le_of_ble_eq_true rfl, Nat.le_of_ble_eq_true rfl⟩) hP hS (fun rq2 H locs hp2 hP hS => ?_)
  refine lv_if_eq (tgt := 35) hx hb dX6_isInReach_5 (by decide) (fun cq5 => ?_) (fun cq5 => ?_)
  · skip
    refine lv_iconst (v := 0) hx hb dX6_isInReach_35 (by decide) ?_
    exact W.zret (v := 0) (ty := .boolean) hx hb hr (rfl) (fun t ht hW => ⟨⟨0, (), rfl, by first | exact Or.inl ⟨rfl, (hp2.resolve_right (fun q => cq5 q.1)).2, by have h := (hp25.resolve_left (fun q => cq28 q.1)).2; rw [eq20, hp17, hp22, eq15, eq14] at h; exact h⟩ | exact Or.inr ⟨rfl, fun h => (hp25.resolve_right (fun q => by rw [q.1] at cq28; exact absurd cq28 (by decide))).2 (by rw [eq20, hp17, hp22, eq15, eq14]; exact h.2)⟩ | exact Or.inr ⟨rfl, fun h => (hp2.resolve_left (fun q => by rw [q.1] at cq5; exact absurd cq5 (by decide))).2 h.1⟩, trivial⟩, hS.F ht⟩) hS.2.2 dX6_isInReach_36
  · skip
    refine lv_iload_n hx hb dX6_isInReach_8 rfl (lv_at hl 1 rfl) ?_
    refine lv_aload_n hx hb dX6_isInReach_9 rfl (lv_at hl 0 rfl) ?_
    refine va_get (D := K.1) (ci := 6) (v := .ref (a 1)) (C := RX6) (T := TX6) (N := 12) hx hb hts hinX6 hown hK hP 0 rfl rfl 1 (by decide) (hts (.fieldLink RX6 7 "CodedWordsModel" "s" "[I") (by decide +kernel)) (fun _ h9 => h9) rfl dX6_isInReach_10 ?_
    refine lv_iconst (v := 0) hx hb dX6_isInReach_13 (by decide) ?_
    refine va_iald hx hb hK hP 1 0 rfl rfl (iq_in (by decide) (by decide)) dX6_isInReach_14 ?_
    refine lv_topi (fun vq14 eq14 => ?_)
    refine lv_idiv hx hb dX6_isInReach_15 (fun h => hMS.ne (eq14.symm.trans h)) ?_
    refine lv_topi (fun vq15 eq15 => ?_)
    refine lv_aload_n hx hb dX6_isInReach_16 rfl (lv_at hl 0 rfl) ?_
    refine r_i (K := K) (w := mW K a th um sm sA uA kA iA wA fA cA yA tA) (va_runV (As := []) (rest := [.int vq15]) ⟨hx, hb, hml, hown, hts⟩ (k_X6_reach l hMS) (cwV 0 hts gX6_isInReach_X6_reach rfl rfl rfl (by decide +kernel) ⟨Nat.le_of_ble_eq_true rfl, Nat.le_of_ble_eq_true rfl⟩) (rPreV (m_rcv hK hP) hP hK hD hN) rfl rfl hl.1 rfl (lv_room (Nat.le_of_ble_eq_true rfl)) dX6_isInReach_17 ⟨Nat.le_of_ble_eq_true rfl, Nat.le_of_ble_eq_true rfl⟩) hP hS (fun rq17 H locs hp17 hP hS => ?_)
    refine lv_ineg hx hb dX6_isInReach_20 ?_
    refine lv_topi (fun vq20 eq20 => ?_)
    refine lv_aload_n hx hb dX6_isInReach_21 rfl (lv_at hl 0 rfl) ?_
    refine r_i (K := K) (w := mW K a th um sm sA uA kA iA wA fA cA yA tA) (va_runV (As := []) (rest := [.int vq20, .int vq15]) ⟨hx, hb, hml, hown, hts⟩ (k_X6_reach l hMS) (cwV 0 hts gX6_isInReach_X6_reach rfl rfl rfl (by decide +kernel) ⟨Nat.le_of_ble_eq_true rfl, Nat.le_of_ble_eq_true rfl⟩) (rPreV (m_rcv hK hP) hP hK hD hN) rfl rfl hl.1 rfl (lv_room (Nat.le_of_ble_eq_true rfl)) dX6_isInReach_22 ⟨Nat.le_of_ble_eq_true rfl, Nat.le_of_ble_eq_true rfl⟩) hP hS (fun rq22 H locs hp22 hP hS => ?_)
    refine r_i (va_runS (As := [.int vq15, .int vq20, .int rq22]) (rest := []) ⟨hx, hb, hml, hown, hts⟩ (k_X6_in l vq15 vq20 rq22) (va_cwS 3 hts gX6_isInReach_X6_in rfl rfl rfl (by decide +kernel) ⟨Nat.le_of_ble_eq_true rfl, Nat.le_of_ble_eq_true rfl⟩) (pPreS) rfl rfl hl.1 rfl (lv_room (Nat.le_of_ble_eq_true rfl)) dX6_isInReach_25 ⟨Nat.le_of_ble_eq_true rfl, Nat.le_of_ble_eq_true rfl⟩) hP hS (fun rq25 H locs hp25 hP hS => ?_)
    refine lv_if_eq (tgt := 35) hx hb dX6_isInReach_28 (by decide) (fun cq28 => ?_) (fun cq28 => ?_)
    · skip
      refine lv_iconst (v := 0) hx hb dX6_isInReach_35 (by decide) ?_
      exact W.zret (v := 0) (ty := .boolean) hx hb hr (rfl) (fun t ht hW => ⟨⟨0, (), rfl, by first | exact Or.inl ⟨rfl, (hp2.resolve_right (fun q => cq5 q.1)).2, by have h := (hp25.resolve_left (fun q => cq28 q.1)).2; rw [eq20, hp17, hp22, eq15, eq14] at h; exact h⟩ | exact Or.inr ⟨rfl, fun h => (hp25.resolve_right (fun q => by rw [q.1] at cq28; exact absurd cq28 (by decide))).2 (by rw [eq20, hp17, hp22, eq15, eq14]; exact h.2)⟩ | exact Or.inr ⟨rfl, fun h => (hp2.resolve_left (fun q => by rw [q.1] at cq5; exact absurd cq5 (by decide))).2 h.1⟩, trivial⟩, hS.F ht⟩) hS.2.2 dX6_isInReach_36
    · skip
      refine lv_iconst (v := 1) hx hb dX6_isInReach_31 (by decide) ?_
      refine lv_goto (tgt := 36) hx hb dX6_isInReach_32 (by decide) ?_
      exact W.zret (v := 1) (ty := .boolean) hx hb hr (rfl) (fun t ht hW => ⟨⟨1, (), rfl, by first | exact Or.inl ⟨rfl, (hp2.resolve_right (fun q => cq5 q.1)).2, by have h := (hp25.resolve_left (fun q => cq28 q.1)).2; rw [eq20, hp17, hp22, eq15, eq14] at h; exact h⟩ | exact Or.inr ⟨rfl, fun h => (hp25.resolve_right (fun q => by rw [q.1] at cq28; exact absurd cq28 (by decide))).2 (by rw [eq20, hp17, hp22, eq15, eq14]; exact h.2)⟩ | exact Or.inr ⟨rfl, fun h => (hp2.resolve_left (fun q => by rw [q.1] at cq5; exact absurd cq5 (by decide))).2 h.1⟩, trivial⟩, hS.F ht⟩) hS.2.2 dX6_isInReach_36
abbrev rmX6_isRight : Room := { frames := 3, cells := 0, slots := 0, locals := 61 }
set_option maxHeartbeats 4000000 in
set_option maxRecDepth 100000 in
theorem k_X6_isRight (l : Launch) {K : Cx} {a : Nat → Nat} {th um sm : Int32} {sA uA kA iA wA fA cA : Nat → Int32} {yA tA : Nat → Int64} (hMS : okS sA) (pq1 : Int32) (pq2 : Int32)  : Ri l K yX6_isRight wsX6_isRight rmX6_isRight [.ref (a 0), .int pq1, .int pq2] (mW K a th um sm sA uA kA iA wA fA cA yA tA) (fun r => (r = 1 ∧ mRight sA pq1 pq2) ∨ (r = 0 ∧ ¬ mRight sA pq1 pq2)) := by
  refine Met.ofW (cc := cX6_isRight) (maxL := 3) (ret := (some .boolean)) (by decide) rfl ?_
  intro p e s m args below meth c s₁ B hml hv
  obtain ⟨rfl, hP, hK, hD, hN⟩ := hv
  have hx := B.exec
  have hb := B.bytes
  have hr := B.returns
  have hts := atoms_spec (ws := wsX6_isRight) B.pre
  have hown : s.vm.findClass RX6 = some m.cls := findClass_of_methodNamed B.named
  have hlocks := B.notSynchronized
  have hinX6 : ∀ w ∈ wsX60, w ∈ wsX6_isRight := by decide +kernel
  have hS : va_S (fun _ => False) s.heap s.heap [] := va_S.rf
  have hl := lv_entry ([.ref (a 0), .int pq1, .int pq2]) (n := 3) (Nat.le_of_ble_eq_true rfl)
  rw [lg_entry_eq]
  generalize (lg_sl ([.ref (a 0), .int pq1, .int pq2]) ++ List.replicate (3 - (lg_sl ([.ref (a 0), .int pq1, .int pq2])).length) Slot.unset).toArray = ls at hl ⊢
  have hl : lv_has ls 3 [(0, .ref (a 0)), (1, .int pq1), (2, .int pq2)] := hl
  refine lv_aload_n hx hb dX6_isRight_0 rfl (lv_at hl 0 rfl) ?_
  refine lv_iload_n hx hb dX6_isRight_1 rfl (lv_at hl 1 rfl) ?_
  refine r_i (K := K) (w := mW K a th um sm sA uA kA iA wA fA cA yA tA) (va_runV (As := [.int pq1]) (rest := []) ⟨hx, hb, hml, hown, hts⟩ (k_X6_isInReach l hMS pq1) (cwV 1 hts gX6_isRight_X6_isInReach rfl rfl rfl (by decide +kernel) ⟨Nat.le_of_ble_eq_true rfl, Nat.le_of_ble_eq_true rfl⟩) (rPreV (m_rcv hK hP) hP hK hD hN) rfl rfl hl.1 rfl (lv_room (Nat.le_of_ble_eq_true rfl)) dX6_isRight_2 ⟨Nat.le_of_ble_eq_true rfl, Nat.le_of_ble_eq_true rfl⟩) hP hS (fun rq2 H locs hp2 hP hS => ?_)
  refine lv_if_eq (tgt := 30) hx hb dX6_isRight_5 (by decide) (fun cq5 => ?_) (fun cq5 => ?_)
  · skip
    refine lv_iconst (v := 0) hx hb dX6_isRight_30 (by decide) ?_
    exact W.zret (v := 0) (ty := .boolean) hx hb hr (rfl) (fun t ht hW => ⟨⟨0, (), rfl, by first | exact Or.inl ⟨rfl, (hp2.resolve_right (fun q => cq5 q.1)).2, by rw [hp19, eq16, eq15, eq14] at cq23; exact cq23⟩ | exact Or.inr ⟨rfl, fun h => cq23 (by rw [hp19, eq16, eq15, eq14]; exact h.2)⟩ | exact Or.inr ⟨rfl, fun h => (hp2.resolve_left (fun q => by rw [q.1] at cq5; exact absurd cq5 (by decide))).2 h.1⟩, trivial⟩, hS.F ht⟩) hS.2.2 dX6_isRight_31
  · skip
    refine lv_iload_n hx hb dX6_isRight_8 rfl (lv_at hl 1 rfl) ?_
    refine lv_aload_n hx hb dX6_isRight_9 rfl (lv_at hl 0 rfl) ?_
    refine va_get (D := K.1) (ci := 6) (v := .ref (a 1)) (C := RX6) (T := TX6) (N := 12) hx hb hts hinX6 hown hK hP 0 rfl rfl 1 (by decide) (hts (.fieldLink RX6 7 "CodedWordsModel" "s" "[I") (by decide +kernel)) (fun _ h9 => h9) rfl dX6_isRight_10 ?_
    refine lv_iconst (v := 0) hx hb dX6_isRight_13 (by decide) ?_
    refine va_iald hx hb hK hP 1 0 rfl rfl (iq_in (by decide) (by decide)) dX6_isRight_14 ?_
    refine lv_topi (fun vq14 eq14 => ?_)
    refine lv_idiv hx hb dX6_isRight_15 (fun h => hMS.ne (eq14.symm.trans h)) ?_
    refine lv_topi (fun vq15 eq15 => ?_)
    refine lv_i2l (v := (vq15 : Int32).toInt64) hx hb dX6_isRight_16 rfl ?_
    refine lv_topl (fun vq16 eq16 => ?_)
    refine lv_bipush (v := 15) hx hb dX6_isRight_17 (by decide) ?_
    refine r_i (va_runS (As := [.long vq16, .int 15]) (rest := []) ⟨hx, hb, hml, hown, hts⟩ (k_X6_rest l vq16 15 (by decide)) (va_cwS 2 hts gX6_isRight_X6_rest rfl rfl rfl (by decide +kernel) ⟨Nat.le_of_ble_eq_true rfl, Nat.le_of_ble_eq_true rfl⟩) (pPreS) rfl rfl hl.1 rfl (lv_room (Nat.le_of_ble_eq_true rfl)) dX6_isRight_19 ⟨Nat.le_of_ble_eq_true rfl, Nat.le_of_ble_eq_true rfl⟩) hP hS (fun rq19 H locs hp19 hP hS => ?_)
    refine lv_iload_n hx hb dX6_isRight_22 rfl (lv_at hl 2 rfl) ?_
    refine lv_icmp_ne (tgt := 30) hx hb dX6_isRight_23 (by decide) (fun cq23 => ?_) (fun cq23 => ?_)
    · skip
      refine lv_iconst (v := 0) hx hb dX6_isRight_30 (by decide) ?_
      exact W.zret (v := 0) (ty := .boolean) hx hb hr (rfl) (fun t ht hW => ⟨⟨0, (), rfl, by first | exact Or.inl ⟨rfl, (hp2.resolve_right (fun q => cq5 q.1)).2, by rw [hp19, eq16, eq15, eq14] at cq23; exact cq23⟩ | exact Or.inr ⟨rfl, fun h => cq23 (by rw [hp19, eq16, eq15, eq14]; exact h.2)⟩ | exact Or.inr ⟨rfl, fun h => (hp2.resolve_left (fun q => by rw [q.1] at cq5; exact absurd cq5 (by decide))).2 h.1⟩, trivial⟩, hS.F ht⟩) hS.2.2 dX6_isRight_31
    · skip
      refine lv_iconst (v := 1) hx hb dX6_isRight_26 (by decide) ?_
      refine lv_goto (tgt := 31) hx hb dX6_isRight_27 (by decide) ?_
      exact W.zret (v := 1) (ty := .boolean) hx hb hr (rfl) (fun t ht hW => ⟨⟨1, (), rfl, by first | exact Or.inl ⟨rfl, (hp2.resolve_right (fun q => cq5 q.1)).2, by rw [hp19, eq16, eq15, eq14] at cq23; exact cq23⟩ | exact Or.inr ⟨rfl, fun h => cq23 (by rw [hp19, eq16, eq15, eq14]; exact h.2)⟩ | exact Or.inr ⟨rfl, fun h => (hp2.resolve_left (fun q => by rw [q.1] at cq5; exact absurd cq5 (by decide))).2 h.1⟩, trivial⟩, hS.F ht⟩) hS.2.2 dX6_isRight_31
abbrev rmX6_isCause : Room := { frames := 4, cells := 0, slots := 0, locals := 83 }
set_option maxHeartbeats 4000000 in
set_option maxRecDepth 100000 in
theorem k_X6_isCause (l : Launch) {K : Cx} {a : Nat → Nat} {th um sm : Int32} {sA uA kA iA wA fA cA : Nat → Int32} {yA tA : Nat → Int64} (hMS : okS sA) (pq1 : Int32) (pq2 : Int32) (hr0 : 0 ≤ pq1.toInt) (hr1 : pq1.toInt ≤ 3) : Ri l K yX6_isCause wsX6_isCause rmX6_isCause [.ref (a 0), .int pq1, .int pq2] (mW K a th um sm sA uA kA iA wA fA cA yA tA) (fun r => (r = 1 ∧ mCause sA pq1 pq2) ∨ (r = 0 ∧ ¬ mCause sA pq1 pq2)) := by
  refine Met.ofW (cc := cX6_isCause) (maxL := 3) (ret := (some .boolean)) (by decide) rfl ?_
  intro p e s m args below meth c s₁ B hml hv
  obtain ⟨rfl, hP, hK, hD, hN⟩ := hv
  have hx := B.exec
  have hb := B.bytes
  have hr := B.returns
  have hts := atoms_spec (ws := wsX6_isCause) B.pre
  have hown : s.vm.findClass RX6 = some m.cls := findClass_of_methodNamed B.named
  have hlocks := B.notSynchronized
  have hinX6 : ∀ w ∈ wsX60, w ∈ wsX6_isCause := by decide +kernel
  have hS : va_S (fun _ => False) s.heap s.heap [] := va_S.rf
  have hl := lv_entry ([.ref (a 0), .int pq1, .int pq2]) (n := 3) (Nat.le_of_ble_eq_true rfl)
  rw [lg_entry_eq]
  generalize (lg_sl ([.ref (a 0), .int pq1, .int pq2]) ++ List.replicate (3 - (lg_sl ([.ref (a 0), .int pq1, .int pq2])).length) Slot.unset).toArray = ls at hl ⊢
  have hl : lv_has ls 3 [(0, .ref (a 0)), (1, .int pq1), (2, .int pq2)] := hl
  refine lv_aload_n hx hb dX6_isCause_0 rfl (lv_at hl 0 rfl) ?_
  refine lv_aload_n hx hb dX6_isCause_1 rfl (lv_at hl 0 rfl) ?_
  refine va_get (D := K.1) (ci := 6) (v := .ref (a 1)) (C := RX6) (T := TX6) (N := 12) hx hb hts hinX6 hown hK hP 0 rfl rfl 1 (by decide) (hts (.fieldLink RX6 7 "CodedWordsModel" "s" "[I") (by decide +kernel)) (fun _ h9 => h9) rfl dX6_isCause_2 ?_
  refine lv_iconst (v := 2) hx hb dX6_isCause_5 (by decide) ?_
  refine lv_iload_n hx hb dX6_isCause_6 rfl (lv_at hl 1 rfl) ?_
  refine lv_iadd hx hb dX6_isCause_7 ?_
  refine lv_topi (fun vq7 eq7 => ?_)
  refine va_iald hx hb hK hP 1 0 rfl rfl (iq_inreg (by decide) (by decide) hr0 hr1 eq7) dX6_isCause_8 ?_
  refine lv_topi (fun vq8 eq8 => ?_)
  refine lv_iload_n hx hb dX6_isCause_9 rfl (lv_at hl 2 rfl) ?_
  refine r_i (va_runS (As := [.int pq2]) (rest := [.int vq8, .ref (a 0)]) ⟨hx, hb, hml, hown, hts⟩ (k_X6_by l pq2) (va_cwS 1 hts gX6_isCause_X6_by rfl rfl rfl (by decide +kernel) ⟨Nat.le_of_ble_eq_true rfl, Nat.le_of_ble_eq_true rfl⟩) (pPreS) rfl rfl hl.1 rfl (lv_room (Nat.le_of_ble_eq_true rfl)) dX6_isCause_10 ⟨Nat.le_of_ble_eq_true rfl, Nat.le_of_ble_eq_true rfl⟩) hP hS (fun rq10 H locs hp10 hP hS => ?_)
  refine lv_isub hx hb dX6_isCause_13 ?_
  refine lv_topi (fun vq13 eq13 => ?_)
  refine lv_aload_n hx hb dX6_isCause_14 rfl (lv_at hl 0 rfl) ?_
  refine va_get (D := K.1) (ci := 6) (v := .ref (a 1)) (C := RX6) (T := TX6) (N := 12) hx hb hts hinX6 hown hK hP 0 rfl rfl 1 (by decide) (hts (.fieldLink RX6 7 "CodedWordsModel" "s" "[I") (by decide +kernel)) (fun _ h9 => h9) rfl dX6_isCause_15 ?_
  refine lv_bipush (v := 6) hx hb dX6_isCause_18 (by decide) ?_
  refine lv_iload_n hx hb dX6_isCause_20 rfl (lv_at hl 1 rfl) ?_
  refine lv_iadd hx hb dX6_isCause_21 ?_
  refine lv_topi (fun vq21 eq21 => ?_)
  refine va_iald hx hb hK hP 1 0 rfl rfl (iq_inreg (by decide) (by decide) hr0 hr1 eq21) dX6_isCause_22 ?_
  refine lv_topi (fun vq22 eq22 => ?_)
  refine r_i (K := K) (w := mW K a th um sm sA uA kA iA wA fA cA yA tA) (va_runV (As := [.int vq13, .int vq22]) (rest := []) ⟨hx, hb, hml, hown, hts⟩ (k_X6_isRight l hMS vq13 vq22) (cwV 2 hts gX6_isCause_X6_isRight rfl rfl rfl (by decide +kernel) ⟨Nat.le_of_ble_eq_true rfl, Nat.le_of_ble_eq_true rfl⟩) (rPreV (m_rcv hK hP) hP hK hD hN) rfl rfl hl.1 rfl (lv_room (Nat.le_of_ble_eq_true rfl)) dX6_isCause_23 ⟨Nat.le_of_ble_eq_true rfl, Nat.le_of_ble_eq_true rfl⟩) hP hS (fun rq23 H locs hp23 hP hS => ?_)
  exact W.zret (v := rq23) (ty := .boolean) hx hb hr (iq_z01 (hp23.symm.imp (fun h => h.1) (fun h => h.1))) (fun t ht hW => ⟨⟨rq23, (), rfl, by rw [eq13, eq8, eq7, hp10, eq22, eq21] at hp23; exact hp23, trivial⟩, hS.F ht⟩) hS.2.2 dX6_isCause_26
abbrev rmX6_causes : Room := { frames := 5, cells := 0, slots := 0, locals := 105 }
set_option maxHeartbeats 4000000 in
set_option maxRecDepth 100000 in
theorem k_X6_causes (l : Launch) {K : Cx} {a : Nat → Nat} {th um sm : Int32} {sA uA kA iA wA fA cA : Nat → Int32} {yA tA : Nat → Int64} (hMS : okS sA) (pq1 : Int32) (hr0 : 0 ≤ pq1.toInt) (hr1 : pq1.toInt ≤ 3) : Ri l K yX6_causes wsX6_causes rmX6_causes [.ref (a 0), .int pq1] (mW K a th um sm sA uA kA iA wA fA cA yA tA) (fun r => r = 1 → ∃ k : Int32, 0 ≤ k.toInt ∧ mCause sA pq1 k) := by
  refine Met.ofW (cc := cX6_causes) (maxL := 4) (ret := (some .int)) (by decide) rfl ?_
  intro p e s m args below meth c s₁ B hml hv
  obtain ⟨rfl, hP, hK, hD, hN⟩ := hv
  have hx := B.exec
  have hb := B.bytes
  have hr := B.returns
  have hts := atoms_spec (ws := wsX6_causes) B.pre
  have hown : s.vm.findClass RX6 = some m.cls := findClass_of_methodNamed B.named
  have hlocks := B.notSynchronized
  have hinX6 : ∀ w ∈ wsX60, w ∈ wsX6_causes := by decide +kernel
  have hS : va_S (fun _ => False) s.heap s.heap [] := va_S.rf
  have hl := lv_entry ([.ref (a 0), .int pq1]) (n := 4) (Nat.le_of_ble_eq_true rfl)
  rw [lg_entry_eq]
  generalize (lg_sl ([.ref (a 0), .int pq1]) ++ List.replicate (4 - (lg_sl ([.ref (a 0), .int pq1])).length) Slot.unset).toArray = ls at hl ⊢
  have hl : lv_has ls 4 [(0, .ref (a 0)), (1, .int pq1)] := hl
  have hJ4 : ∀ (n4 : Nat) (H : Heap) (locs : List Loc) (zq2 : Int32) (zq3 : Int32), (va_P K.1 vwCl (mW K a th um sm sA uA kA iA wA fA cA yA tA) H) → (va_S (fun _ => False) s.heap H locs) → (0 ≤ zq3.toInt) → (zq2 = 0 ∨ ∃ k : Int32, 0 ≤ k.toInt ∧ mCause sA pq1 k) → ((2147483647 - zq3.toInt).toNat < n4) → ∀ (ls : Array Slot), lv_has ls 4 [(0, .ref (a 0)), (1, .int pq1), (2, .int zq2), (3, .int zq3)] → W p l e rmX6_causes s m [.ref (a 0), .int pq1].toArray below meth c H locs 0 0 (MQ below (va_Qi (fun (r : Int32) (_ : Unit) => (fun r => r = 1 → ∃ k : Int32, 0 ≤ k.toInt ∧ mCause sA pq1 k) r) (fun _ _ => True) (fun _ => False)) [.ref (a 0), .int pq1].toArray s 0 0 (fun _ => False)) (F0 m 4 ls []) := by
    intro n4
    induction n4 with
    | zero =>
      intro H locs zq2 zq3 hP hS i4_0 i4_1 hm4 ls hl
      exact absurd hm4 (Nat.not_lt_zero _)
    | succ n4 ih4 =>
      intro H locs zq2 zq3 hP hS i4_0 i4_1 hm4 ls hl
      refine lv_iload_n hx hb dX6_causes_4 rfl (lv_at hl 3 rfl) ?_
      refine lv_aload_n hx hb dX6_causes_5 rfl (lv_at hl 0 rfl) ?_
      refine r_i (K := K) (w := mW K a th um sm sA uA kA iA wA fA cA yA tA) (va_runV (As := []) (rest := [.int zq3]) ⟨hx, hb, hml, hown, hts⟩ (k_X6_strikeMany l hMS) (cwV 0 hts gX6_causes_X6_strikeMany rfl rfl rfl (by decide +kernel) ⟨Nat.le_of_ble_eq_true rfl, Nat.le_of_ble_eq_true rfl⟩) (rPreV (m_rcv hK hP) hP hK hD hN) rfl rfl hl.1 rfl (lv_room (Nat.le_of_ble_eq_true rfl)) dX6_causes_6 ⟨Nat.le_of_ble_eq_true rfl, Nat.le_of_ble_eq_true rfl⟩) hP hS (fun rq6 H locs hp6 hP hS => ?_)
      refine lv_icmp_ge (tgt := 50) hx hb dX6_causes_9 (by decide) (fun cq9 => ?_) (fun cq9 => ?_)
      · skip
        refine lv_iload_n hx hb dX6_causes_50 rfl (lv_at hl 2 rfl) ?_
        exact W.iret (v := zq2) hx hb hr (fun t ht hW => ⟨⟨zq2, (), rfl, fun h => i4_1.resolve_left (fun q => by rw [q] at h; exact absurd h (by decide)), trivial⟩, hS.F ht⟩) hS.2.2 dX6_causes_51
      · skip
        refine lv_aload_n hx hb dX6_causes_12 rfl (lv_at hl 0 rfl) ?_
        refine lv_aload_n hx hb dX6_causes_13 rfl (lv_at hl 0 rfl) ?_
        refine va_get (D := K.1) (ci := 6) (v := .ref (a 1)) (C := RX6) (T := TX6) (N := 12) hx hb hts hinX6 hown hK hP 0 rfl rfl 1 (by decide) (hts (.fieldLink RX6 7 "CodedWordsModel" "s" "[I") (by decide +kernel)) (fun _ h9 => h9) rfl dX6_causes_14 ?_
        refine lv_iconst (v := 2) hx hb dX6_causes_17 (by decide) ?_
        refine lv_iload_n hx hb dX6_causes_18 rfl (lv_at hl 1 rfl) ?_
        refine lv_iadd hx hb dX6_causes_19 ?_
        refine lv_topi (fun vq19 eq19 => ?_)
        refine va_iald hx hb hK hP 1 0 rfl rfl (iq_inreg (by decide) (by decide) hr0 hr1 eq19) dX6_causes_20 ?_
        refine lv_topi (fun vq20 eq20 => ?_)
        refine r_i (K := K) (w := mW K a th um sm sA uA kA iA wA fA cA yA tA) (va_runV (As := [.int vq20]) (rest := []) ⟨hx, hb, hml, hown, hts⟩ (k_X6_isInReach l hMS vq20) (cwV 1 hts gX6_causes_X6_isInReach rfl rfl rfl (by decide +kernel) ⟨Nat.le_of_ble_eq_true rfl, Nat.le_of_ble_eq_true rfl⟩) (rPreV (m_rcv hK hP) hP hK hD hN) rfl rfl hl.1 rfl (lv_room (Nat.le_of_ble_eq_true rfl)) dX6_causes_21 ⟨Nat.le_of_ble_eq_true rfl, Nat.le_of_ble_eq_true rfl⟩) hP hS (fun rq21 H locs hp21 hP hS => ?_)
        refine lv_if_ne (tgt := 50) hx hb dX6_causes_24 (by decide) (fun cq24 => ?_) (fun cq24 => ?_)
        · skip
          refine lv_iload_n hx hb dX6_causes_50 rfl (lv_at hl 2 rfl) ?_
          exact W.iret (v := zq2) hx hb hr (fun t ht hW => ⟨⟨zq2, (), rfl, fun h => i4_1.resolve_left (fun q => by rw [q] at h; exact absurd h (by decide)), trivial⟩, hS.F ht⟩) hS.2.2 dX6_causes_51
        · skip
          refine lv_iload_n hx hb dX6_causes_27 rfl (lv_at hl 2 rfl) ?_
          refine lv_aload_n hx hb dX6_causes_28 rfl (lv_at hl 0 rfl) ?_
          refine lv_iload_n hx hb dX6_causes_29 rfl (lv_at hl 1 rfl) ?_
          refine lv_iload_n hx hb dX6_causes_30 rfl (lv_at hl 3 rfl) ?_
          refine r_i (K := K) (w := mW K a th um sm sA uA kA iA wA fA cA yA tA) (va_runV (As := [.int pq1, .int zq3]) (rest := [.int zq2]) ⟨hx, hb, hml, hown, hts⟩ (k_X6_isCause l hMS pq1 zq3 (hr0) (hr1)) (cwV 2 hts gX6_causes_X6_isCause rfl rfl rfl (by decide +kernel) ⟨Nat.le_of_ble_eq_true rfl, Nat.le_of_ble_eq_true rfl⟩) (rPreV (m_rcv hK hP) hP hK hD hN) rfl rfl hl.1 rfl (lv_room (Nat.le_of_ble_eq_true rfl)) dX6_causes_31 ⟨Nat.le_of_ble_eq_true rfl, Nat.le_of_ble_eq_true rfl⟩) hP hS (fun rq31 H locs hp31 hP hS => ?_)
          refine lv_if_eq (tgt := 41) hx hb dX6_causes_34 (by decide) (fun cq34 => ?_) (fun cq34 => ?_)
          · skip
            refine lv_iconst (v := 0) hx hb dX6_causes_41 (by decide) ?_
            refine lv_iadd hx hb dX6_causes_42 ?_
            refine lv_topi (fun vq42 eq42 => ?_)
            refine lv_istore_n (lv' := [(2, .int vq42), (0, .ref (a 0)), (1, .int pq1), (3, .int zq3)]) hx hb dX6_causes_43 rfl hl (by decide) rfl (fun ls hl => ?_)
            obtain ⟨vq44, eq44⟩ : ∃ y : Int32, y = zq3 + 1 := ⟨_, rfl⟩
            refine lv_iinc (v := vq44) (lv' := [(3, .int vq44), (2, .int vq42), (0, .ref (a 0)), (1, .int pq1)]) hx hb dX6_causes_44 hl (k := 3) rfl (by rw [eq44]; rfl) (by decide) rfl (fun ls hl => ?_)
            refine lv_goto (tgt := 4) hx hb dX6_causes_47 (by decide) ?_
            exact ih4 _ _ vq42 vq44 hP hS (by first | exact iq_nn1 i4_0 cq9 eq44 | decide) (by first | exact Or.inl rfl | exact Or.inr ⟨zq3, i4_0, (hp31.resolve_right (fun q => cq34 q.1)).2⟩ | (rw [eq42]; exact i4_1.imp (fun h => by rw [h]; rfl) id)) (iq_up hm4 cq9 eq44) _ (lv_sub hl [2, 3, 1, 0] rfl)
          · skip
            refine lv_iconst (v := 1) hx hb dX6_causes_37 (by decide) ?_
            refine lv_goto (tgt := 42) hx hb dX6_causes_38 (by decide) ?_
            refine lv_iadd hx hb dX6_causes_42 ?_
            refine lv_topi (fun vq42 eq42 => ?_)
            refine lv_istore_n (lv' := [(2, .int vq42), (0, .ref (a 0)), (1, .int pq1), (3, .int zq3)]) hx hb dX6_causes_43 rfl hl (by decide) rfl (fun ls hl => ?_)
            obtain ⟨vq44, eq44⟩ : ∃ y : Int32, y = zq3 + 1 := ⟨_, rfl⟩
            refine lv_iinc (v := vq44) (lv' := [(3, .int vq44), (2, .int vq42), (0, .ref (a 0)), (1, .int pq1)]) hx hb dX6_causes_44 hl (k := 3) rfl (by rw [eq44]; rfl) (by decide) rfl (fun ls hl => ?_)
            refine lv_goto (tgt := 4) hx hb dX6_causes_47 (by decide) ?_
            exact ih4 _ _ vq42 vq44 hP hS (by first | exact iq_nn1 i4_0 cq9 eq44 | decide) (by first | exact Or.inl rfl | exact Or.inr ⟨zq3, i4_0, (hp31.resolve_right (fun q => cq34 q.1)).2⟩ | (rw [eq42]; exact i4_1.imp (fun h => by rw [h]; rfl) id)) (iq_up hm4 cq9 eq44) _ (lv_sub hl [2, 3, 1, 0] rfl)
  refine lv_iconst (v := 0) hx hb dX6_causes_0 (by decide) ?_
  refine lv_istore_n (lv' := [(2, .int 0), (0, .ref (a 0)), (1, .int pq1)]) hx hb dX6_causes_1 rfl hl (by decide) rfl (fun ls hl => ?_)
  refine lv_iconst (v := 0) hx hb dX6_causes_2 (by decide) ?_
  refine lv_istore_n (lv' := [(3, .int 0), (2, .int 0), (0, .ref (a 0)), (1, .int pq1)]) hx hb dX6_causes_3 rfl hl (by decide) rfl (fun ls hl => ?_)
  exact hJ4 ((2147483647 - (0 : Int32).toInt).toNat + 1) _ _ 0 0 hP hS (by first | exact iq_nn1 i4_0 cq9 eq44 | decide) (by first | exact Or.inl rfl | exact Or.inr ⟨zq3, i4_0, (hp31.resolve_right (fun q => cq34 q.1)).2⟩ | (rw [eq42]; exact i4_1.imp (fun h => by rw [h]; rfl) id)) (Nat.lt_succ_self _) _ (lv_sub hl [2, 3, 1, 0] rfl)
abbrev rmX6_verdict : Room := { frames := 6, cells := 0, slots := 0, locals := 128 }
set_option maxHeartbeats 4000000 in
set_option maxRecDepth 100000 in
theorem k_X6_verdict (l : Launch) {K : Cx} {a : Nat → Nat} {th um sm : Int32} {sA uA kA iA wA fA cA : Nat → Int32} {yA tA : Nat → Int64} (hMS : okS sA) (pq1 : Int32) (hr0 : 0 ≤ pq1.toInt) (hr1 : pq1.toInt ≤ 3) : Ri l K yX6_verdict wsX6_verdict rmX6_verdict [.ref (a 0), .int pq1] (mW K a th um sm sA uA kA iA wA fA cA yA tA) (fun r => (r = 0 ∨ r = 1 ∨ r = 3) ∨ (r = 2 ∧ ∃ k : Int32, 0 ≤ k.toInt ∧ mCause sA pq1 k)) := by
  refine Met.ofW (cc := cX6_verdict) (maxL := 2) (ret := (some .int)) (by decide) rfl ?_
  intro p e s m args below meth c s₁ B hml hv
  obtain ⟨rfl, hP, hK, hD, hN⟩ := hv
  have hx := B.exec
  have hb := B.bytes
  have hr := B.returns
  have hts := atoms_spec (ws := wsX6_verdict) B.pre
  have hown : s.vm.findClass RX6 = some m.cls := findClass_of_methodNamed B.named
  have hlocks := B.notSynchronized
  have hinX6 : ∀ w ∈ wsX60, w ∈ wsX6_verdict := by decide +kernel
  have hS : va_S (fun _ => False) s.heap s.heap [] := va_S.rf
  have hl := lv_entry ([.ref (a 0), .int pq1]) (n := 2) (Nat.le_of_ble_eq_true rfl)
  rw [lg_entry_eq]
  generalize (lg_sl ([.ref (a 0), .int pq1]) ++ List.replicate (2 - (lg_sl ([.ref (a 0), .int pq1])).length) Slot.unset).toArray = ls at hl ⊢
  have hl : lv_has ls 2 [(0, .ref (a 0)), (1, .int pq1)] := hl
  refine lv_aload_n hx hb dX6_verdict_0 rfl (lv_at hl 0 rfl) ?_
  refine lv_aload_n hx hb dX6_verdict_1 rfl (lv_at hl 0 rfl) ?_
  refine va_get (D := K.1) (ci := 6) (v := .ref (a 1)) (C := RX6) (T := TX6) (N := 12) hx hb hts hinX6 hown hK hP 0 rfl rfl 1 (by decide) (hts (.fieldLink RX6 7 "CodedWordsModel" "s" "[I") (by decide +kernel)) (fun _ h9 => h9) rfl dX6_verdict_2 ?_
  refine lv_iconst (v := 2) hx hb dX6_verdict_5 (by decide) ?_
  refine lv_iload_n hx hb dX6_verdict_6 rfl (lv_at hl 1 rfl) ?_
  refine lv_iadd hx hb dX6_verdict_7 ?_
  refine lv_topi (fun vq7 eq7 => ?_)
  refine va_iald hx hb hK hP 1 0 rfl rfl (iq_inreg (by decide) (by decide) hr0 hr1 eq7) dX6_verdict_8 ?_
  refine lv_topi (fun vq8 eq8 => ?_)
  refine r_i (K := K) (w := mW K a th um sm sA uA kA iA wA fA cA yA tA) (va_runV (As := [.int vq8]) (rest := []) ⟨hx, hb, hml, hown, hts⟩ (k_X6_isInReach l hMS vq8) (cwV 1 hts gX6_verdict_X6_isInReach rfl rfl rfl (by decide +kernel) ⟨Nat.le_of_ble_eq_true rfl, Nat.le_of_ble_eq_true rfl⟩) (rPreV (m_rcv hK hP) hP hK hD hN) rfl rfl hl.1 rfl (lv_room (Nat.le_of_ble_eq_true rfl)) dX6_verdict_9 ⟨Nat.le_of_ble_eq_true rfl, Nat.le_of_ble_eq_true rfl⟩) hP hS (fun rq9 H locs hp9 hP hS => ?_)
  refine lv_if_eq (tgt := 45) hx hb dX6_verdict_12 (by decide) (fun cq12 => ?_) (fun cq12 => ?_)
  · skip
    refine lv_aload_n hx hb dX6_verdict_45 rfl (lv_at hl 0 rfl) ?_
    refine lv_iload_n hx hb dX6_verdict_46 rfl (lv_at hl 1 rfl) ?_
    refine r_i (K := K) (w := mW K a th um sm sA uA kA iA wA fA cA yA tA) (va_runV (As := [.int pq1]) (rest := []) ⟨hx, hb, hml, hown, hts⟩ (k_X6_causes l hMS pq1 (hr0) (hr1)) (cwV 1 hts gX6_verdict_X6_causes rfl rfl rfl (by decide +kernel) ⟨Nat.le_of_ble_eq_true rfl, Nat.le_of_ble_eq_true rfl⟩) (rPreV (m_rcv hK hP) hP hK hD hN) rfl rfl hl.1 rfl (lv_room (Nat.le_of_ble_eq_true rfl)) dX6_verdict_47 ⟨Nat.le_of_ble_eq_true rfl, Nat.le_of_ble_eq_true rfl⟩) hP hS (fun rq47 H locs hp47 hP hS => ?_)
    refine lv_iconst (v := 1) hx hb dX6_verdict_50 (by decide) ?_
    refine lv_icmp_ne (tgt := 58) hx hb dX6_verdict_51 (by decide) (fun cq51 => ?_) (fun cq51 => ?_)
    · skip
      refine lv_iconst (v := 3) hx hb dX6_verdict_58 (by decide) ?_
      exact W.iret (v := 3) hx hb hr (fun t ht hW => ⟨⟨3, (), rfl, by first | exact Or.inr ⟨rfl, hp47 cq51⟩ | exact Or.inl (Or.inr (Or.inr rfl)), trivial⟩, hS.F ht⟩) hS.2.2 dX6_verdict_59
    · skip
      refine lv_iconst (v := 2) hx hb dX6_verdict_54 (by decide) ?_
      refine lv_goto (tgt := 59) hx hb dX6_verdict_55 (by decide) ?_
      exact W.iret (v := 2) hx hb hr (fun t ht hW => ⟨⟨2, (), rfl, by first | exact Or.inr ⟨rfl, hp47 cq51⟩ | exact Or.inl (Or.inr (Or.inr rfl)), trivial⟩, hS.F ht⟩) hS.2.2 dX6_verdict_59
  · skip
    refine lv_aload_n hx hb dX6_verdict_15 rfl (lv_at hl 0 rfl) ?_
    refine lv_aload_n hx hb dX6_verdict_16 rfl (lv_at hl 0 rfl) ?_
    refine va_get (D := K.1) (ci := 6) (v := .ref (a 1)) (C := RX6) (T := TX6) (N := 12) hx hb hts hinX6 hown hK hP 0 rfl rfl 1 (by decide) (hts (.fieldLink RX6 7 "CodedWordsModel" "s" "[I") (by decide +kernel)) (fun _ h9 => h9) rfl dX6_verdict_17 ?_
    refine lv_iconst (v := 2) hx hb dX6_verdict_20 (by decide) ?_
    refine lv_iload_n hx hb dX6_verdict_21 rfl (lv_at hl 1 rfl) ?_
    refine lv_iadd hx hb dX6_verdict_22 ?_
    refine lv_topi (fun vq22 eq22 => ?_)
    refine va_iald hx hb hK hP 1 0 rfl rfl (iq_inreg (by decide) (by decide) hr0 hr1 eq22) dX6_verdict_23 ?_
    refine lv_topi (fun vq23 eq23 => ?_)
    refine lv_aload_n hx hb dX6_verdict_24 rfl (lv_at hl 0 rfl) ?_
    refine va_get (D := K.1) (ci := 6) (v := .ref (a 1)) (C := RX6) (T := TX6) (N := 12) hx hb hts hinX6 hown hK hP 0 rfl rfl 1 (by decide) (hts (.fieldLink RX6 7 "CodedWordsModel" "s" "[I") (by decide +kernel)) (fun _ h9 => h9) rfl dX6_verdict_25 ?_
    refine lv_bipush (v := 6) hx hb dX6_verdict_28 (by decide) ?_
    refine lv_iload_n hx hb dX6_verdict_30 rfl (lv_at hl 1 rfl) ?_
    refine lv_iadd hx hb dX6_verdict_31 ?_
    refine lv_topi (fun vq31 eq31 => ?_)
    refine va_iald hx hb hK hP 1 0 rfl rfl (iq_inreg (by decide) (by decide) hr0 hr1 eq31) dX6_verdict_32 ?_
    refine lv_topi (fun vq32 eq32 => ?_)
    refine r_i (K := K) (w := mW K a th um sm sA uA kA iA wA fA cA yA tA) (va_runV (As := [.int vq23, .int vq32]) (rest := []) ⟨hx, hb, hml, hown, hts⟩ (k_X6_isRight l hMS vq23 vq32) (cwV 2 hts gX6_verdict_X6_isRight rfl rfl rfl (by decide +kernel) ⟨Nat.le_of_ble_eq_true rfl, Nat.le_of_ble_eq_true rfl⟩) (rPreV (m_rcv hK hP) hP hK hD hN) rfl rfl hl.1 rfl (lv_room (Nat.le_of_ble_eq_true rfl)) dX6_verdict_33 ⟨Nat.le_of_ble_eq_true rfl, Nat.le_of_ble_eq_true rfl⟩) hP hS (fun rq33 H locs hp33 hP hS => ?_)
    refine lv_if_eq (tgt := 43) hx hb dX6_verdict_36 (by decide) (fun cq36 => ?_) (fun cq36 => ?_)
    · skip
      refine lv_iconst (v := 1) hx hb dX6_verdict_43 (by decide) ?_
      exact W.iret (v := 1) hx hb hr (fun t ht hW => ⟨⟨1, (), rfl, by first | exact Or.inl (Or.inl rfl) | exact Or.inl (Or.inr (Or.inl rfl)), trivial⟩, hS.F ht⟩) hS.2.2 dX6_verdict_44
    · skip
      refine lv_iconst (v := 0) hx hb dX6_verdict_39 (by decide) ?_
      refine lv_goto (tgt := 44) hx hb dX6_verdict_40 (by decide) ?_
      exact W.iret (v := 0) hx hb hr (fun t ht hW => ⟨⟨0, (), rfl, by first | exact Or.inl (Or.inl rfl) | exact Or.inl (Or.inr (Or.inl rfl)), trivial⟩, hS.F ht⟩) hS.2.2 dX6_verdict_44
abbrev rmX6_firstCause : Room := { frames := 5, cells := 0, slots := 0, locals := 105 }
set_option maxHeartbeats 4000000 in
set_option maxRecDepth 100000 in
theorem k_X6_firstCause (l : Launch) {K : Cx} {a : Nat → Nat} {th um sm : Int32} {sA uA kA iA wA fA cA : Nat → Int32} {yA tA : Nat → Int64} (hMS : okS sA) (pq1 : Int32) (hr0 : 0 ≤ pq1.toInt) (hr1 : pq1.toInt ≤ 3) (hk : ∃ k : Int32, 0 ≤ k.toInt ∧ mCause sA pq1 k) : Ri l K yX6_firstCause wsX6_firstCause rmX6_firstCause [.ref (a 0), .int pq1] (mW K a th um sm sA uA kA iA wA fA cA yA tA) (fun _ => True) := by
  refine Met.ofW (cc := cX6_firstCause) (maxL := 3) (ret := (some .int)) (by decide) rfl ?_
  intro p e s m args below meth c s₁ B hml hv
  obtain ⟨rfl, hP, hK, hD, hN⟩ := hv
  have hx := B.exec
  have hb := B.bytes
  have hr := B.returns
  have hts := atoms_spec (ws := wsX6_firstCause) B.pre
  have hown : s.vm.findClass RX6 = some m.cls := findClass_of_methodNamed B.named
  have hlocks := B.notSynchronized
  have hS : va_S (fun _ => False) s.heap s.heap [] := va_S.rf
  have hl := lv_entry ([.ref (a 0), .int pq1]) (n := 3) (Nat.le_of_ble_eq_true rfl)
  rw [lg_entry_eq]
  generalize (lg_sl ([.ref (a 0), .int pq1]) ++ List.replicate (3 - (lg_sl ([.ref (a 0), .int pq1])).length) Slot.unset).toArray = ls at hl ⊢
  have hl : lv_has ls 3 [(0, .ref (a 0)), (1, .int pq1)] := hl
  obtain ⟨kq0, hk0, hk1⟩ := hk
  have hJ2 : ∀ (n2 : Nat) (H : Heap) (locs : List Loc) (zq2 : Int32), (va_P K.1 vwCl (mW K a th um sm sA uA kA iA wA fA cA yA tA) H) → (va_S (fun _ => False) s.heap H locs) → (0 ≤ zq2.toInt) → (zq2.toInt ≤ kq0.toInt) → ((kq0.toInt - zq2.toInt).toNat < n2) → ∀ (ls : Array Slot), lv_has ls 3 [(0, .ref (a 0)), (1, .int pq1), (2, .int zq2)] → W p l e rmX6_firstCause s m [.ref (a 0), .int pq1].toArray below meth c H locs 0 0 (MQ below (va_Qi (fun (r : Int32) (_ : Unit) => (fun _ => True) r) (fun _ _ => True) (fun _ => False)) [.ref (a 0), .int pq1].toArray s 0 0 (fun _ => False)) (F0 m 2 ls []) := by
    intro n2
    induction n2 with
    | zero =>
      intro H locs zq2 hP hS i2_0 i2_1 hm2 ls hl
      exact absurd hm2 (Nat.not_lt_zero _)
    | succ n2 ih2 =>
      intro H locs zq2 hP hS i2_0 i2_1 hm2 ls hl
      refine lv_aload_n hx hb dX6_firstCause_2 rfl (lv_at hl 0 rfl) ?_
      refine lv_iload_n hx hb dX6_firstCause_3 rfl (lv_at hl 1 rfl) ?_
      refine lv_iload_n hx hb dX6_firstCause_4 rfl (lv_at hl 2 rfl) ?_
      refine r_i (K := K) (w := mW K a th um sm sA uA kA iA wA fA cA yA tA) (va_runV (As := [.int pq1, .int zq2]) (rest := []) ⟨hx, hb, hml, hown, hts⟩ (k_X6_isCause l hMS pq1 zq2 (hr0) (hr1)) (cwV 2 hts gX6_firstCause_X6_isCause rfl rfl rfl (by decide +kernel) ⟨Nat.le_of_ble_eq_true rfl, Nat.le_of_ble_eq_true rfl⟩) (rPreV (m_rcv hK hP) hP hK hD hN) rfl rfl hl.1 rfl (lv_room (Nat.le_of_ble_eq_true rfl)) dX6_firstCause_5 ⟨Nat.le_of_ble_eq_true rfl, Nat.le_of_ble_eq_true rfl⟩) hP hS (fun rq5 H locs hp5 hP hS => ?_)
      refine lv_if_ne (tgt := 17) hx hb dX6_firstCause_8 (by decide) (fun cq8 => ?_) (fun cq8 => ?_)
      · skip
        refine lv_iload_n hx hb dX6_firstCause_17 rfl (lv_at hl 2 rfl) ?_
        exact W.iret (v := zq2) hx hb hr (fun t ht hW => ⟨⟨zq2, (), rfl, trivial, trivial⟩, hS.F ht⟩) hS.2.2 dX6_firstCause_18
      · skip
        have hne : zq2.toInt ≠ kq0.toInt := fun q => (hp5.resolve_left (fun qq2 => by rw [cq8] at qq2; exact absurd qq2.1 (by decide))).2 (by rw [show zq2 = kq0 from iq_eq.mpr q]; exact hk1)
        obtain ⟨vq11, eq11⟩ : ∃ y : Int32, y = zq2 + 1 := ⟨_, rfl⟩
        refine lv_iinc (v := vq11) (lv' := [(2, .int vq11), (0, .ref (a 0)), (1, .int pq1)]) hx hb dX6_firstCause_11 hl (k := 2) rfl (by rw [eq11]; rfl) (by decide) rfl (fun ls hl => ?_)
        refine lv_goto (tgt := 2) hx hb dX6_firstCause_14 (by decide) ?_
        exact ih2 _ _ vq11 hP hS (by first | (have h := iq_add1 eq11 (by have h9 := iq_hi kq0; omega); omega) | decide) (by first | (have h := iq_add1 eq11 (by have h9 := iq_hi kq0; omega); omega) | exact hk0) (by have h := iq_add1 eq11 (by have h9 := iq_hi kq0; omega); omega) _ (lv_sub hl [1, 2, 0] rfl)
  refine lv_iconst (v := 0) hx hb dX6_firstCause_0 (by decide) ?_
  refine lv_istore_n (lv' := [(2, .int 0), (0, .ref (a 0)), (1, .int pq1)]) hx hb dX6_firstCause_1 rfl hl (by decide) rfl (fun ls hl => ?_)
  exact hJ2 ((kq0.toInt - (0 : Int32).toInt).toNat + 1) _ _ 0 hP hS (by first | (have h := iq_add1 eq11 (by have h9 := iq_hi kq0; omega); omega) | decide) (by first | (have h := iq_add1 eq11 (by have h9 := iq_hi kq0; omega); omega) | exact hk0) (Nat.lt_succ_self _) _ (lv_sub hl [1, 2, 0] rfl)
abbrev rmX6_rightMany : Room := { frames := 4, cells := 0, slots := 0, locals := 83 }
set_option maxHeartbeats 4000000 in
set_option maxRecDepth 100000 in
theorem k_X6_rightMany (l : Launch) {K : Cx} {a : Nat → Nat} {th um sm : Int32} {sA uA kA iA wA fA cA : Nat → Int32} {yA tA : Nat → Int64} (hMS : okS sA)   : Ri l K yX6_rightMany wsX6_rightMany rmX6_rightMany [.ref (a 0)] (mW K a th um sm sA uA kA iA wA fA cA yA tA) (fun _ => True) := by
  refine Met.ofW (cc := cX6_rightMany) (maxL := 3) (ret := (some .int)) (by decide) rfl ?_
  intro p e s m args below meth c s₁ B hml hv
  obtain ⟨rfl, hP, hK, hD, hN⟩ := hv
  have hx := B.exec
  have hb := B.bytes
  have hr := B.returns
  have hts := atoms_spec (ws := wsX6_rightMany) B.pre
  have hown : s.vm.findClass RX6 = some m.cls := findClass_of_methodNamed B.named
  have hlocks := B.notSynchronized
  have hinX6 : ∀ w ∈ wsX60, w ∈ wsX6_rightMany := by decide +kernel
  have hS : va_S (fun _ => False) s.heap s.heap [] := va_S.rf
  have hl := lv_entry ([.ref (a 0)]) (n := 3) (Nat.le_of_ble_eq_true rfl)
  rw [lg_entry_eq]
  generalize (lg_sl ([.ref (a 0)]) ++ List.replicate (3 - (lg_sl ([.ref (a 0)])).length) Slot.unset).toArray = ls at hl ⊢
  have hl : lv_has ls 3 [(0, .ref (a 0))] := hl
  have hJ4 : ∀ (n4 : Nat) (H : Heap) (locs : List Loc) (zq1 : Int32) (zq2 : Int32), (va_P K.1 vwCl (mW K a th um sm sA uA kA iA wA fA cA yA tA) H) → (va_S (fun _ => False) s.heap H locs) → (0 ≤ zq2.toInt) → ((2147483647 - zq2.toInt).toNat < n4) → ∀ (ls : Array Slot), lv_has ls 3 [(0, .ref (a 0)), (1, .int zq1), (2, .int zq2)] → W p l e rmX6_rightMany s m [.ref (a 0)].toArray below meth c H locs 0 0 (MQ below (va_Qi (fun (r : Int32) (_ : Unit) => (fun _ => True) r) (fun _ _ => True) (fun _ => False)) [.ref (a 0)].toArray s 0 0 (fun _ => False)) (F0 m 4 ls []) := by
    intro n4
    induction n4 with
    | zero =>
      intro H locs zq1 zq2 hP hS i4_0 hm4 ls hl
      exact absurd hm4 (Nat.not_lt_zero _)
    | succ n4 ih4 =>
      intro H locs zq1 zq2 hP hS i4_0 hm4 ls hl
      refine lv_iload_n hx hb dX6_rightMany_4 rfl (lv_at hl 2 rfl) ?_
      refine lv_iconst (v := 4) hx hb dX6_rightMany_5 (by decide) ?_
      refine lv_icmp_ge (tgt := 47) hx hb dX6_rightMany_6 (by decide) (fun cq6 => ?_) (fun cq6 => ?_)
      · skip
        refine lv_iload_n hx hb dX6_rightMany_47 rfl (lv_at hl 1 rfl) ?_
        exact W.iret (v := zq1) hx hb hr (fun t ht hW => ⟨⟨zq1, (), rfl, trivial, trivial⟩, hS.F ht⟩) hS.2.2 dX6_rightMany_48
      · skip
        refine lv_iload_n hx hb dX6_rightMany_9 rfl (lv_at hl 1 rfl) ?_
        refine lv_aload_n hx hb dX6_rightMany_10 rfl (lv_at hl 0 rfl) ?_
        refine lv_aload_n hx hb dX6_rightMany_11 rfl (lv_at hl 0 rfl) ?_
        refine va_get (D := K.1) (ci := 6) (v := .ref (a 1)) (C := RX6) (T := TX6) (N := 12) hx hb hts hinX6 hown hK hP 0 rfl rfl 1 (by decide) (hts (.fieldLink RX6 7 "CodedWordsModel" "s" "[I") (by decide +kernel)) (fun _ h9 => h9) rfl dX6_rightMany_12 ?_
        refine lv_iconst (v := 2) hx hb dX6_rightMany_15 (by decide) ?_
        refine lv_iload_n hx hb dX6_rightMany_16 rfl (lv_at hl 2 rfl) ?_
        refine lv_iadd hx hb dX6_rightMany_17 ?_
        refine lv_topi (fun vq17 eq17 => ?_)
        refine va_iald hx hb hK hP 1 0 rfl rfl (iq_inreg (by decide) (by decide) i4_0 (by rw [iq_le] at cq6; have h9 : ¬ (4 : Int) ≤ zq2.toInt := cq6; omega) eq17) dX6_rightMany_18 ?_
        refine lv_topi (fun vq18 eq18 => ?_)
        refine lv_aload_n hx hb dX6_rightMany_19 rfl (lv_at hl 0 rfl) ?_
        refine va_get (D := K.1) (ci := 6) (v := .ref (a 1)) (C := RX6) (T := TX6) (N := 12) hx hb hts hinX6 hown hK hP 0 rfl rfl 1 (by decide) (hts (.fieldLink RX6 7 "CodedWordsModel" "s" "[I") (by decide +kernel)) (fun _ h9 => h9) rfl dX6_rightMany_20 ?_
        refine lv_bipush (v := 6) hx hb dX6_rightMany_23 (by decide) ?_
        refine lv_iload_n hx hb dX6_rightMany_25 rfl (lv_at hl 2 rfl) ?_
        refine lv_iadd hx hb dX6_rightMany_26 ?_
        refine lv_topi (fun vq26 eq26 => ?_)
        refine va_iald hx hb hK hP 1 0 rfl rfl (iq_inreg (by decide) (by decide) i4_0 (by rw [iq_le] at cq6; have h9 : ¬ (4 : Int) ≤ zq2.toInt := cq6; omega) eq26) dX6_rightMany_27 ?_
        refine lv_topi (fun vq27 eq27 => ?_)
        refine r_i (K := K) (w := mW K a th um sm sA uA kA iA wA fA cA yA tA) (va_runV (As := [.int vq18, .int vq27]) (rest := [.int zq1]) ⟨hx, hb, hml, hown, hts⟩ (k_X6_isRight l hMS vq18 vq27) (cwV 2 hts gX6_rightMany_X6_isRight rfl rfl rfl (by decide +kernel) ⟨Nat.le_of_ble_eq_true rfl, Nat.le_of_ble_eq_true rfl⟩) (rPreV (m_rcv hK hP) hP hK hD hN) rfl rfl hl.1 rfl (lv_room (Nat.le_of_ble_eq_true rfl)) dX6_rightMany_28 ⟨Nat.le_of_ble_eq_true rfl, Nat.le_of_ble_eq_true rfl⟩) hP hS (fun rq28 H locs hp28 hP hS => ?_)
        refine lv_if_eq (tgt := 38) hx hb dX6_rightMany_31 (by decide) (fun cq31 => ?_) (fun cq31 => ?_)
        · skip
          refine lv_iconst (v := 0) hx hb dX6_rightMany_38 (by decide) ?_
          refine lv_iadd hx hb dX6_rightMany_39 ?_
          refine lv_topi (fun vq39 eq39 => ?_)
          refine lv_istore_n (lv' := [(1, .int vq39), (0, .ref (a 0)), (2, .int zq2)]) hx hb dX6_rightMany_40 rfl hl (by decide) rfl (fun ls hl => ?_)
          obtain ⟨vq41, eq41⟩ : ∃ y : Int32, y = zq2 + 1 := ⟨_, rfl⟩
          refine lv_iinc (v := vq41) (lv' := [(2, .int vq41), (1, .int vq39), (0, .ref (a 0))]) hx hb dX6_rightMany_41 hl (k := 2) rfl (by rw [eq41]; rfl) (by decide) rfl (fun ls hl => ?_)
          refine lv_goto (tgt := 4) hx hb dX6_rightMany_44 (by decide) ?_
          exact ih4 _ _ vq39 vq41 hP hS (by first | exact iq_nn1 i4_0 cq6 eq41 | decide) (iq_up hm4 cq6 eq41) _ (lv_sub hl [2, 1, 0] rfl)
        · skip
          refine lv_iconst (v := 1) hx hb dX6_rightMany_34 (by decide) ?_
          refine lv_goto (tgt := 39) hx hb dX6_rightMany_35 (by decide) ?_
          refine lv_iadd hx hb dX6_rightMany_39 ?_
          refine lv_topi (fun vq39 eq39 => ?_)
          refine lv_istore_n (lv' := [(1, .int vq39), (0, .ref (a 0)), (2, .int zq2)]) hx hb dX6_rightMany_40 rfl hl (by decide) rfl (fun ls hl => ?_)
          obtain ⟨vq41, eq41⟩ : ∃ y : Int32, y = zq2 + 1 := ⟨_, rfl⟩
          refine lv_iinc (v := vq41) (lv' := [(2, .int vq41), (1, .int vq39), (0, .ref (a 0))]) hx hb dX6_rightMany_41 hl (k := 2) rfl (by rw [eq41]; rfl) (by decide) rfl (fun ls hl => ?_)
          refine lv_goto (tgt := 4) hx hb dX6_rightMany_44 (by decide) ?_
          exact ih4 _ _ vq39 vq41 hP hS (by first | exact iq_nn1 i4_0 cq6 eq41 | decide) (iq_up hm4 cq6 eq41) _ (lv_sub hl [2, 1, 0] rfl)
  refine lv_iconst (v := 0) hx hb dX6_rightMany_0 (by decide) ?_
  refine lv_istore_n (lv' := [(1, .int 0), (0, .ref (a 0))]) hx hb dX6_rightMany_1 rfl hl (by decide) rfl (fun ls hl => ?_)
  refine lv_iconst (v := 0) hx hb dX6_rightMany_2 (by decide) ?_
  refine lv_istore_n (lv' := [(2, .int 0), (1, .int 0), (0, .ref (a 0))]) hx hb dX6_rightMany_3 rfl hl (by decide) rfl (fun ls hl => ?_)
  exact hJ4 ((2147483647 - (0 : Int32).toInt).toNat + 1) _ _ 0 0 hP hS (by first | exact iq_nn1 i4_0 cq6 eq41 | decide) (Nat.lt_succ_self _) _ (lv_sub hl [2, 1, 0] rfl)

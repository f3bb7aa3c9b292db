abbrev rmX6_in : Room := { frames := 0, cells := 0, slots := 0, locals := 0 }
set_option maxHeartbeats 4000000 in
set_option maxRecDepth 100000 in
theorem k_X6_in (l : Launch) (pq0 : Int32) (pq1 : Int32) (pq2 : Int32)  : Pi_ l yX6_in wsX6_in rmX6_in [.int pq0, .int pq1, .int pq2] (fun r => (r = 0 ∧ ¬ (pq1 ≤ pq0 ∧ pq0 ≤ pq2)) ∨ (r = 1 ∧ pq1 ≤ pq0 ∧ pq0 ≤ pq2)) := by
  refine Met.ofW (cc := cX6_in) (maxL := 3) (ret := (some .boolean)) (by decide) rfl ?_
  intro p e s m args below meth c s₁ B hml hv
  obtain ⟨rfl, -⟩ := hv
  have hx := B.exec
  have hb := B.bytes
  have hr := B.returns
  have hts := atoms_spec (ws := wsX6_in) B.pre
  have hown : s.vm.findClass RX6 = some m.cls := findClass_of_methodNamed B.named
  have hlocks := B.notSynchronized
  have hS : va_S (fun _ => False) s.heap s.heap [] := va_S.rf
  have hl := lv_entry ([.int pq0, .int pq1, .int pq2]) (n := 3) (Nat.le_of_ble_eq_true rfl)
  rw [lg_entry_eq]
  generalize (lg_sl ([.int pq0, .int pq1, .int pq2]) ++ List.replicate (3 - (lg_sl ([.int pq0, .int pq1, .int pq2])).length) Slot.unset).toArray = ls at hl ⊢
  have hl : lv_has ls 3 [(0, .int pq0), (1, .int pq1), (2, .int pq2)] := hl
  refine lv_iload_n hx hb dX6_in_0 rfl (lv_at hl 0 rfl) ?_
  refine lv_iload_n hx hb dX6_in_1 rfl (lv_at hl 1 rfl) ?_
  refine lv_icmp_lt (tgt := 14) hx hb dX6_in_2 (by decide) (fun cq2 => ?_) (fun cq2 => ?_)
  · skip
    refine lv_iconst (v := 0) hx hb dX6_in_14 (by decide) ?_
    exact W.zret (v := 0) (ty := .boolean) hx hb hr (rfl) (fun t ht hW => ⟨⟨0, (), rfl, by first | exact Or.inr ⟨rfl, by rw [iq_lt] at cq2; rw [iq_le]; exact Int.not_lt.mp cq2, by rw [iq_lt] at cq7; rw [iq_le]; exact Int.not_lt.mp cq7⟩ | exact Or.inl ⟨rfl, fun h => by rw [iq_lt] at cq2; have h1 := h.1; rw [iq_le] at h1; omega⟩ | exact Or.inl ⟨rfl, fun h => by rw [iq_lt] at cq7; have h1 := h.2; rw [iq_le] at h1; omega⟩, trivial⟩, hS.F ht⟩) hS.2.2 dX6_in_15
  · skip
    refine lv_iload_n hx hb dX6_in_5 rfl (lv_at hl 0 rfl) ?_
    refine lv_iload_n hx hb dX6_in_6 rfl (lv_at hl 2 rfl) ?_
    refine lv_icmp_gt (tgt := 14) hx hb dX6_in_7 (by decide) (fun cq7 => ?_) (fun cq7 => ?_)
    · skip
      refine lv_iconst (v := 0) hx hb dX6_in_14 (by decide) ?_
      exact W.zret (v := 0) (ty := .boolean) hx hb hr (rfl) (fun t ht hW => ⟨⟨0, (), rfl, by first | exact Or.inr ⟨rfl, by rw [iq_lt] at cq2; rw [iq_le]; exact Int.not_lt.mp cq2, by rw [iq_lt] at cq7; rw [iq_le]; exact Int.not_lt.mp cq7⟩ | exact Or.inl ⟨rfl, fun h => by rw [iq_lt] at cq2; have h1 := h.1; rw [iq_le] at h1; omega⟩ | exact Or.inl ⟨rfl, fun h => by rw [iq_lt] at cq7; have h1 := h.2; rw [iq_le] at h1; omega⟩, trivial⟩, hS.F ht⟩) hS.2.2 dX6_in_15
    · skip
      refine lv_iconst (v := 1) hx hb dX6_in_10 (by decide) ?_
      refine lv_goto (tgt := 15) hx hb dX6_in_11 (by decide) ?_
      exact W.zret (v := 1) (ty := .boolean) hx hb hr (rfl) (fun t ht hW => ⟨⟨1, (), rfl, by first | exact Or.inr ⟨rfl, by rw [iq_lt] at cq2; rw [iq_le]; exact Int.not_lt.mp cq2, by rw [iq_lt] at cq7; rw [iq_le]; exact Int.not_lt.mp cq7⟩ | exact Or.inl ⟨rfl, fun h => by rw [iq_lt] at cq2; have h1 := h.1; rw [iq_le] at h1; omega⟩ | exact Or.inl ⟨rfl, fun h => by rw [iq_lt] at cq7; have h1 := h.2; rw [iq_le] at h1; omega⟩, trivial⟩, hS.F ht⟩) hS.2.2 dX6_in_15
abbrev rmX6_isRegister : Room := { frames := 1, cells := 0, slots := 0, locals := 22 }
set_option maxHeartbeats 4000000 in
set_option maxRecDepth 100000 in
theorem k_X6_isRegister (l : Launch) (pq0 : Int32)  : Pi_ l yX6_isRegister wsX6_isRegister rmX6_isRegister [.int pq0] (fun r => r = 0 ∨ (r = 1 ∧ 0 ≤ pq0.toInt ∧ pq0.toInt ≤ 3)) := by
  refine Met.ofW (cc := cX6_isRegister) (maxL := 1) (ret := (some .boolean)) (by decide) rfl ?_
  intro p e s m args below meth c s₁ B hml hv
  obtain ⟨rfl, -⟩ := hv
  have hx := B.exec
  have hb := B.bytes
  have hr := B.returns
  have hts := atoms_spec (ws := wsX6_isRegister) B.pre
  have hown : s.vm.findClass RX6 = some m.cls := findClass_of_methodNamed B.named
  have hlocks := B.notSynchronized
  have hS : va_S (fun _ => False) s.heap s.heap [] := va_S.rf
  have hl := lv_entry ([.int pq0]) (n := 1) (Nat.le_of_ble_eq_true rfl)
  rw [lg_entry_eq]
  generalize (lg_sl ([.int pq0]) ++ List.replicate (1 - (lg_sl ([.int pq0])).length) Slot.unset).toArray = ls at hl ⊢
  have hl : lv_has ls 1 [(0, .int pq0)] := hl
  refine lv_iload_n hx hb dX6_isRegister_0 rfl (lv_at hl 0 rfl) ?_
  refine lv_iconst (v := 0) hx hb dX6_isRegister_1 (by decide) ?_
  refine lv_iconst (v := 3) hx hb dX6_isRegister_2 (by decide) ?_
  refine p_i (va_runS (As := [.int pq0, .int 0, .int 3]) (rest := []) ⟨hx, hb, hml, hown, hts⟩ (k_X6_in l pq0 0 3) (va_cwS 3 hts gX6_isRegister_X6_in rfl rfl rfl (by decide +kernel) ⟨Nat.le_of_ble_eq_true rfl, Nat.le_of_ble_eq_true rfl⟩) (pPreS) rfl rfl hl.1 rfl (lv_room (Nat.le_of_ble_eq_true rfl)) dX6_isRegister_3 ⟨Nat.le_of_ble_eq_true rfl, Nat.le_of_ble_eq_true rfl⟩) hS (fun rq3 H locs hp3 hS => ?_)
  exact W.zret (v := rq3) (ty := .boolean) hx hb hr (iq_z01 (hp3.imp (fun h => h.1) (fun h => h.1))) (fun t ht hW => ⟨⟨rq3, (), rfl, hp3.imp (fun h => h.1) (fun h => ⟨h.1, by have h1 := h.2.1; rw [iq_le] at h1; exact h1, by have h1 := h.2.2; rw [iq_le] at h1; exact h1⟩), trivial⟩, hS.F ht⟩) hS.2.2 dX6_isRegister_6
abbrev rmX6_isConstant : Room := { frames := 1, cells := 0, slots := 0, locals := 22 }
set_option maxHeartbeats 4000000 in
set_option maxRecDepth 100000 in
theorem k_X6_isConstant (l : Launch) (pq0 : Int32)  : Pi_ l yX6_isConstant wsX6_isConstant rmX6_isConstant [.int pq0] (fun r => (r = 0 ∨ (r = 1 ∧ isC pq0)) ∧ (r = 0 → ¬ isC pq0)) := by
  refine Met.ofW (cc := cX6_isConstant) (maxL := 1) (ret := (some .boolean)) (by decide) rfl ?_
  intro p e s m args below meth c s₁ B hml hv
  obtain ⟨rfl, -⟩ := hv
  have hx := B.exec
  have hb := B.bytes
  have hr := B.returns
  have hts := atoms_spec (ws := wsX6_isConstant) B.pre
  have hown : s.vm.findClass RX6 = some m.cls := findClass_of_methodNamed B.named
  have hlocks := B.notSynchronized
  have hS : va_S (fun _ => False) s.heap s.heap [] := va_S.rf
  have hl := lv_entry ([.int pq0]) (n := 1) (Nat.le_of_ble_eq_true rfl)
  rw [lg_entry_eq]
  generalize (lg_sl ([.int pq0]) ++ List.replicate (1 - (lg_sl ([.int pq0])).length) Slot.unset).toArray = ls at hl ⊢
  have hl : lv_has ls 1 [(0, .int pq0)] := hl
  refine lv_iload_n hx hb dX6_isConstant_0 rfl (lv_at hl 0 rfl) ?_
  refine lv_iconst (v := 3) hx hb dX6_isConstant_1 (by decide) ?_
  refine lv_sipush (v := 199) hx hb dX6_isConstant_2 (by decide) ?_
  refine p_i (va_runS (As := [.int pq0, .int 3, .int 199]) (rest := []) ⟨hx, hb, hml, hown, hts⟩ (k_X6_in l pq0 3 199) (va_cwS 3 hts gX6_isConstant_X6_in rfl rfl rfl (by decide +kernel) ⟨Nat.le_of_ble_eq_true rfl, Nat.le_of_ble_eq_true rfl⟩) (pPreS) rfl rfl hl.1 rfl (lv_room (Nat.le_of_ble_eq_true rfl)) dX6_isConstant_5 ⟨Nat.le_of_ble_eq_true rfl, Nat.le_of_ble_eq_true rfl⟩) hS (fun rq5 H locs hp5 hS => ?_)
  refine lv_if_eq (tgt := 22) hx hb dX6_isConstant_8 (by decide) (fun cq8 => ?_) (fun cq8 => ?_)
  · skip
    refine lv_iconst (v := 0) hx hb dX6_isConstant_22 (by decide) ?_
    exact W.zret (v := 0) (ty := .boolean) hx hb hr (rfl) (fun t ht hW => ⟨⟨0, (), rfl, by first | exact ⟨Or.inl rfl, fun _ h => (hp5.resolve_right (fun q => by rw [q.1] at cq8; exact absurd cq8 (by decide))).2 ⟨by rw [iq_le]; exact h.1, by rw [iq_le]; exact h.2.1⟩⟩ | exact ⟨Or.inl rfl, fun _ h => cq15 (by rw [eq13, iq_eq, iq_rem]; show pq0.toInt.tmod 2 = 1; rw [Int.tmod_eq_emod_of_nonneg (by have h7 := h.1; omega)]; exact h.2.2)⟩ | (have h := hp5.resolve_left (fun q => cq8 q.1); have h7 : (3 : Int) ≤ pq0.toInt := by have h1 := h.2.1; rw [iq_le] at h1; exact h1) <;> (have h8 : pq0.toInt ≤ 199 := by have h1 := h.2.2; rw [iq_le] at h1; exact h1) <;> (have h3 : vq13.toInt = pq0.toInt.tmod 2 := by rw [eq13, iq_rem]; rfl) <;> (have h4 : vq13.toInt = 1 := by rw [cq15]; rfl) <;> (rw [Int.tmod_eq_emod_of_nonneg (by omega)] at h3; exact ⟨Or.inr ⟨rfl, h7, h8, by omega⟩, fun q => absurd q (by decide)⟩), trivial⟩, hS.F ht⟩) hS.2.2 dX6_isConstant_23
  · skip
    refine lv_iload_n hx hb dX6_isConstant_11 rfl (lv_at hl 0 rfl) ?_
    refine lv_iconst (v := 2) hx hb dX6_isConstant_12 (by decide) ?_
    refine lv_irem hx hb dX6_isConstant_13 (by decide) ?_
    refine lv_topi (fun vq13 eq13 => ?_)
    refine lv_iconst (v := 1) hx hb dX6_isConstant_14 (by decide) ?_
    refine lv_icmp_ne (tgt := 22) hx hb dX6_isConstant_15 (by decide) (fun cq15 => ?_) (fun cq15 => ?_)
    · skip
      refine lv_iconst (v := 0) hx hb dX6_isConstant_22 (by decide) ?_
      exact W.zret (v := 0) (ty := .boolean) hx hb hr (rfl) (fun t ht hW => ⟨⟨0, (), rfl, by first | exact ⟨Or.inl rfl, fun _ h => (hp5.resolve_right (fun q => by rw [q.1] at cq8; exact absurd cq8 (by decide))).2 ⟨by rw [iq_le]; exact h.1, by rw [iq_le]; exact h.2.1⟩⟩ | exact ⟨Or.inl rfl, fun _ h => cq15 (by rw [eq13, iq_eq, iq_rem]; show pq0.toInt.tmod 2 = 1; rw [Int.tmod_eq_emod_of_nonneg (by have h7 := h.1; omega)]; exact h.2.2)⟩ | (have h := hp5.resolve_left (fun q => cq8 q.1); have h7 : (3 : Int) ≤ pq0.toInt := by have h1 := h.2.1; rw [iq_le] at h1; exact h1) <;> (have h8 : pq0.toInt ≤ 199 := by have h1 := h.2.2; rw [iq_le] at h1; exact h1) <;> (have h3 : vq13.toInt = pq0.toInt.tmod 2 := by rw [eq13, iq_rem]; rfl) <;> (have h4 : vq13.toInt = 1 := by rw [cq15]; rfl) <;> (rw [Int.tmod_eq_emod_of_nonneg (by omega)] at h3; exact ⟨Or.inr ⟨rfl, h7, h8, by omega⟩, fun q => absurd q (by decide)⟩), trivial⟩, hS.F ht⟩) hS.2.2 dX6_isConstant_23
    · skip
      refine lv_iconst (v := 1) hx hb dX6_isConstant_18 (by decide) ?_
      refine lv_goto (tgt := 23) hx hb dX6_isConstant_19 (by decide) ?_
      exact W.zret (v := 1) (ty := .boolean) hx hb hr (rfl) (fun t ht hW => ⟨⟨1, (), rfl, by first | exact ⟨Or.inl rfl, fun _ h => (hp5.resolve_right (fun q => by rw [q.1] at cq8; exact absurd cq8 (by decide))).2 ⟨by rw [iq_le]; exact h.1, by rw [iq_le]; exact h.2.1⟩⟩ | exact ⟨Or.inl rfl, fun _ h => cq15 (by rw [eq13, iq_eq, iq_rem]; show pq0.toInt.tmod 2 = 1; rw [Int.tmod_eq_emod_of_nonneg (by have h7 := h.1; omega)]; exact h.2.2)⟩ | (have h := hp5.resolve_left (fun q => cq8 q.1); have h7 : (3 : Int) ≤ pq0.toInt := by have h1 := h.2.1; rw [iq_le] at h1; exact h1) <;> (have h8 : pq0.toInt ≤ 199 := by have h1 := h.2.2; rw [iq_le] at h1; exact h1) <;> (have h3 : vq13.toInt = pq0.toInt.tmod 2 := by rw [eq13, iq_rem]; rfl) <;> (have h4 : vq13.toInt = 1 := by rw [cq15]; rfl) <;> (rw [Int.tmod_eq_emod_of_nonneg (by omega)] at h3; exact ⟨Or.inr ⟨rfl, h7, h8, by omega⟩, fun q => absurd q (by decide)⟩), trivial⟩, hS.F ht⟩) hS.2.2 dX6_isConstant_23
abbrev rmX6_rest : Room := { frames := 0, cells := 0, slots := 0, locals := 0 }
set_option maxHeartbeats 4000000 in
set_option maxRecDepth 100000 in
theorem k_X6_rest (l : Launch) (pq0 : Int64) (pq2 : Int32) (hm : 0 < pq2.toInt) : Pi_ l yX6_rest wsX6_rest rmX6_rest [.long pq0, .int pq2] (fun r => r = mRest pq0 pq2) := by
  refine Met.ofW (cc := cX6_rest) (maxL := 4) (ret := (some .int)) (by decide) rfl ?_
  intro p e s m args below meth c s₁ B hml hv
  obtain ⟨rfl, -⟩ := hv
  have hx := B.exec
  have hb := B.bytes
  have hr := B.returns
  have hts := atoms_spec (ws := wsX6_rest) B.pre
  have hown : s.vm.findClass RX6 = some m.cls := findClass_of_methodNamed B.named
  have hlocks := B.notSynchronized
  have hS : va_S (fun _ => False) s.heap s.heap [] := va_S.rf
  have hl := lv_entry ([.long pq0, .int pq2]) (n := 4) (Nat.le_of_ble_eq_true rfl)
  rw [lg_entry_eq]
  generalize (lg_sl ([.long pq0, .int pq2]) ++ List.replicate (4 - (lg_sl ([.long pq0, .int pq2])).length) Slot.unset).toArray = ls at hl ⊢
  have hl : lv_has ls 4 [(0, .long pq0), (2, .int pq2)] := hl
  refine lv_lload_n hx hb dX6_rest_0 rfl (lv_at hl 0 rfl) ?_
  refine lv_iload_n hx hb dX6_rest_1 rfl (lv_at hl 1 rfl) ?_
  refine lv_i2l (v := (pq2 : Int32).toInt64) hx hb dX6_rest_2 rfl ?_
  refine lv_topl (fun vq2 eq2 => ?_)
  refine lv_lrem hx hb dX6_rest_3 (fun h => by rw [eq2] at h; have h2 := congrArg Int64.toInt h; rw [Int32.toInt_toInt64] at h2; have h4 : pq2.toInt = 0 := h2; omega) ?_
  refine lv_topl (fun vq3 eq3 => ?_)
  refine lv_l2i (v := (vq3 : Int64).toInt32) hx hb dX6_rest_4 rfl ?_
  refine lv_topi (fun vq4 eq4 => ?_)
  refine lv_istore_n (lv' := [(3, .int vq4), (0, .long pq0), (2, .int pq2)]) hx hb dX6_rest_5 rfl hl (by decide) rfl (fun ls hl => ?_)
  refine lv_iload_n hx hb dX6_rest_6 rfl (lv_at hl 0 rfl) ?_
  refine lv_if_ge (tgt := 16) hx hb dX6_rest_7 (by decide) (fun cq7 => ?_) (fun cq7 => ?_)
  · skip
    refine lv_iload_n hx hb dX6_rest_16 rfl (lv_at hl 0 rfl) ?_
    exact W.iret (v := vq4) hx hb hr (fun t ht hW => ⟨⟨vq4, (), rfl, by unfold mRest; subst eq2; subst eq3; subst eq4; first | (rw [if_pos cq7]; done) | (rw [if_neg cq7]; exact eq12), trivial⟩, hS.F ht⟩) hS.2.2 dX6_rest_17
  · skip
    refine lv_iload_n hx hb dX6_rest_10 rfl (lv_at hl 0 rfl) ?_
    refine lv_iload_n hx hb dX6_rest_11 rfl (lv_at hl 2 rfl) ?_
    refine lv_iadd hx hb dX6_rest_12 ?_
    refine lv_topi (fun vq12 eq12 => ?_)
    refine lv_goto (tgt := 17) hx hb dX6_rest_13 (by decide) ?_
    exact W.iret (v := vq12) hx hb hr (fun t ht hW => ⟨⟨vq12, (), rfl, by unfold mRest; subst eq2; subst eq3; subst eq4; first | (rw [if_pos cq7]; done) | (rw [if_neg cq7]; exact eq12), trivial⟩, hS.F ht⟩) hS.2.2 dX6_rest_17
abbrev rmX6_by : Room := { frames := 0, cells := 0, slots := 0, locals := 0 }
set_option maxHeartbeats 4000000 in
set_option maxRecDepth 100000 in
theorem k_X6_by (l : Launch) (pq0 : Int32)  : Pi_ l yX6_by wsX6_by rmX6_by [.int pq0] (fun r => r = mBy pq0) := by
  refine Met.ofW (cc := cX6_by) (maxL := 1) (ret := (some .int)) (by decide) rfl ?_
  intro p e s m args below meth c s₁ B hml hv
  obtain ⟨rfl, -⟩ := hv
  have hx := B.exec
  have hb := B.bytes
  have hr := B.returns
  have hts := atoms_spec (ws := wsX6_by) B.pre
  have hown : s.vm.findClass RX6 = some m.cls := findClass_of_methodNamed B.named
  have hlocks := B.notSynchronized
  have hS : va_S (fun _ => False) s.heap s.heap [] := va_S.rf
  have hl := lv_entry ([.int pq0]) (n := 1) (Nat.le_of_ble_eq_true rfl)
  rw [lg_entry_eq]
  generalize (lg_sl ([.int pq0]) ++ List.replicate (1 - (lg_sl ([.int pq0])).length) Slot.unset).toArray = ls at hl ⊢
  have hl : lv_has ls 1 [(0, .int pq0)] := hl
  refine lv_iload_n hx hb dX6_by_0 rfl (lv_at hl 0 rfl) ?_
  refine lv_iconst (v := 2) hx hb dX6_by_1 (by decide) ?_
  refine lv_irem hx hb dX6_by_2 (by decide) ?_
  refine lv_topi (fun vq2 eq2 => ?_)
  refine lv_if_ne (tgt := 14) hx hb dX6_by_3 (by decide) (fun cq3 => ?_) (fun cq3 => ?_)
  · skip
    refine lv_iconst (v := 1) hx hb dX6_by_14 (by decide) ?_
    refine lv_iload_n hx hb dX6_by_15 rfl (lv_at hl 0 rfl) ?_
    refine lv_iconst (v := 2) hx hb dX6_by_16 (by decide) ?_
    refine lv_idiv hx hb dX6_by_17 (by decide) ?_
    refine lv_topi (fun vq17 eq17 => ?_)
    refine lv_ishl hx hb dX6_by_18 ?_
    refine lv_topi (fun vq18 eq18 => ?_)
    refine lv_ineg hx hb dX6_by_19 ?_
    refine lv_topi (fun vq19 eq19 => ?_)
    exact W.iret (v := vq19) hx hb hr (fun t ht hW => ⟨⟨vq19, (), rfl, by unfold mBy; subst eq2; first | (rw [if_pos cq3]; rw [eq10, eq9]; done) | (rw [if_neg cq3]; rw [eq19, eq18, eq17]), trivial⟩, hS.F ht⟩) hS.2.2 dX6_by_20
  · skip
    refine lv_iconst (v := 1) hx hb dX6_by_6 (by decide) ?_
    refine lv_iload_n hx hb dX6_by_7 rfl (lv_at hl 0 rfl) ?_
    refine lv_iconst (v := 2) hx hb dX6_by_8 (by decide) ?_
    refine lv_idiv hx hb dX6_by_9 (by decide) ?_
    refine lv_topi (fun vq9 eq9 => ?_)
    refine lv_ishl hx hb dX6_by_10 ?_
    refine lv_topi (fun vq10 eq10 => ?_)
    refine lv_goto (tgt := 20) hx hb dX6_by_11 (by decide) ?_
    exact W.iret (v := vq10) hx hb hr (fun t ht hW => ⟨⟨vq10, (), rfl, by unfold mBy; subst eq2; first | (rw [if_pos cq3]; rw [eq10, eq9]; done) | (rw [if_neg cq3]; rw [eq19, eq18, eq17]), trivial⟩, hS.F ht⟩) hS.2.2 dX6_by_20
abbrev rmX6_makes : Room := { frames := 0, cells := 0, slots := 0, locals := 0 }
set_option maxHeartbeats 4000000 in
set_option maxRecDepth 100000 in
theorem k_X6_makes (l : Launch) (pq0 : Int32) (pq1 : Int64) (pq3 : Int64) (pq5 : Int32) (hm : 0 < pq5.toInt) : Pl_ l yX6_makes wsX6_makes rmX6_makes [.int pq0, .long pq1, .long pq3, .int pq5] (fun _ => True) := by
  refine Met.ofW (cc := cX6_makes) (maxL := 6) (ret := (some .long)) (by decide) rfl ?_
  intro p e s m args below meth c s₁ B hml hv
  obtain ⟨rfl, -⟩ := hv
  have hx := B.exec
  have hb := B.bytes
  have hr := B.returns
  have hts := atoms_spec (ws := wsX6_makes) B.pre
  have hown : s.vm.findClass RX6 = some m.cls := findClass_of_methodNamed B.named
  have hlocks := B.notSynchronized
  have hS : va_S (fun _ => False) s.heap s.heap [] := va_S.rf
  have hl := lv_entry ([.int pq0, .long pq1, .long pq3, .int pq5]) (n := 6) (Nat.le_of_ble_eq_true rfl)
  rw [lg_entry_eq]
  generalize (lg_sl ([.int pq0, .long pq1, .long pq3, .int pq5]) ++ List.replicate (6 - (lg_sl ([.int pq0, .long pq1, .long pq3, .int pq5])).length) Slot.unset).toArray = ls at hl ⊢
  have hl : lv_has ls 6 [(0, .int pq0), (1, .long pq1), (3, .long pq3), (5, .int pq5)] := hl
  refine lv_iload_n hx hb dX6_makes_0 rfl (lv_at hl 0 rfl) ?_
  refine lv_if_ne (tgt := 10) hx hb dX6_makes_1 (by decide) (fun cq1 => ?_) (fun cq1 => ?_)
  · skip
    refine lv_iload_n hx hb dX6_makes_10 rfl (lv_at hl 0 rfl) ?_
    refine lv_iconst (v := 1) hx hb dX6_makes_11 (by decide) ?_
    refine lv_icmp_ne (tgt := 21) hx hb dX6_makes_12 (by decide) (fun cq12 => ?_) (fun cq12 => ?_)
    · skip
      refine lv_iload_n hx hb dX6_makes_21 rfl (lv_at hl 0 rfl) ?_
      refine lv_iconst (v := 2) hx hb dX6_makes_22 (by decide) ?_
      refine lv_icmp_ne (tgt := 36) hx hb dX6_makes_23 (by decide) (fun cq23 => ?_) (fun cq23 => ?_)
      · skip
        refine lv_iload_n hx hb dX6_makes_36 rfl (lv_at hl 0 rfl) ?_
        refine lv_iconst (v := 3) hx hb dX6_makes_37 (by decide) ?_
        refine lv_icmp_ne (tgt := 47) hx hb dX6_makes_38 (by decide) (fun cq38 => ?_) (fun cq38 => ?_)
        · skip
          refine lv_iload_n hx hb dX6_makes_47 rfl (lv_at hl 0 rfl) ?_
          refine lv_iconst (v := 4) hx hb dX6_makes_48 (by decide) ?_
          refine lv_icmp_ne (tgt := 57) hx hb dX6_makes_49 (by decide) (fun cq49 => ?_) (fun cq49 => ?_)
          · skip
            refine lv_lload_n hx hb dX6_makes_57 rfl (lv_at hl 1 rfl) ?_
            exact W.lret (v := pq1) hx hb hr (fun t ht hW => ⟨⟨pq1, (), rfl, trivial, trivial⟩, hS.F ht⟩) hS.2.2 dX6_makes_58
          · skip
            refine lv_lload_n hx hb dX6_makes_52 rfl (lv_at hl 1 rfl) ?_
            refine lv_lneg hx hb dX6_makes_53 ?_
            refine lv_topl (fun vq53 eq53 => ?_)
            refine lv_goto (tgt := 58) hx hb dX6_makes_54 (by decide) ?_
            exact W.lret (v := vq53) hx hb hr (fun t ht hW => ⟨⟨vq53, (), rfl, trivial, trivial⟩, hS.F ht⟩) hS.2.2 dX6_makes_58
        · skip
          refine lv_lload_n hx hb dX6_makes_41 rfl (lv_at hl 1 rfl) ?_
          refine lv_lload_n hx hb dX6_makes_42 rfl (lv_at hl 1 rfl) ?_
          refine lv_ladd hx hb dX6_makes_43 ?_
          refine lv_topl (fun vq43 eq43 => ?_)
          refine lv_goto (tgt := 58) hx hb dX6_makes_44 (by decide) ?_
          exact W.lret (v := vq43) hx hb hr (fun t ht hW => ⟨⟨vq43, (), rfl, trivial, trivial⟩, hS.F ht⟩) hS.2.2 dX6_makes_58
      · skip
        refine lv_lload_n hx hb dX6_makes_26 rfl (lv_at hl 1 rfl) ?_
        refine lv_lload_n hx hb dX6_makes_27 rfl (lv_at hl 2 rfl) ?_
        refine lv_lmul hx hb dX6_makes_28 ?_
        refine lv_topl (fun vq28 eq28 => ?_)
        refine lv_iload hx hb dX6_makes_29 (lv_at hl 3 rfl) ?_
        refine lv_i2l (v := (pq5 : Int32).toInt64) hx hb dX6_makes_31 rfl ?_
        refine lv_topl (fun vq31 eq31 => ?_)
        refine lv_ldiv hx hb dX6_makes_32 (fun h => by rw [eq31] at h; have h2 := congrArg Int64.toInt h; rw [Int32.toInt_toInt64] at h2; have h4 : pq5.toInt = 0 := h2; omega) ?_
        refine lv_topl (fun vq32 eq32 => ?_)
        refine lv_goto (tgt := 58) hx hb dX6_makes_33 (by decide) ?_
        exact W.lret (v := vq32) hx hb hr (fun t ht hW => ⟨⟨vq32, (), rfl, trivial, trivial⟩, hS.F ht⟩) hS.2.2 dX6_makes_58
    · skip
      refine lv_lload_n hx hb dX6_makes_15 rfl (lv_at hl 1 rfl) ?_
      refine lv_lload_n hx hb dX6_makes_16 rfl (lv_at hl 2 rfl) ?_
      refine lv_lsub hx hb dX6_makes_17 ?_
      refine lv_topl (fun vq17 eq17 => ?_)
      refine lv_goto (tgt := 58) hx hb dX6_makes_18 (by decide) ?_
      exact W.lret (v := vq17) hx hb hr (fun t ht hW => ⟨⟨vq17, (), rfl, trivial, trivial⟩, hS.F ht⟩) hS.2.2 dX6_makes_58
  · skip
    refine lv_lload_n hx hb dX6_makes_4 rfl (lv_at hl 1 rfl) ?_
    refine lv_lload_n hx hb dX6_makes_5 rfl (lv_at hl 2 rfl) ?_
    refine lv_ladd hx hb dX6_makes_6 ?_
    refine lv_topl (fun vq6 eq6 => ?_)
    refine lv_goto (tgt := 58) hx hb dX6_makes_7 (by decide) ?_
    exact W.lret (v := vq6) hx hb hr (fun t ht hW => ⟨⟨vq6, (), rfl, trivial, trivial⟩, hS.F ht⟩) hS.2.2 dX6_makes_58
abbrev rmX6_gcd : Room := { frames := 0, cells := 0, slots := 0, locals := 0 }
set_option maxHeartbeats 4000000 in
set_option maxRecDepth 100000 in
theorem k_X6_gcd (l : Launch) (pq0 : Int64) (pq2 : Int64)  : Pl_ l yX6_gcd wsX6_gcd rmX6_gcd [.long pq0, .long pq2] (fun r => ¬ pq2 = 0 → ¬ r = 0) := by
  refine Met.ofW (cc := cX6_gcd) (maxL := 10) (ret := (some .long)) (by decide) rfl ?_
  intro p e s m args below meth c s₁ B hml hv
  obtain ⟨rfl, -⟩ := hv
  have hx := B.exec
  have hb := B.bytes
  have hr := B.returns
  have hts := atoms_spec (ws := wsX6_gcd) B.pre
  have hown : s.vm.findClass RX6 = some m.cls := findClass_of_methodNamed B.named
  have hlocks := B.notSynchronized
  have hS : va_S (fun _ => False) s.heap s.heap [] := va_S.rf
  have hl := lv_entry ([.long pq0, .long pq2]) (n := 10) (Nat.le_of_ble_eq_true rfl)
  rw [lg_entry_eq]
  generalize (lg_sl ([.long pq0, .long pq2]) ++ List.replicate (10 - (lg_sl ([.long pq0, .long pq2])).length) Slot.unset).toArray = ls at hl ⊢
  have hl : lv_has ls 10 [(0, .long pq0), (2, .long pq2)] := hl
  have hJ6 : ∀ (n6 : Nat) (H : Heap) (locs : List Loc) (zq4 : Int64) (zq6 : Int64), (va_S (fun _ => False) s.heap H locs) → (¬ pq2 = 0 → ¬ zq6 = 0 ∨ ¬ zq4 = 0) → (zq6.toInt.natAbs < n6) → ∀ (ls : Array Slot), lv_has ls 10 [(4, .long zq4), (6, .long zq6)] → W p l e rmX6_gcd s m [.long pq0, .long pq2].toArray below meth c H locs 0 0 (MQ below (va_Ql (fun (r : Int64) (_ : Unit) => (fun r => ¬ pq2 = 0 → ¬ r = 0) r) (fun _ _ => True) (fun _ => False)) [.long pq0, .long pq2].toArray s 0 0 (fun _ => False)) (F0 m 6 ls []) := by
    intro n6
    induction n6 with
    | zero =>
      intro H locs zq4 zq6 hS i6_0 hm6 ls hl
      exact absurd hm6 (Nat.not_lt_zero _)
    | succ n6 ih6 =>
      intro H locs zq4 zq6 hS i6_0 hm6 ls hl
      refine lv_lload hx hb dX6_gcd_6 (lv_at hl 1 rfl) ?_
      refine lv_lconst (v := 0) hx hb dX6_gcd_8 (by decide) ?_
      refine W.lcmp hx hb dX6_gcd_9 ?_
      refine lv_topi (fun vq9 eq9 => ?_)
      refine lv_if_eq (tgt := 31) hx hb dX6_gcd_10 (by decide) (fun cq10 => ?_) (fun cq10 => ?_)
      · skip
        refine lv_lload hx hb dX6_gcd_31 (lv_at hl 0 rfl) ?_
        exact W.lret (v := zq4) hx hb hr (fun t ht hW => ⟨⟨zq4, (), rfl, fun h => (i6_0 h).resolve_left (fun q => q (gq_z (by rw [← eq9]; exact cq10))), trivial⟩, hS.F ht⟩) hS.2.2 dX6_gcd_33
      · skip
        refine lv_lload hx hb dX6_gcd_13 (lv_at hl 0 rfl) ?_
        refine lv_lload hx hb dX6_gcd_15 (lv_at hl 1 rfl) ?_
        refine lv_lrem hx hb dX6_gcd_17 (fun h => cq10 (by rw [eq9, h]; rfl)) ?_
        refine lv_topl (fun vq17 eq17 => ?_)
        refine lv_lstore (lv' := [(8, .long vq17), (4, .long zq4), (6, .long zq6)]) hx hb dX6_gcd_18 hl (by decide) rfl (fun ls hl => ?_)
        refine lv_lload hx hb dX6_gcd_20 (lv_at hl 2 rfl) ?_
        refine lv_lstore (lv' := [(4, .long zq6), (8, .long vq17), (6, .long zq6)]) hx hb dX6_gcd_22 hl (by decide) rfl (fun ls hl => ?_)
        refine lv_lload hx hb dX6_gcd_24 (lv_at hl 1 rfl) ?_
        refine lv_lstore (lv' := [(6, .long vq17), (4, .long zq6), (8, .long vq17)]) hx hb dX6_gcd_26 hl (by decide) rfl (fun ls hl => ?_)
        refine lv_goto (tgt := 6) hx hb dX6_gcd_28 (by decide) ?_
        exact ih6 _ _ zq6 vq17 hS (by first | exact fun h => Or.inl h | exact fun _ => Or.inr (fun h => cq10 (by rw [eq9, h]; rfl))) (gq_m hm6 eq9 cq10 eq17) _ (lv_sub hl [1, 0] rfl)
  refine lv_lload_n hx hb dX6_gcd_0 rfl (lv_at hl 0 rfl) ?_
  refine lv_lstore (lv' := [(4, .long pq0), (0, .long pq0), (2, .long pq2)]) hx hb dX6_gcd_1 hl (by decide) rfl (fun ls hl => ?_)
  refine lv_lload_n hx hb dX6_gcd_3 rfl (lv_at hl 2 rfl) ?_
  refine lv_lstore (lv' := [(6, .long pq2), (4, .long pq0), (0, .long pq0), (2, .long pq2)]) hx hb dX6_gcd_4 hl (by decide) rfl (fun ls hl => ?_)
  exact hJ6 (pq2.toInt.natAbs + 1) _ _ pq0 pq2 hS (by first | exact fun h => Or.inl h | exact fun _ => Or.inr (fun h => cq10 (by rw [eq9, h]; rfl))) (Nat.lt_succ_self _) _ (lv_sub hl [1, 0] rfl)
abbrev rmX6_weightOf : Room := { frames := 0, cells := 0, slots := 0, locals := 0 }
set_option maxHeartbeats 4000000 in
set_option maxRecDepth 100000 in
theorem k_X6_weightOf (l : Launch) (pq0 : Int32) (hw1 : -99999 ≤ pq0.toInt) (hw2 : pq0.toInt ≤ 99999) : Pi_ l yX6_weightOf wsX6_weightOf rmX6_weightOf [.int pq0] (fun r : Int32 => r.toInt = (Pn pq0.toInt.natAbs : Int)) := by
  refine Met.ofW (cc := cX6_weightOf) (maxL := 3) (ret := (some .int)) (by decide) rfl ?_
  intro p e s m args below meth c s₁ B hml hv
  obtain ⟨rfl, -⟩ := hv
  have hx := B.exec
  have hb := B.bytes
  have hr := B.returns
  have hts := atoms_spec (ws := wsX6_weightOf) B.pre
  have hown : s.vm.findClass RX6 = some m.cls := findClass_of_methodNamed B.named
  have hlocks := B.notSynchronized
  have hS : va_S (fun _ => False) s.heap s.heap [] := va_S.rf
  have hl := lv_entry ([.int pq0]) (n := 3) (Nat.le_of_ble_eq_true rfl)
  rw [lg_entry_eq]
  generalize (lg_sl ([.int pq0]) ++ List.replicate (3 - (lg_sl ([.int pq0])).length) Slot.unset).toArray = ls at hl ⊢
  have hl : lv_has ls 3 [(0, .int pq0)] := hl
  have hJ13 : ∀ (n13 : Nat) (H : Heap) (locs : List Loc) (zq1 : Int32) (zq2 : Int32), (va_S (fun _ => False) s.heap H locs) → (0 ≤ zq1.toInt) → (zq1.toInt ≤ 100000) → (0 ≤ zq2.toInt) → (zq2.toInt + Pn zq1.toInt.toNat = Pn pq0.toInt.natAbs) → (zq1.toInt.toNat < n13) → ∀ (ls : Array Slot), lv_has ls 3 [(1, .int zq1), (2, .int zq2)] → W p l e rmX6_weightOf s m [.int pq0].toArray below meth c H locs 0 0 (MQ below (va_Qi (fun (r : Int32) (_ : Unit) => (fun r : Int32 => r.toInt = (Pn pq0.toInt.natAbs : Int)) r) (fun _ _ => True) (fun _ => False)) [.int pq0].toArray s 0 0 (fun _ => False)) (F0 m 13 ls []) := by
    intro n13
    induction n13 with
    | zero =>
      intro H locs zq1 zq2 hS i13_0 i13_1 i13_2 i13_3 hm13 ls hl
      exact absurd hm13 (Nat.not_lt_zero _)
    | succ n13 ih13 =>
      intro H locs zq1 zq2 hS i13_0 i13_1 i13_2 i13_3 hm13 ls hl
      refine lv_iload_n hx hb dX6_weightOf_13 rfl (lv_at hl 0 rfl) ?_
      refine lv_if_le (tgt := 49) hx hb dX6_weightOf_14 (by decide) (fun cq14 => ?_) (fun cq14 => ?_)
      · skip
        refine lv_iload_n hx hb dX6_weightOf_49 rfl (lv_at hl 1 rfl) ?_
        exact W.iret (v := zq2) hx hb hr (fun t ht hW => ⟨⟨zq2, (), rfl, by have h := i13_3; rw [iq_le] at cq14; have h9 : zq1.toInt ≤ 0 := cq14; rw [show zq1.toInt.toNat = 0 by omega] at h; have h8 : Pn 0 = 0 := (by simp [Pn, popc]); show zq2.toInt = _; omega, trivial⟩, hS.F ht⟩) hS.2.2 dX6_weightOf_50
      · skip
        refine lv_iload_n hx hb dX6_weightOf_17 rfl (lv_at hl 0 rfl) ?_
        refine lv_iconst (v := 2) hx hb dX6_weightOf_18 (by decide) ?_
        refine lv_irem hx hb dX6_weightOf_19 (by decide) ?_
        refine lv_topi (fun vq19 eq19 => ?_)
        refine lv_iconst (v := 1) hx hb dX6_weightOf_20 (by decide) ?_
        refine lv_icmp_ne (tgt := 42) hx hb dX6_weightOf_21 (by decide) (fun cq21 => ?_) (fun cq21 => ?_)
        · skip
          refine lv_iload_n hx hb dX6_weightOf_42 rfl (lv_at hl 0 rfl) ?_
          refine lv_iconst (v := 2) hx hb dX6_weightOf_43 (by decide) ?_
          refine lv_idiv hx hb dX6_weightOf_44 (by decide) ?_
          refine lv_topi (fun vq44 eq44 => ?_)
          refine lv_istore_n (lv' := [(1, .int vq44), (2, .int zq2)]) hx hb dX6_weightOf_45 rfl hl (by decide) rfl (fun ls hl => ?_)
          refine lv_goto (tgt := 13) hx hb dX6_weightOf_46 (by decide) ?_
          exact ih13 _ _ vq44 zq2 hS (by first | (rw [iq_le] at cq1; exact cq1) | (rw [iq_le] at cq1; have h := iq_negn (by omega) (by omega) eq5; have h9 : ¬ (0 : Int) ≤ pq0.toInt := cq1; omega) | (first | (have h := wq_a (by rw [iq_le] at cq14; exact Int.not_le.mp cq14) eq19 cq21 eq44 i13_3; have h14 : 0 < zq1.toInt := (by rw [iq_le] at cq14; exact Int.not_le.mp cq14); omega) | (have h := wq_b (by rw [iq_le] at cq14; exact Int.not_le.mp cq14) i13_1 (by have h := Pn_le (n := pq0.toInt.natAbs) (by omega); omega) eq19 cq21 eq24 eq30 cq32 eq40 eq44 i13_2 i13_3; have h14 : 0 < zq1.toInt := (by rw [iq_le] at cq14; exact Int.not_le.mp cq14); omega) | (have h := wq_c (by rw [iq_le] at cq14; exact Int.not_le.mp cq14) i13_1 (by have h := Pn_le (n := pq0.toInt.natAbs) (by omega); omega) eq19 cq21 eq24 eq30 cq32 eq40 eq44 i13_2 i13_3; have h14 : 0 < zq1.toInt := (by rw [iq_le] at cq14; exact Int.not_le.mp cq14); omega))) (by first | (have h := iq_negn (by omega) (by omega) eq5; omega) | omega | (first | (have h := wq_a (by rw [iq_le] at cq14; exact Int.not_le.mp cq14) eq19 cq21 eq44 i13_3; have h14 : 0 < zq1.toInt := (by rw [iq_le] at cq14; exact Int.not_le.mp cq14); omega) | (have h := wq_b (by rw [iq_le] at cq14; exact Int.not_le.mp cq14) i13_1 (by have h := Pn_le (n := pq0.toInt.natAbs) (by omega); omega) eq19 cq21 eq24 eq30 cq32 eq40 eq44 i13_2 i13_3; have h14 : 0 < zq1.toInt := (by rw [iq_le] at cq14; exact Int.not_le.mp cq14); omega) | (have h := wq_c (by rw [iq_le] at cq14; exact Int.not_le.mp cq14) i13_1 (by have h := Pn_le (n := pq0.toInt.natAbs) (by omega); omega) eq19 cq21 eq24 eq30 cq32 eq40 eq44 i13_2 i13_3; have h14 : 0 < zq1.toInt := (by rw [iq_le] at cq14; exact Int.not_le.mp cq14); omega))) (by first | decide | exact i13_2 | (first | (have h := wq_a (by rw [iq_le] at cq14; exact Int.not_le.mp cq14) eq19 cq21 eq44 i13_3; have h14 : 0 < zq1.toInt := (by rw [iq_le] at cq14; exact Int.not_le.mp cq14); omega) | (have h := wq_b (by rw [iq_le] at cq14; exact Int.not_le.mp cq14) i13_1 (by have h := Pn_le (n := pq0.toInt.natAbs) (by omega); omega) eq19 cq21 eq24 eq30 cq32 eq40 eq44 i13_2 i13_3; have h14 : 0 < zq1.toInt := (by rw [iq_le] at cq14; exact Int.not_le.mp cq14); omega) | (have h := wq_c (by rw [iq_le] at cq14; exact Int.not_le.mp cq14) i13_1 (by have h := Pn_le (n := pq0.toInt.natAbs) (by omega); omega) eq19 cq21 eq24 eq30 cq32 eq40 eq44 i13_2 i13_3; have h14 : 0 < zq1.toInt := (by rw [iq_le] at cq14; exact Int.not_le.mp cq14); omega))) (by first | (have h := iq_negn (by omega) (by omega) eq5; rw [iq_le] at cq1; have h9 : ¬ (0 : Int) ≤ pq0.toInt := cq1; rw [show vq5.toInt.toNat = pq0.toInt.natAbs by omega]; show (0 : Int) + _ = _; omega) | (rw [iq_le] at cq1; have h9 : (0 : Int) ≤ pq0.toInt := cq1; rw [show pq0.toInt.toNat = pq0.toInt.natAbs by omega]; show (0 : Int) + _ = _; omega) | exact (wq_a (by rw [iq_le] at cq14; exact Int.not_le.mp cq14) eq19 cq21 eq44 i13_3).2 | exact (wq_b (by rw [iq_le] at cq14; exact Int.not_le.mp cq14) i13_1 (by have h := Pn_le (n := pq0.toInt.natAbs) (by omega); omega) eq19 cq21 eq24 eq30 cq32 eq40 eq44 i13_2 i13_3).2.2 | exact (wq_c (by rw [iq_le] at cq14; exact Int.not_le.mp cq14) i13_1 (by have h := Pn_le (n := pq0.toInt.natAbs) (by omega); omega) eq19 cq21 eq24 eq30 cq32 eq40 eq44 i13_2 i13_3).2.2.1) (by first | (have h := wq_a (by rw [iq_le] at cq14; exact Int.not_le.mp cq14) eq19 cq21 eq44 i13_3; have h14 : 0 < zq1.toInt := (by rw [iq_le] at cq14; exact Int.not_le.mp cq14); omega) | (have h := wq_b (by rw [iq_le] at cq14; exact Int.not_le.mp cq14) i13_1 (by have h := Pn_le (n := pq0.toInt.natAbs) (by omega); omega) eq19 cq21 eq24 eq30 cq32 eq40 eq44 i13_2 i13_3; have h14 : 0 < zq1.toInt := (by rw [iq_le] at cq14; exact Int.not_le.mp cq14); omega) | (have h := wq_c (by rw [iq_le] at cq14; exact Int.not_le.mp cq14) i13_1 (by have h := Pn_le (n := pq0.toInt.natAbs) (by omega); omega) eq19 cq21 eq24 eq30 cq32 eq40 eq44 i13_2 i13_3; have h14 : 0 < zq1.toInt := (by rw [iq_le] at cq14; exact Int.not_le.mp cq14); omega)) _ (lv_sub hl [0, 1] rfl)
        · skip
          obtain ⟨vq24, eq24⟩ : ∃ y : Int32, y = zq2 + 1 := ⟨_, rfl⟩
          refine lv_iinc (v := vq24) (lv' := [(2, .int vq24), (1, .int zq1)]) hx hb dX6_weightOf_24 hl (k := 1) rfl (by rw [eq24]; rfl) (by decide) rfl (fun ls hl => ?_)
          refine lv_iload_n hx hb dX6_weightOf_27 rfl (lv_at hl 1 rfl) ?_
          refine lv_iload_n hx hb dX6_weightOf_28 rfl (lv_at hl 1 rfl) ?_
          refine lv_iconst (v := 4) hx hb dX6_weightOf_29 (by decide) ?_
          refine lv_irem hx hb dX6_weightOf_30 (by decide) ?_
          refine lv_topi (fun vq30 eq30 => ?_)
          refine lv_iconst (v := 3) hx hb dX6_weightOf_31 (by decide) ?_
          refine lv_icmp_ne (tgt := 39) hx hb dX6_weightOf_32 (by decide) (fun cq32 => ?_) (fun cq32 => ?_)
          · skip
            refine lv_iconst (v := (-1)) hx hb dX6_weightOf_39 (by decide) ?_
            refine lv_iadd hx hb dX6_weightOf_40 ?_
            refine lv_topi (fun vq40 eq40 => ?_)
            refine lv_istore_n (lv' := [(1, .int vq40), (2, .int vq24)]) hx hb dX6_weightOf_41 rfl hl (by decide) rfl (fun ls hl => ?_)
            refine lv_iload_n hx hb dX6_weightOf_42 rfl (lv_at hl 0 rfl) ?_
            refine lv_iconst (v := 2) hx hb dX6_weightOf_43 (by decide) ?_
            refine lv_idiv hx hb dX6_weightOf_44 (by decide) ?_
            refine lv_topi (fun vq44 eq44 => ?_)
            refine lv_istore_n (lv' := [(1, .int vq44), (2, .int vq24)]) hx hb dX6_weightOf_45 rfl hl (by decide) rfl (fun ls hl => ?_)
            refine lv_goto (tgt := 13) hx hb dX6_weightOf_46 (by decide) ?_
            exact ih13 _ _ vq44 vq24 hS (by first | (rw [iq_le] at cq1; exact cq1) | (rw [iq_le] at cq1; have h := iq_negn (by omega) (by omega) eq5; have h9 : ¬ (0 : Int) ≤ pq0.toInt := cq1; omega) | (first | (have h := wq_a (by rw [iq_le] at cq14; exact Int.not_le.mp cq14) eq19 cq21 eq44 i13_3; have h14 : 0 < zq1.toInt := (by rw [iq_le] at cq14; exact Int.not_le.mp cq14); omega) | (have h := wq_b (by rw [iq_le] at cq14; exact Int.not_le.mp cq14) i13_1 (by have h := Pn_le (n := pq0.toInt.natAbs) (by omega); omega) eq19 cq21 eq24 eq30 cq32 eq40 eq44 i13_2 i13_3; have h14 : 0 < zq1.toInt := (by rw [iq_le] at cq14; exact Int.not_le.mp cq14); omega) | (have h := wq_c (by rw [iq_le] at cq14; exact Int.not_le.mp cq14) i13_1 (by have h := Pn_le (n := pq0.toInt.natAbs) (by omega); omega) eq19 cq21 eq24 eq30 cq32 eq40 eq44 i13_2 i13_3; have h14 : 0 < zq1.toInt := (by rw [iq_le] at cq14; exact Int.not_le.mp cq14); omega))) (by first | (have h := iq_negn (by omega) (by omega) eq5; omega) | omega | (first | (have h := wq_a (by rw [iq_le] at cq14; exact Int.not_le.mp cq14) eq19 cq21 eq44 i13_3; have h14 : 0 < zq1.toInt := (by rw [iq_le] at cq14; exact Int.not_le.mp cq14); omega) | (have h := wq_b (by rw [iq_le] at cq14; exact Int.not_le.mp cq14) i13_1 (by have h := Pn_le (n := pq0.toInt.natAbs) (by omega); omega) eq19 cq21 eq24 eq30 cq32 eq40 eq44 i13_2 i13_3; have h14 : 0 < zq1.toInt := (by rw [iq_le] at cq14; exact Int.not_le.mp cq14); omega) | (have h := wq_c (by rw [iq_le] at cq14; exact Int.not_le.mp cq14) i13_1 (by have h := Pn_le (n := pq0.toInt.natAbs) (by omega); omega) eq19 cq21 eq24 eq30 cq32 eq40 eq44 i13_2 i13_3; have h14 : 0 < zq1.toInt := (by rw [iq_le] at cq14; exact Int.not_le.mp cq14); omega))) (by first | decide | exact i13_2 | (first | (have h := wq_a (by rw [iq_le] at cq14; exact Int.not_le.mp cq14) eq19 cq21 eq44 i13_3; have h14 : 0 < zq1.toInt := (by rw [iq_le] at cq14; exact Int.not_le.mp cq14); omega) | (have h := wq_b (by rw [iq_le] at cq14; exact Int.not_le.mp cq14) i13_1 (by have h := Pn_le (n := pq0.toInt.natAbs) (by omega); omega) eq19 cq21 eq24 eq30 cq32 eq40 eq44 i13_2 i13_3; have h14 : 0 < zq1.toInt := (by rw [iq_le] at cq14; exact Int.not_le.mp cq14); omega) | (have h := wq_c (by rw [iq_le] at cq14; exact Int.not_le.mp cq14) i13_1 (by have h := Pn_le (n := pq0.toInt.natAbs) (by omega); omega) eq19 cq21 eq24 eq30 cq32 eq40 eq44 i13_2 i13_3; have h14 : 0 < zq1.toInt := (by rw [iq_le] at cq14; exact Int.not_le.mp cq14); omega))) (by first | (have h := iq_negn (by omega) (by omega) eq5; rw [iq_le] at cq1; have h9 : ¬ (0 : Int) ≤ pq0.toInt := cq1; rw [show vq5.toInt.toNat = pq0.toInt.natAbs by omega]; show (0 : Int) + _ = _; omega) | (rw [iq_le] at cq1; have h9 : (0 : Int) ≤ pq0.toInt := cq1; rw [show pq0.toInt.toNat = pq0.toInt.natAbs by omega]; show (0 : Int) + _ = _; omega) | exact (wq_a (by rw [iq_le] at cq14; exact Int.not_le.mp cq14) eq19 cq21 eq44 i13_3).2 | exact (wq_b (by rw [iq_le] at cq14; exact Int.not_le.mp cq14) i13_1 (by have h := Pn_le (n := pq0.toInt.natAbs) (by omega); omega) eq19 cq21 eq24 eq30 cq32 eq40 eq44 i13_2 i13_3).2.2 | exact (wq_c (by rw [iq_le] at cq14; exact Int.not_le.mp cq14) i13_1 (by have h := Pn_le (n := pq0.toInt.natAbs) (by omega); omega) eq19 cq21 eq24 eq30 cq32 eq40 eq44 i13_2 i13_3).2.2.1) (by first | (have h := wq_a (by rw [iq_le] at cq14; exact Int.not_le.mp cq14) eq19 cq21 eq44 i13_3; have h14 : 0 < zq1.toInt := (by rw [iq_le] at cq14; exact Int.not_le.mp cq14); omega) | (have h := wq_b (by rw [iq_le] at cq14; exact Int.not_le.mp cq14) i13_1 (by have h := Pn_le (n := pq0.toInt.natAbs) (by omega); omega) eq19 cq21 eq24 eq30 cq32 eq40 eq44 i13_2 i13_3; have h14 : 0 < zq1.toInt := (by rw [iq_le] at cq14; exact Int.not_le.mp cq14); omega) | (have h := wq_c (by rw [iq_le] at cq14; exact Int.not_le.mp cq14) i13_1 (by have h := Pn_le (n := pq0.toInt.natAbs) (by omega); omega) eq19 cq21 eq24 eq30 cq32 eq40 eq44 i13_2 i13_3; have h14 : 0 < zq1.toInt := (by rw [iq_le] at cq14; exact Int.not_le.mp cq14); omega)) _ (lv_sub hl [0, 1] rfl)
          · skip
            refine lv_iconst (v := 1) hx hb dX6_weightOf_35 (by decide) ?_
            refine lv_goto (tgt := 40) hx hb dX6_weightOf_36 (by decide) ?_
            refine lv_iadd hx hb dX6_weightOf_40 ?_
            refine lv_topi (fun vq40 eq40 => ?_)
            refine lv_istore_n (lv' := [(1, .int vq40), (2, .int vq24)]) hx hb dX6_weightOf_41 rfl hl (by decide) rfl (fun ls hl => ?_)
            refine lv_iload_n hx hb dX6_weightOf_42 rfl (lv_at hl 0 rfl) ?_
            refine lv_iconst (v := 2) hx hb dX6_weightOf_43 (by decide) ?_
            refine lv_idiv hx hb dX6_weightOf_44 (by decide) ?_
            refine lv_topi (fun vq44 eq44 => ?_)
            refine lv_istore_n (lv' := [(1, .int vq44), (2, .int vq24)]) hx hb dX6_weightOf_45 rfl hl (by decide) rfl (fun ls hl => ?_)
            refine lv_goto (tgt := 13) hx hb dX6_weightOf_46 (by decide) ?_
            exact ih13 _ _ vq44 vq24 hS (by first | (rw [iq_le] at cq1; exact cq1) | (rw [iq_le] at cq1; have h := iq_negn (by omega) (by omega) eq5; have h9 : ¬ (0 : Int) ≤ pq0.toInt := cq1; omega) | (first | (have h := wq_a (by rw [iq_le] at cq14; exact Int.not_le.mp cq14) eq19 cq21 eq44 i13_3; have h14 : 0 < zq1.toInt := (by rw [iq_le] at cq14; exact Int.not_le.mp cq14); omega) | (have h := wq_b (by rw [iq_le] at cq14; exact Int.not_le.mp cq14) i13_1 (by have h := Pn_le (n := pq0.toInt.natAbs) (by omega); omega) eq19 cq21 eq24 eq30 cq32 eq40 eq44 i13_2 i13_3; have h14 : 0 < zq1.toInt := (by rw [iq_le] at cq14; exact Int.not_le.mp cq14); omega) | (have h := wq_c (by rw [iq_le] at cq14; exact Int.not_le.mp cq14) i13_1 (by have h := Pn_le (n := pq0.toInt.natAbs) (by omega); omega) eq19 cq21 eq24 eq30 cq32 eq40 eq44 i13_2 i13_3; have h14 : 0 < zq1.toInt := (by rw [iq_le] at cq14; exact Int.not_le.mp cq14); omega))) (by first | (have h := iq_negn (by omega) (by omega) eq5; omega) | omega | (first | (have h := wq_a (by rw [iq_le] at cq14; exact Int.not_le.mp cq14) eq19 cq21 eq44 i13_3; have h14 : 0 < zq1.toInt := (by rw [iq_le] at cq14; exact Int.not_le.mp cq14); omega) | (have h := wq_b (by rw [iq_le] at cq14; exact Int.not_le.mp cq14) i13_1 (by have h := Pn_le (n := pq0.toInt.natAbs) (by omega); omega) eq19 cq21 eq24 eq30 cq32 eq40 eq44 i13_2 i13_3; have h14 : 0 < zq1.toInt := (by rw [iq_le] at cq14; exact Int.not_le.mp cq14); omega) | (have h := wq_c (by rw [iq_le] at cq14; exact Int.not_le.mp cq14) i13_1 (by have h := Pn_le (n := pq0.toInt.natAbs) (by omega); omega) eq19 cq21 eq24 eq30 cq32 eq40 eq44 i13_2 i13_3; have h14 : 0 < zq1.toInt := (by rw [iq_le] at cq14; exact Int.not_le.mp cq14); omega))) (by first | decide | exact i13_2 | (first | (have h := wq_a (by rw [iq_le] at cq14; exact Int.not_le.mp cq14) eq19 cq21 eq44 i13_3; have h14 : 0 < zq1.toInt := (by rw [iq_le] at cq14; exact Int.not_le.mp cq14); omega) | (have h := wq_b (by rw [iq_le] at cq14; exact Int.not_le.mp cq14) i13_1 (by have h := Pn_le (n := pq0.toInt.natAbs) (by omega); omega) eq19 cq21 eq24 eq30 cq32 eq40 eq44 i13_2 i13_3; have h14 : 0 < zq1.toInt := (by rw [iq_le] at cq14; exact Int.not_le.mp cq14); omega) | (have h := wq_c (by rw [iq_le] at cq14; exact Int.not_le.mp cq14) i13_1 (by have h := Pn_le (n := pq0.toInt.natAbs) (by omega); omega) eq19 cq21 eq24 eq30 cq32 eq40 eq44 i13_2 i13_3; have h14 : 0 < zq1.toInt := (by rw [iq_le] at cq14; exact Int.not_le.mp cq14); omega))) (by first | (have h := iq_negn (by omega) (by omega) eq5; rw [iq_le] at cq1; have h9 : ¬ (0 : Int) ≤ pq0.toInt := cq1; rw [show vq5.toInt.toNat = pq0.toInt.natAbs by omega]; show (0 : Int) + _ = _; omega) | (rw [iq_le] at cq1; have h9 : (0 : Int) ≤ pq0.toInt := cq1; rw [show pq0.toInt.toNat = pq0.toInt.natAbs by omega]; show (0 : Int) + _ = _; omega) | exact (wq_a (by rw [iq_le] at cq14; exact Int.not_le.mp cq14) eq19 cq21 eq44 i13_3).2 | exact (wq_b (by rw [iq_le] at cq14; exact Int.not_le.mp cq14) i13_1 (by have h := Pn_le (n := pq0.toInt.natAbs) (by omega); omega) eq19 cq21 eq24 eq30 cq32 eq40 eq44 i13_2 i13_3).2.2 | exact (wq_c (by rw [iq_le] at cq14; exact Int.not_le.mp cq14) i13_1 (by have h := Pn_le (n := pq0.toInt.natAbs) (by omega); omega) eq19 cq21 eq24 eq30 cq32 eq40 eq44 i13_2 i13_3).2.2.1) (by first | (have h := wq_a (by rw [iq_le] at cq14; exact Int.not_le.mp cq14) eq19 cq21 eq44 i13_3; have h14 : 0 < zq1.toInt := (by rw [iq_le] at cq14; exact Int.not_le.mp cq14); omega) | (have h := wq_b (by rw [iq_le] at cq14; exact Int.not_le.mp cq14) i13_1 (by have h := Pn_le (n := pq0.toInt.natAbs) (by omega); omega) eq19 cq21 eq24 eq30 cq32 eq40 eq44 i13_2 i13_3; have h14 : 0 < zq1.toInt := (by rw [iq_le] at cq14; exact Int.not_le.mp cq14); omega) | (have h := wq_c (by rw [iq_le] at cq14; exact Int.not_le.mp cq14) i13_1 (by have h := Pn_le (n := pq0.toInt.natAbs) (by omega); omega) eq19 cq21 eq24 eq30 cq32 eq40 eq44 i13_2 i13_3; have h14 : 0 < zq1.toInt := (by rw [iq_le] at cq14; exact Int.not_le.mp cq14); omega)) _ (lv_sub hl [0, 1] rfl)
  refine lv_iload_n hx hb dX6_weightOf_0 rfl (lv_at hl 0 rfl) ?_
  refine lv_if_ge (tgt := 9) hx hb dX6_weightOf_1 (by decide) (fun cq1 => ?_) (fun cq1 => ?_)
  · skip
    refine lv_iload_n hx hb dX6_weightOf_9 rfl (lv_at hl 0 rfl) ?_
    refine lv_istore_n (lv' := [(1, .int pq0), (0, .int pq0)]) hx hb dX6_weightOf_10 rfl hl (by decide) rfl (fun ls hl => ?_)
    refine lv_iconst (v := 0) hx hb dX6_weightOf_11 (by decide) ?_
    refine lv_istore_n (lv' := [(2, .int 0), (1, .int pq0), (0, .int pq0)]) hx hb dX6_weightOf_12 rfl hl (by decide) rfl (fun ls hl => ?_)
    exact hJ13 (pq0.toInt.toNat + 1) _ _ pq0 0 hS (by first | (rw [iq_le] at cq1; exact cq1) | (rw [iq_le] at cq1; have h := iq_negn (by omega) (by omega) eq5; have h9 : ¬ (0 : Int) ≤ pq0.toInt := cq1; omega) | (first | (have h := wq_a (by rw [iq_le] at cq14; exact Int.not_le.mp cq14) eq19 cq21 eq44 i13_3; have h14 : 0 < zq1.toInt := (by rw [iq_le] at cq14; exact Int.not_le.mp cq14); omega) | (have h := wq_b (by rw [iq_le] at cq14; exact Int.not_le.mp cq14) i13_1 (by have h := Pn_le (n := pq0.toInt.natAbs) (by omega); omega) eq19 cq21 eq24 eq30 cq32 eq40 eq44 i13_2 i13_3; have h14 : 0 < zq1.toInt := (by rw [iq_le] at cq14; exact Int.not_le.mp cq14); omega) | (have h := wq_c (by rw [iq_le] at cq14; exact Int.not_le.mp cq14) i13_1 (by have h := Pn_le (n := pq0.toInt.natAbs) (by omega); omega) eq19 cq21 eq24 eq30 cq32 eq40 eq44 i13_2 i13_3; have h14 : 0 < zq1.toInt := (by rw [iq_le] at cq14; exact Int.not_le.mp cq14); omega))) (by first | (have h := iq_negn (by omega) (by omega) eq5; omega) | omega | (first | (have h := wq_a (by rw [iq_le] at cq14; exact Int.not_le.mp cq14) eq19 cq21 eq44 i13_3; have h14 : 0 < zq1.toInt := (by rw [iq_le] at cq14; exact Int.not_le.mp cq14); omega) | (have h := wq_b (by rw [iq_le] at cq14; exact Int.not_le.mp cq14) i13_1 (by have h := Pn_le (n := pq0.toInt.natAbs) (by omega); omega) eq19 cq21 eq24 eq30 cq32 eq40 eq44 i13_2 i13_3; have h14 : 0 < zq1.toInt := (by rw [iq_le] at cq14; exact Int.not_le.mp cq14); omega) | (have h := wq_c (by rw [iq_le] at cq14; exact Int.not_le.mp cq14) i13_1 (by have h := Pn_le (n := pq0.toInt.natAbs) (by omega); omega) eq19 cq21 eq24 eq30 cq32 eq40 eq44 i13_2 i13_3; have h14 : 0 < zq1.toInt := (by rw [iq_le] at cq14; exact Int.not_le.mp cq14); omega))) (by first | decide | exact i13_2 | (first | (have h := wq_a (by rw [iq_le] at cq14; exact Int.not_le.mp cq14) eq19 cq21 eq44 i13_3; have h14 : 0 < zq1.toInt := (by rw [iq_le] at cq14; exact Int.not_le.mp cq14); omega) | (have h := wq_b (by rw [iq_le] at cq14; exact Int.not_le.mp cq14) i13_1 (by have h := Pn_le (n := pq0.toInt.natAbs) (by omega); omega) eq19 cq21 eq24 eq30 cq32 eq40 eq44 i13_2 i13_3; have h14 : 0 < zq1.toInt := (by rw [iq_le] at cq14; exact Int.not_le.mp cq14); omega) | (have h := wq_c (by rw [iq_le] at cq14; exact Int.not_le.mp cq14) i13_1 (by have h := Pn_le (n := pq0.toInt.natAbs) (by omega); omega) eq19 cq21 eq24 eq30 cq32 eq40 eq44 i13_2 i13_3; have h14 : 0 < zq1.toInt := (by rw [iq_le] at cq14; exact Int.not_le.mp cq14); omega))) (by first | (have h := iq_negn (by omega) (by omega) eq5; rw [iq_le] at cq1; have h9 : ¬ (0 : Int) ≤ pq0.toInt := cq1; rw [show vq5.toInt.toNat = pq0.toInt.natAbs by omega]; show (0 : Int) + _ = _; omega) | (rw [iq_le] at cq1; have h9 : (0 : Int) ≤ pq0.toInt := cq1; rw [show pq0.toInt.toNat = pq0.toInt.natAbs by omega]; show (0 : Int) + _ = _; omega) | exact (wq_a (by rw [iq_le] at cq14; exact Int.not_le.mp cq14) eq19 cq21 eq44 i13_3).2 | exact (wq_b (by rw [iq_le] at cq14; exact Int.not_le.mp cq14) i13_1 (by have h := Pn_le (n := pq0.toInt.natAbs) (by omega); omega) eq19 cq21 eq24 eq30 cq32 eq40 eq44 i13_2 i13_3).2.2 | exact (wq_c (by rw [iq_le] at cq14; exact Int.not_le.mp cq14) i13_1 (by have h := Pn_le (n := pq0.toInt.natAbs) (by omega); omega) eq19 cq21 eq24 eq30 cq32 eq40 eq44 i13_2 i13_3).2.2.1) (Nat.lt_succ_self _) _ (lv_sub hl [1, 0] rfl)
  · skip
    refine lv_iload_n hx hb dX6_weightOf_4 rfl (lv_at hl 0 rfl) ?_
    refine lv_ineg hx hb dX6_weightOf_5 ?_
    refine lv_topi (fun vq5 eq5 => ?_)
    refine lv_goto (tgt := 10) hx hb dX6_weightOf_6 (by decide) ?_
    refine lv_istore_n (lv' := [(1, .int vq5), (0, .int pq0)]) hx hb dX6_weightOf_10 rfl hl (by decide) rfl (fun ls hl => ?_)
    refine lv_iconst (v := 0) hx hb dX6_weightOf_11 (by decide) ?_
    refine lv_istore_n (lv' := [(2, .int 0), (1, .int vq5), (0, .int pq0)]) hx hb dX6_weightOf_12 rfl hl (by decide) rfl (fun ls hl => ?_)
    exact hJ13 (vq5.toInt.toNat + 1) _ _ vq5 0 hS (by first | (rw [iq_le] at cq1; exact cq1) | (rw [iq_le] at cq1; have h := iq_negn (by omega) (by omega) eq5; have h9 : ¬ (0 : Int) ≤ pq0.toInt := cq1; omega) | (first | (have h := wq_a (by rw [iq_le] at cq14; exact Int.not_le.mp cq14) eq19 cq21 eq44 i13_3; have h14 : 0 < zq1.toInt := (by rw [iq_le] at cq14; exact Int.not_le.mp cq14); omega) | (have h := wq_b (by rw [iq_le] at cq14; exact Int.not_le.mp cq14) i13_1 (by have h := Pn_le (n := pq0.toInt.natAbs) (by omega); omega) eq19 cq21 eq24 eq30 cq32 eq40 eq44 i13_2 i13_3; have h14 : 0 < zq1.toInt := (by rw [iq_le] at cq14; exact Int.not_le.mp cq14); omega) | (have h := wq_c (by rw [iq_le] at cq14; exact Int.not_le.mp cq14) i13_1 (by have h := Pn_le (n := pq0.toInt.natAbs) (by omega); omega) eq19 cq21 eq24 eq30 cq32 eq40 eq44 i13_2 i13_3; have h14 : 0 < zq1.toInt := (by rw [iq_le] at cq14; exact Int.not_le.mp cq14); omega))) (by first | (have h := iq_negn (by omega) (by omega) eq5; omega) | omega | (first | (have h := wq_a (by rw [iq_le] at cq14; exact Int.not_le.mp cq14) eq19 cq21 eq44 i13_3; have h14 : 0 < zq1.toInt := (by rw [iq_le] at cq14; exact Int.not_le.mp cq14); omega) | (have h := wq_b (by rw [iq_le] at cq14; exact Int.not_le.mp cq14) i13_1 (by have h := Pn_le (n := pq0.toInt.natAbs) (by omega); omega) eq19 cq21 eq24 eq30 cq32 eq40 eq44 i13_2 i13_3; have h14 : 0 < zq1.toInt := (by rw [iq_le] at cq14; exact Int.not_le.mp cq14); omega) | (have h := wq_c (by rw [iq_le] at cq14; exact Int.not_le.mp cq14) i13_1 (by have h := Pn_le (n := pq0.toInt.natAbs) (by omega); omega) eq19 cq21 eq24 eq30 cq32 eq40 eq44 i13_2 i13_3; have h14 : 0 < zq1.toInt := (by rw [iq_le] at cq14; exact Int.not_le.mp cq14); omega))) (by first | decide | exact i13_2 | (first | (have h := wq_a (by rw [iq_le] at cq14; exact Int.not_le.mp cq14) eq19 cq21 eq44 i13_3; have h14 : 0 < zq1.toInt := (by rw [iq_le] at cq14; exact Int.not_le.mp cq14); omega) | (have h := wq_b (by rw [iq_le] at cq14; exact Int.not_le.mp cq14) i13_1 (by have h := Pn_le (n := pq0.toInt.natAbs) (by omega); omega) eq19 cq21 eq24 eq30 cq32 eq40 eq44 i13_2 i13_3; have h14 : 0 < zq1.toInt := (by rw [iq_le] at cq14; exact Int.not_le.mp cq14); omega) | (have h := wq_c (by rw [iq_le] at cq14; exact Int.not_le.mp cq14) i13_1 (by have h := Pn_le (n := pq0.toInt.natAbs) (by omega); omega) eq19 cq21 eq24 eq30 cq32 eq40 eq44 i13_2 i13_3; have h14 : 0 < zq1.toInt := (by rw [iq_le] at cq14; exact Int.not_le.mp cq14); omega))) (by first | (have h := iq_negn (by omega) (by omega) eq5; rw [iq_le] at cq1; have h9 : ¬ (0 : Int) ≤ pq0.toInt := cq1; rw [show vq5.toInt.toNat = pq0.toInt.natAbs by omega]; show (0 : Int) + _ = _; omega) | (rw [iq_le] at cq1; have h9 : (0 : Int) ≤ pq0.toInt := cq1; rw [show pq0.toInt.toNat = pq0.toInt.natAbs by omega]; show (0 : Int) + _ = _; omega) | exact (wq_a (by rw [iq_le] at cq14; exact Int.not_le.mp cq14) eq19 cq21 eq44 i13_3).2 | exact (wq_b (by rw [iq_le] at cq14; exact Int.not_le.mp cq14) i13_1 (by have h := Pn_le (n := pq0.toInt.natAbs) (by omega); omega) eq19 cq21 eq24 eq30 cq32 eq40 eq44 i13_2 i13_3).2.2 | exact (wq_c (by rw [iq_le] at cq14; exact Int.not_le.mp cq14) i13_1 (by have h := Pn_le (n := pq0.toInt.natAbs) (by omega); omega) eq19 cq21 eq24 eq30 cq32 eq40 eq44 i13_2 i13_3).2.2.1) (Nat.lt_succ_self _) _ (lv_sub hl [1, 0] rfl)
abbrev rmX6_distanceOf : Room := { frames := 1, cells := 0, slots := 0, locals := 22 }
set_option maxHeartbeats 4000000 in
set_option maxRecDepth 100000 in
theorem k_X6_distanceOf (l : Launch) (pq0 : Int32) (pq1 : Int32) (ha1 : 3 ≤ pq0.toInt) (ha2 : pq0.toInt ≤ 199) (hw1 : 4 ≤ pq1.toInt) (hw2 : pq1.toInt ≤ 16) : Pi_ l yX6_distanceOf wsX6_distanceOf rmX6_distanceOf [.int pq0, .int pq1] (fun r : Int32 => dAns pq0.toInt.toNat (2 ^ pq1.toInt.toNat) r) := by
  refine Met.ofW (cc := cX6_distanceOf) (maxL := 5) (ret := (some .int)) (by decide) rfl ?_
  intro p e s m args below meth c s₁ B hml hv
  obtain ⟨rfl, -⟩ := hv
  have hx := B.exec
  have hb := B.bytes
  have hr := B.returns
  have hts := atoms_spec (ws := wsX6_distanceOf) B.pre
  have hown : s.vm.findClass RX6 = some m.cls := findClass_of_methodNamed B.named
  have hlocks := B.notSynchronized
  have hS : va_S (fun _ => False) s.heap s.heap [] := va_S.rf
  have hl := lv_entry ([.int pq0, .int pq1]) (n := 5) (Nat.le_of_ble_eq_true rfl)
  rw [lg_entry_eq]
  generalize (lg_sl ([.int pq0, .int pq1]) ++ List.replicate (5 - (lg_sl ([.int pq0, .int pq1])).length) Slot.unset).toArray = ls at hl ⊢
  have hl : lv_has ls 5 [(0, .int pq0), (1, .int pq1)] := hl
  have hJ5 : ∀ (n5 : Nat) (H : Heap) (locs : List Loc) (zq2 : Int32) (zq3 : Int32), (va_S (fun _ => False) s.heap H locs) → (0 ≤ zq3.toInt) → (dI pq0.toInt.toNat (2 ^ pq1.toInt.toNat) zq3 zq2) → ((70000 - zq3.toInt).toNat < n5) → ∀ (ls : Array Slot), lv_has ls 5 [(0, .int pq0), (1, .int pq1), (2, .int zq2), (3, .int zq3)] → W p l e rmX6_distanceOf s m [.int pq0, .int pq1].toArray below meth c H locs 0 0 (MQ below (va_Qi (fun (r : Int32) (_ : Unit) => (fun r : Int32 => dAns pq0.toInt.toNat (2 ^ pq1.toInt.toNat) r) r) (fun _ _ => True) (fun _ => False)) [.int pq0, .int pq1].toArray s 0 0 (fun _ => False)) (F0 m 5 ls []) := by
    intro n5
    induction n5 with
    | zero =>
      intro H locs zq2 zq3 hS i5_0 i5_1 hm5 ls hl
      exact absurd hm5 (Nat.not_lt_zero _)
    | succ n5 ih5 =>
      intro H locs zq2 zq3 hS i5_0 i5_1 hm5 ls hl
      refine lv_iload_n hx hb dX6_distanceOf_5 rfl (lv_at hl 3 rfl) ?_
      refine lv_iconst (v := 1) hx hb dX6_distanceOf_6 (by decide) ?_
      refine lv_iload_n hx hb dX6_distanceOf_7 rfl (lv_at hl 1 rfl) ?_
      refine lv_ishl hx hb dX6_distanceOf_8 ?_
      refine lv_topi (fun vq8 eq8 => ?_)
      refine lv_icmp_ge (tgt := 44) hx hb dX6_distanceOf_9 (by decide) (fun cq9 => ?_) (fun cq9 => ?_)
      · skip
        refine lv_iload_n hx hb dX6_distanceOf_44 rfl (lv_at hl 2 rfl) ?_
        exact W.iret (v := zq2) hx hb hr (fun t ht hW => ⟨⟨zq2, (), rfl, dI_end i5_1 (by have h8 := iq_endp hw1 hw2 eq8; rw [iq_le] at cq9; omega), trivial⟩, hS.F ht⟩) hS.2.2 dX6_distanceOf_45
      · skip
        refine lv_iload_n hx hb dX6_distanceOf_12 rfl (lv_at hl 3 rfl) ?_
        refine p_i (va_runS (As := [.int zq3]) (rest := []) ⟨hx, hb, hml, hown, hts⟩ (k_X6_weightOf l zq3 (by omega) (by have h9 := pw_le hw2; have h8 := iq_endp hw1 hw2 eq8; rw [iq_le] at cq9; omega)) (va_cwS 1 hts gX6_distanceOf_X6_weightOf rfl rfl rfl (by decide +kernel) ⟨Nat.le_of_ble_eq_true rfl, Nat.le_of_ble_eq_true rfl⟩) (pPreS) rfl rfl hl.1 rfl (lv_room (Nat.le_of_ble_eq_true rfl)) dX6_distanceOf_13 ⟨Nat.le_of_ble_eq_true rfl, Nat.le_of_ble_eq_true rfl⟩) hS (fun rq13 H locs hp13 hS => ?_)
        refine lv_istore (lv' := [(4, .int rq13), (0, .int pq0), (1, .int pq1), (2, .int zq2), (3, .int zq3)]) hx hb dX6_distanceOf_16 hl (by decide) rfl (fun ls hl => ?_)
        refine lv_iload_n hx hb dX6_distanceOf_18 rfl (lv_at hl 3 rfl) ?_
        refine lv_ldc (v := (-1000000)) hx hb hown (hts (.constant RX6 110 (-1000000)) (by decide +kernel)) dX6_distanceOf_19 ?_
        refine lv_icmp_eq (tgt := 30) hx hb dX6_distanceOf_21 (by decide) (fun cq21 => ?_) (fun cq21 => ?_)
        · skip
          refine lv_iload hx hb dX6_distanceOf_30 (lv_at hl 0 rfl) ?_
          refine lv_goto (tgt := 36) hx hb dX6_distanceOf_32 (by decide) ?_
          refine lv_istore_n (lv' := [(2, .int rq13), (4, .int rq13), (0, .int pq0), (1, .int pq1), (3, .int zq3)]) hx hb dX6_distanceOf_36 rfl hl (by decide) rfl (fun ls hl => ?_)
          refine lv_iload_n hx hb dX6_distanceOf_37 rfl (lv_at hl 4 rfl) ?_
          refine lv_iload_n hx hb dX6_distanceOf_38 rfl (lv_at hl 2 rfl) ?_
          refine lv_iadd hx hb dX6_distanceOf_39 ?_
          refine lv_topi (fun vq39 eq39 => ?_)
          have hr13 : rq13.toInt = (Pn zq3.toInt.toNat : Int) := by have h9 : zq3.toInt.natAbs = zq3.toInt.toNat := (by omega); rw [← h9]; exact hp13
          have hle := pw_le hw2
          have hlt : zq3.toInt < ((2 ^ pq1.toInt.toNat : Nat) : Int) := by have h8 := iq_endp hw1 hw2 eq8; rw [iq_le] at cq9; omega
          have hv39 : vq39.toInt = zq3.toInt + pq0.toInt := by rw [eq39, iq_add (by omega) (by omega)]
          refine lv_istore_n (lv' := [(3, .int vq39), (2, .int rq13), (4, .int rq13), (0, .int pq0), (1, .int pq1)]) hx hb dX6_distanceOf_40 rfl hl (by decide) rfl (fun ls hl => ?_)
          refine lv_goto (tgt := 5) hx hb dX6_distanceOf_41 (by decide) ?_
          exact ih5 _ _ rq13 vq39 hS (by first | omega) (by first | exact dI_0 (by omega) | exact dI_next i5_1 hlt hr13 (Or.inl ⟨Or.inl cq21, rfl⟩) (by omega) hv39 | exact dI_next i5_1 hlt hr13 (Or.inl ⟨Or.inr (by rw [iq_lt]; rw [iq_le] at cq27; omega), rfl⟩) (by omega) hv39 | exact dI_next i5_1 hlt hr13 (Or.inr ⟨cq21, (by rw [iq_lt]; rw [iq_le] at cq27; omega), rfl⟩) (by omega) hv39) (by omega) _ (lv_sub hl [3, 4, 1, 0] rfl)
        · skip
          refine lv_iload hx hb dX6_distanceOf_24 (lv_at hl 0 rfl) ?_
          refine lv_iload_n hx hb dX6_distanceOf_26 rfl (lv_at hl 3 rfl) ?_
          refine lv_icmp_ge (tgt := 35) hx hb dX6_distanceOf_27 (by decide) (fun cq27 => ?_) (fun cq27 => ?_)
          · skip
            refine lv_iload_n hx hb dX6_distanceOf_35 rfl (lv_at hl 3 rfl) ?_
            refine lv_istore_n (lv' := [(2, .int zq2), (4, .int rq13), (0, .int pq0), (1, .int pq1), (3, .int zq3)]) hx hb dX6_distanceOf_36 rfl hl (by decide) rfl (fun ls hl => ?_)
            refine lv_iload_n hx hb dX6_distanceOf_37 rfl (lv_at hl 4 rfl) ?_
            refine lv_iload_n hx hb dX6_distanceOf_38 rfl (lv_at hl 2 rfl) ?_
            refine lv_iadd hx hb dX6_distanceOf_39 ?_
            refine lv_topi (fun vq39 eq39 => ?_)
            have hr13 : rq13.toInt = (Pn zq3.toInt.toNat : Int) := by have h9 : zq3.toInt.natAbs = zq3.toInt.toNat := (by omega); rw [← h9]; exact hp13
            have hle := pw_le hw2
            have hlt : zq3.toInt < ((2 ^ pq1.toInt.toNat : Nat) : Int) := by have h8 := iq_endp hw1 hw2 eq8; rw [iq_le] at cq9; omega
            have hv39 : vq39.toInt = zq3.toInt + pq0.toInt := by rw [eq39, iq_add (by omega) (by omega)]
            refine lv_istore_n (lv' := [(3, .int vq39), (2, .int zq2), (4, .int rq13), (0, .int pq0), (1, .int pq1)]) hx hb dX6_distanceOf_40 rfl hl (by decide) rfl (fun ls hl => ?_)
            refine lv_goto (tgt := 5) hx hb dX6_distanceOf_41 (by decide) ?_
            exact ih5 _ _ zq2 vq39 hS (by first | omega) (by first | exact dI_0 (by omega) | exact dI_next i5_1 hlt hr13 (Or.inl ⟨Or.inl cq21, rfl⟩) (by omega) hv39 | exact dI_next i5_1 hlt hr13 (Or.inl ⟨Or.inr (by rw [iq_lt]; rw [iq_le] at cq27; omega), rfl⟩) (by omega) hv39 | exact dI_next i5_1 hlt hr13 (Or.inr ⟨cq21, (by rw [iq_lt]; rw [iq_le] at cq27; omega), rfl⟩) (by omega) hv39) (by omega) _ (lv_sub hl [3, 4, 1, 0] rfl)
          · skip
            refine lv_iload hx hb dX6_distanceOf_30 (lv_at hl 0 rfl) ?_
            refine lv_goto (tgt := 36) hx hb dX6_distanceOf_32 (by decide) ?_
            refine lv_istore_n (lv' := [(2, .int rq13), (4, .int rq13), (0, .int pq0), (1, .int pq1), (3, .int zq3)]) hx hb dX6_distanceOf_36 rfl hl (by decide) rfl (fun ls hl => ?_)
            refine lv_iload_n hx hb dX6_distanceOf_37 rfl (lv_at hl 4 rfl) ?_
            refine lv_iload_n hx hb dX6_distanceOf_38 rfl (lv_at hl 2 rfl) ?_
            refine lv_iadd hx hb dX6_distanceOf_39 ?_
            refine lv_topi (fun vq39 eq39 => ?_)
            have hr13 : rq13.toInt = (Pn zq3.toInt.toNat : Int) := by have h9 : zq3.toInt.natAbs = zq3.toInt.toNat := (by omega); rw [← h9]; exact hp13
            have hle := pw_le hw2
            have hlt : zq3.toInt < ((2 ^ pq1.toInt.toNat : Nat) : Int) := by have h8 := iq_endp hw1 hw2 eq8; rw [iq_le] at cq9; omega
            have hv39 : vq39.toInt = zq3.toInt + pq0.toInt := by rw [eq39, iq_add (by omega) (by omega)]
            refine lv_istore_n (lv' := [(3, .int vq39), (2, .int rq13), (4, .int rq13), (0, .int pq0), (1, .int pq1)]) hx hb dX6_distanceOf_40 rfl hl (by decide) rfl (fun ls hl => ?_)
            refine lv_goto (tgt := 5) hx hb dX6_distanceOf_41 (by decide) ?_
            exact ih5 _ _ rq13 vq39 hS (by first | omega) (by first | exact dI_0 (by omega) | exact dI_next i5_1 hlt hr13 (Or.inl ⟨Or.inl cq21, rfl⟩) (by omega) hv39 | exact dI_next i5_1 hlt hr13 (Or.inl ⟨Or.inr (by rw [iq_lt]; rw [iq_le] at cq27; omega), rfl⟩) (by omega) hv39 | exact dI_next i5_1 hlt hr13 (Or.inr ⟨cq21, (by rw [iq_lt]; rw [iq_le] at cq27; omega), rfl⟩) (by omega) hv39) (by omega) _ (lv_sub hl [3, 4, 1, 0] rfl)
  refine lv_ldc (v := (-1000000)) hx hb hown (hts (.constant RX6 110 (-1000000)) (by decide +kernel)) dX6_distanceOf_0 ?_
  refine lv_istore_n (lv' := [(2, .int (-1000000)), (0, .int pq0), (1, .int pq1)]) hx hb dX6_distanceOf_2 rfl hl (by decide) rfl (fun ls hl => ?_)
  refine lv_iload_n hx hb dX6_distanceOf_3 rfl (lv_at hl 1 rfl) ?_
  refine lv_istore_n (lv' := [(3, .int pq0), (2, .int (-1000000)), (0, .int pq0), (1, .int pq1)]) hx hb dX6_distanceOf_4 rfl hl (by decide) rfl (fun ls hl => ?_)
  exact hJ5 ((70000 - pq0.toInt).toNat + 1) _ _ ((-1000000)) pq0 hS (by first | omega) (by first | exact dI_0 (by omega) | exact dI_next i5_1 hlt hr13 (Or.inl ⟨Or.inl cq21, rfl⟩) (by omega) hv39 | exact dI_next i5_1 hlt hr13 (Or.inl ⟨Or.inr (by rw [iq_lt]; rw [iq_le] at cq27; omega), rfl⟩) (by omega) hv39 | exact dI_next i5_1 hlt hr13 (Or.inr ⟨cq21, (by rw [iq_lt]; rw [iq_le] at cq27; omega), rfl⟩) (by omega) hv39) (Nat.lt_succ_self _) _ (lv_sub hl [2, 3, 1, 0] rfl)

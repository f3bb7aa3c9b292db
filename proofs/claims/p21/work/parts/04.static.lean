abbrev rmX5_isRegister : Room := { frames := 0, cells := 0, slots := 0, locals := 0 }
set_option maxHeartbeats 4000000 in
set_option maxRecDepth 100000 in
theorem k_X5_isRegister (l : Launch) (pq0 : Int32)  : Pi_ l yX5_isRegister wsX5_isRegister rmX5_isRegister [.int pq0] (fun r => r = 0 ∨ (r = 1 ∧ 0 ≤ pq0.toInt ∧ pq0.toInt < 4)) := by
  refine Met.ofW (cc := cX5_isRegister) (maxL := 1) (ret := (some .boolean)) (by decide) rfl ?_
  intro p e s m args below meth c s₁ B hml hv
  obtain ⟨rfl, -⟩ := hv
  have hx := B.exec
  have hb := B.bytes
  have hr := B.returns
  have hts := atoms_spec (ws := wsX5_isRegister) B.pre
  have hown : s.vm.findClass RX5 = some m.cls := findClass_of_methodNamed B.named
  have hlocks := B.notSynchronized
  have hS : va_S (fun _ => False) s.heap s.heap [] := va_S.rf
  have hl := lv_entry ([.int pq0]) (n := 1) (Nat.le_of_ble_eq_true rfl)
  rw [lg_entry_eq]
  generalize (lg_sl ([.int pq0]) ++ List.replicate (1 - (lg_sl ([.int pq0])).length) Slot.unset).toArray = ls at hl ⊢
  have hl : lv_has ls 1 [(0, .int pq0)] := hl
  refine lv_iload_n hx hb dX5_isRegister_0 rfl (lv_at hl 0 rfl) ?_
  refine lv_if_lt (tgt := 13) hx hb dX5_isRegister_1 (by decide) (fun cq1 => ?_) (fun cq1 => ?_)
  · skip
    refine lv_iconst (v := 0) hx hb dX5_isRegister_13 (by decide) ?_
    exact W.zret (v := 0) (ty := .boolean) hx hb hr (rfl) (fun t ht hW => ⟨⟨0, (), rfl, by first | exact Or.inl rfl | exact Or.inr ⟨rfl, by rw [iq_lt] at cq1; exact Int.not_lt.mp cq1, by rw [iq_le] at cq6; exact Int.not_le.mp cq6⟩, trivial⟩, hS.F ht⟩) hS.2.2 dX5_isRegister_14
  · skip
    refine lv_iload_n hx hb dX5_isRegister_4 rfl (lv_at hl 0 rfl) ?_
    refine lv_iconst (v := 4) hx hb dX5_isRegister_5 (by decide) ?_
    refine lv_icmp_ge (tgt := 13) hx hb dX5_isRegister_6 (by decide) (fun cq6 => ?_) (fun cq6 => ?_)
    · skip
      refine lv_iconst (v := 0) hx hb dX5_isRegister_13 (by decide) ?_
      exact W.zret (v := 0) (ty := .boolean) hx hb hr (rfl) (fun t ht hW => ⟨⟨0, (), rfl, by first | exact Or.inl rfl | exact Or.inr ⟨rfl, by rw [iq_lt] at cq1; exact Int.not_lt.mp cq1, by rw [iq_le] at cq6; exact Int.not_le.mp cq6⟩, trivial⟩, hS.F ht⟩) hS.2.2 dX5_isRegister_14
    · skip
      refine lv_iconst (v := 1) hx hb dX5_isRegister_9 (by decide) ?_
      refine lv_goto (tgt := 14) hx hb dX5_isRegister_10 (by decide) ?_
      exact W.zret (v := 1) (ty := .boolean) hx hb hr (rfl) (fun t ht hW => ⟨⟨1, (), rfl, by first | exact Or.inl rfl | exact Or.inr ⟨rfl, by rw [iq_lt] at cq1; exact Int.not_lt.mp cq1, by rw [iq_le] at cq6; exact Int.not_le.mp cq6⟩, trivial⟩, hS.F ht⟩) hS.2.2 dX5_isRegister_14
abbrev rmX5_isImage : Room := { frames := 0, cells := 0, slots := 0, locals := 0 }
set_option maxHeartbeats 4000000 in
set_option maxRecDepth 100000 in
theorem k_X5_isImage (l : Launch) (pq0 : Int32)  : Pi_ l yX5_isImage wsX5_isImage rmX5_isImage [.int pq0] (fun r => r = 0 ∨ (r = 1 ∧ 0 ≤ pq0.toInt ∧ pq0.toInt < 2)) := by
  refine Met.ofW (cc := cX5_isImage) (maxL := 1) (ret := (some .boolean)) (by decide) rfl ?_
  intro p e s m args below meth c s₁ B hml hv
  obtain ⟨rfl, -⟩ := hv
  have hx := B.exec
  have hb := B.bytes
  have hr := B.returns
  have hts := atoms_spec (ws := wsX5_isImage) B.pre
  have hown : s.vm.findClass RX5 = some m.cls := findClass_of_methodNamed B.named
  have hlocks := B.notSynchronized
  have hS : va_S (fun _ => False) s.heap s.heap [] := va_S.rf
  have hl := lv_entry ([.int pq0]) (n := 1) (Nat.le_of_ble_eq_true rfl)
  rw [lg_entry_eq]
  generalize (lg_sl ([.int pq0]) ++ List.replicate (1 - (lg_sl ([.int pq0])).length) Slot.unset).toArray = ls at hl ⊢
  have hl : lv_has ls 1 [(0, .int pq0)] := hl
  refine lv_iload_n hx hb dX5_isImage_0 rfl (lv_at hl 0 rfl) ?_
  refine lv_if_lt (tgt := 13) hx hb dX5_isImage_1 (by decide) (fun cq1 => ?_) (fun cq1 => ?_)
  · skip
    refine lv_iconst (v := 0) hx hb dX5_isImage_13 (by decide) ?_
    exact W.zret (v := 0) (ty := .boolean) hx hb hr (rfl) (fun t ht hW => ⟨⟨0, (), rfl, by first | exact Or.inl rfl | exact Or.inr ⟨rfl, by rw [iq_lt] at cq1; exact Int.not_lt.mp cq1, by rw [iq_le] at cq6; exact Int.not_le.mp cq6⟩, trivial⟩, hS.F ht⟩) hS.2.2 dX5_isImage_14
  · skip
    refine lv_iload_n hx hb dX5_isImage_4 rfl (lv_at hl 0 rfl) ?_
    refine lv_iconst (v := 2) hx hb dX5_isImage_5 (by decide) ?_
    refine lv_icmp_ge (tgt := 13) hx hb dX5_isImage_6 (by decide) (fun cq6 => ?_) (fun cq6 => ?_)
    · skip
      refine lv_iconst (v := 0) hx hb dX5_isImage_13 (by decide) ?_
      exact W.zret (v := 0) (ty := .boolean) hx hb hr (rfl) (fun t ht hW => ⟨⟨0, (), rfl, by first | exact Or.inl rfl | exact Or.inr ⟨rfl, by rw [iq_lt] at cq1; exact Int.not_lt.mp cq1, by rw [iq_le] at cq6; exact Int.not_le.mp cq6⟩, trivial⟩, hS.F ht⟩) hS.2.2 dX5_isImage_14
    · skip
      refine lv_iconst (v := 1) hx hb dX5_isImage_9 (by decide) ?_
      refine lv_goto (tgt := 14) hx hb dX5_isImage_10 (by decide) ?_
      exact W.zret (v := 1) (ty := .boolean) hx hb hr (rfl) (fun t ht hW => ⟨⟨1, (), rfl, by first | exact Or.inl rfl | exact Or.inr ⟨rfl, by rw [iq_lt] at cq1; exact Int.not_lt.mp cq1, by rw [iq_le] at cq6; exact Int.not_le.mp cq6⟩, trivial⟩, hS.F ht⟩) hS.2.2 dX5_isImage_14
abbrev rmX5_isWidth : Room := { frames := 0, cells := 0, slots := 0, locals := 0 }
set_option maxHeartbeats 4000000 in
set_option maxRecDepth 100000 in
theorem k_X5_isWidth (l : Launch) (pq0 : Int32)  : Pi_ l yX5_isWidth wsX5_isWidth rmX5_isWidth [.int pq0] (fun r => (r = 0 ∨ (r = 1 ∧ 4 ≤ pq0.toInt ∧ pq0.toInt ≤ 16)) ∧ (r = 0 → ¬ isWd pq0)) := by
  refine Met.ofW (cc := cX5_isWidth) (maxL := 1) (ret := (some .boolean)) (by decide) rfl ?_
  intro p e s m args below meth c s₁ B hml hv
  obtain ⟨rfl, -⟩ := hv
  have hx := B.exec
  have hb := B.bytes
  have hr := B.returns
  have hts := atoms_spec (ws := wsX5_isWidth) B.pre
  have hown : s.vm.findClass RX5 = some m.cls := findClass_of_methodNamed B.named
  have hlocks := B.notSynchronized
  have hS : va_S (fun _ => False) s.heap s.heap [] := va_S.rf
  have hl := lv_entry ([.int pq0]) (n := 1) (Nat.le_of_ble_eq_true rfl)
  rw [lg_entry_eq]
  generalize (lg_sl ([.int pq0]) ++ List.replicate (1 - (lg_sl ([.int pq0])).length) Slot.unset).toArray = ls at hl ⊢
  have hl : lv_has ls 1 [(0, .int pq0)] := hl
  refine lv_iload_n hx hb dX5_isWidth_0 rfl (lv_at hl 0 rfl) ?_
  refine lv_iconst (v := 4) hx hb dX5_isWidth_1 (by decide) ?_
  refine lv_icmp_lt (tgt := 15) hx hb dX5_isWidth_2 (by decide) (fun cq2 => ?_) (fun cq2 => ?_)
  · skip
    refine lv_iconst (v := 0) hx hb dX5_isWidth_15 (by decide) ?_
    exact W.zret (v := 0) (ty := .boolean) hx hb hr (rfl) (fun t ht hW => ⟨⟨0, (), rfl, by first | exact ⟨Or.inl rfl, fun _ h => by rw [iq_lt] at cq2; exact absurd cq2 (Int.not_lt.mpr h.1)⟩ | exact ⟨Or.inl rfl, fun _ h => by rw [iq_lt] at cq8; exact absurd cq8 (Int.not_lt.mpr h.2)⟩ | exact ⟨Or.inr ⟨rfl, by rw [iq_lt] at cq2; exact Int.not_lt.mp cq2, by rw [iq_lt] at cq8; exact Int.not_lt.mp cq8⟩, fun q => absurd q (by decide)⟩, trivial⟩, hS.F ht⟩) hS.2.2 dX5_isWidth_16
  · skip
    refine lv_iload_n hx hb dX5_isWidth_5 rfl (lv_at hl 0 rfl) ?_
    refine lv_bipush (v := 16) hx hb dX5_isWidth_6 (by decide) ?_
    refine lv_icmp_gt (tgt := 15) hx hb dX5_isWidth_8 (by decide) (fun cq8 => ?_) (fun cq8 => ?_)
    · skip
      refine lv_iconst (v := 0) hx hb dX5_isWidth_15 (by decide) ?_
      exact W.zret (v := 0) (ty := .boolean) hx hb hr (rfl) (fun t ht hW => ⟨⟨0, (), rfl, by first | exact ⟨Or.inl rfl, fun _ h => by rw [iq_lt] at cq2; exact absurd cq2 (Int.not_lt.mpr h.1)⟩ | exact ⟨Or.inl rfl, fun _ h => by rw [iq_lt] at cq8; exact absurd cq8 (Int.not_lt.mpr h.2)⟩ | exact ⟨Or.inr ⟨rfl, by rw [iq_lt] at cq2; exact Int.not_lt.mp cq2, by rw [iq_lt] at cq8; exact Int.not_lt.mp cq8⟩, fun q => absurd q (by decide)⟩, trivial⟩, hS.F ht⟩) hS.2.2 dX5_isWidth_16
    · skip
      refine lv_iconst (v := 1) hx hb dX5_isWidth_11 (by decide) ?_
      refine lv_goto (tgt := 16) hx hb dX5_isWidth_12 (by decide) ?_
      exact W.zret (v := 1) (ty := .boolean) hx hb hr (rfl) (fun t ht hW => ⟨⟨1, (), rfl, by first | exact ⟨Or.inl rfl, fun _ h => by rw [iq_lt] at cq2; exact absurd cq2 (Int.not_lt.mpr h.1)⟩ | exact ⟨Or.inl rfl, fun _ h => by rw [iq_lt] at cq8; exact absurd cq8 (Int.not_lt.mpr h.2)⟩ | exact ⟨Or.inr ⟨rfl, by rw [iq_lt] at cq2; exact Int.not_lt.mp cq2, by rw [iq_lt] at cq8; exact Int.not_lt.mp cq8⟩, fun q => absurd q (by decide)⟩, trivial⟩, hS.F ht⟩) hS.2.2 dX5_isWidth_16
abbrev rmX5_isConstant : Room := { frames := 0, cells := 0, slots := 0, locals := 0 }
set_option maxHeartbeats 4000000 in
set_option maxRecDepth 100000 in
theorem k_X5_isConstant (l : Launch) (pq0 : Int32)  : Pi_ l yX5_isConstant wsX5_isConstant rmX5_isConstant [.int pq0] (fun r => (r = 0 ∨ (r = 1 ∧ isC pq0)) ∧ (r = 0 → ¬ isC pq0)) := by
  refine Met.ofW (cc := cX5_isConstant) (maxL := 1) (ret := (some .boolean)) (by decide) rfl ?_
  intro p e s m args below meth c s₁ B hml hv
  obtain ⟨rfl, -⟩ := hv
  have hx := B.exec
  have hb := B.bytes
  have hr := B.returns
  have hts := atoms_spec (ws := wsX5_isConstant) B.pre
  have hown : s.vm.findClass RX5 = some m.cls := findClass_of_methodNamed B.named
  have hlocks := B.notSynchronized
  have hS : va_S (fun _ => False) s.heap s.heap [] := va_S.rf
  have hl := lv_entry ([.int pq0]) (n := 1) (Nat.le_of_ble_eq_true rfl)
  rw [lg_entry_eq]
  generalize (lg_sl ([.int pq0]) ++ List.replicate (1 - (lg_sl ([.int pq0])).length) Slot.unset).toArray = ls at hl ⊢
  have hl : lv_has ls 1 [(0, .int pq0)] := hl
  refine lv_iload_n hx hb dX5_isConstant_0 rfl (lv_at hl 0 rfl) ?_
  refine lv_iconst (v := 3) hx hb dX5_isConstant_1 (by decide) ?_
  refine lv_icmp_lt (tgt := 23) hx hb dX5_isConstant_2 (by decide) (fun cq2 => ?_) (fun cq2 => ?_)
  · skip
    refine lv_iconst (v := 0) hx hb dX5_isConstant_23 (by decide) ?_
    exact W.zret (v := 0) (ty := .boolean) hx hb hr (rfl) (fun t ht hW => ⟨⟨0, (), rfl, by first | exact ⟨Or.inl rfl, fun _ h => by rw [iq_lt] at cq2; exact absurd cq2 (Int.not_lt.mpr h.1)⟩ | exact ⟨Or.inl rfl, fun _ h => by rw [iq_lt] at cq9; exact absurd cq9 (Int.not_lt.mpr h.2.1)⟩ | exact ⟨Or.inl rfl, fun _ h => cq16 (by rw [eq14, iq_eq, iq_rem]; show pq0.toInt.tmod 2 = 1; rw [Int.tmod_eq_emod_of_nonneg (by have h7 := h.1; omega)]; exact h.2.2)⟩ | (refine ⟨Or.inr ⟨rfl, ?_, ?_, ?_⟩, fun q => absurd q (by decide)⟩ <;> (rw [iq_lt] at cq2 cq9; have h3 : vq14.toInt = pq0.toInt.tmod 2 := by rw [eq14, iq_rem]; rfl) <;> (have h4 : vq14.toInt = 1 := by rw [cq16]; rfl) <;> (have h5 := Int.not_lt.mp cq2; have h6 := Int.not_lt.mp cq9; have h7 : (3 : Int) ≤ pq0.toInt := h5; have h8 : pq0.toInt ≤ 199 := h6; rw [Int.tmod_eq_emod_of_nonneg (by omega)] at h3; omega)), trivial⟩, hS.F ht⟩) hS.2.2 dX5_isConstant_24
  · skip
    refine lv_iload_n hx hb dX5_isConstant_5 rfl (lv_at hl 0 rfl) ?_
    refine lv_sipush (v := 199) hx hb dX5_isConstant_6 (by decide) ?_
    refine lv_icmp_gt (tgt := 23) hx hb dX5_isConstant_9 (by decide) (fun cq9 => ?_) (fun cq9 => ?_)
    · skip
      refine lv_iconst (v := 0) hx hb dX5_isConstant_23 (by decide) ?_
      exact W.zret (v := 0) (ty := .boolean) hx hb hr (rfl) (fun t ht hW => ⟨⟨0, (), rfl, by first | exact ⟨Or.inl rfl, fun _ h => by rw [iq_lt] at cq2; exact absurd cq2 (Int.not_lt.mpr h.1)⟩ | exact ⟨Or.inl rfl, fun _ h => by rw [iq_lt] at cq9; exact absurd cq9 (Int.not_lt.mpr h.2.1)⟩ | exact ⟨Or.inl rfl, fun _ h => cq16 (by rw [eq14, iq_eq, iq_rem]; show pq0.toInt.tmod 2 = 1; rw [Int.tmod_eq_emod_of_nonneg (by have h7 := h.1; omega)]; exact h.2.2)⟩ | (refine ⟨Or.inr ⟨rfl, ?_, ?_, ?_⟩, fun q => absurd q (by decide)⟩ <;> (rw [iq_lt] at cq2 cq9; have h3 : vq14.toInt = pq0.toInt.tmod 2 := by rw [eq14, iq_rem]; rfl) <;> (have h4 : vq14.toInt = 1 := by rw [cq16]; rfl) <;> (have h5 := Int.not_lt.mp cq2; have h6 := Int.not_lt.mp cq9; have h7 : (3 : Int) ≤ pq0.toInt := h5; have h8 : pq0.toInt ≤ 199 := h6; rw [Int.tmod_eq_emod_of_nonneg (by omega)] at h3; omega)), trivial⟩, hS.F ht⟩) hS.2.2 dX5_isConstant_24
    · skip
      refine lv_iload_n hx hb dX5_isConstant_12 rfl (lv_at hl 0 rfl) ?_
      refine lv_iconst (v := 2) hx hb dX5_isConstant_13 (by decide) ?_
      refine lv_irem hx hb dX5_isConstant_14 (by decide) ?_
      refine lv_topi (fun vq14 eq14 => ?_)
      refine lv_iconst (v := 1) hx hb dX5_isConstant_15 (by decide) ?_
      refine lv_icmp_ne (tgt := 23) hx hb dX5_isConstant_16 (by decide) (fun cq16 => ?_) (fun cq16 => ?_)
      · skip
        refine lv_iconst (v := 0) hx hb dX5_isConstant_23 (by decide) ?_
        exact W.zret (v := 0) (ty := .boolean) hx hb hr (rfl) (fun t ht hW => ⟨⟨0, (), rfl, by first | exact ⟨Or.inl rfl, fun _ h => by rw [iq_lt] at cq2; exact absurd cq2 (Int.not_lt.mpr h.1)⟩ | exact ⟨Or.inl rfl, fun _ h => by rw [iq_lt] at cq9; exact absurd cq9 (Int.not_lt.mpr h.2.1)⟩ | exact ⟨Or.inl rfl, fun _ h => cq16 (by rw [eq14, iq_eq, iq_rem]; show pq0.toInt.tmod 2 = 1; rw [Int.tmod_eq_emod_of_nonneg (by have h7 := h.1; omega)]; exact h.2.2)⟩ | (refine ⟨Or.inr ⟨rfl, ?_, ?_, ?_⟩, fun q => absurd q (by decide)⟩ <;> (rw [iq_lt] at cq2 cq9; have h3 : vq14.toInt = pq0.toInt.tmod 2 := by rw [eq14, iq_rem]; rfl) <;> (have h4 : vq14.toInt = 1 := by rw [cq16]; rfl) <;> (have h5 := Int.not_lt.mp cq2; have h6 := Int.not_lt.mp cq9; have h7 : (3 : Int) ≤ pq0.toInt := h5; have h8 : pq0.toInt ≤ 199 := h6; rw [Int.tmod_eq_emod_of_nonneg (by omega)] at h3; omega)), trivial⟩, hS.F ht⟩) hS.2.2 dX5_isConstant_24
      · skip
        refine lv_iconst (v := 1) hx hb dX5_isConstant_19 (by decide) ?_
        refine lv_goto (tgt := 24) hx hb dX5_isConstant_20 (by decide) ?_
        exact W.zret (v := 1) (ty := .boolean) hx hb hr (rfl) (fun t ht hW => ⟨⟨1, (), rfl, by first | exact ⟨Or.inl rfl, fun _ h => by rw [iq_lt] at cq2; exact absurd cq2 (Int.not_lt.mpr h.1)⟩ | exact ⟨Or.inl rfl, fun _ h => by rw [iq_lt] at cq9; exact absurd cq9 (Int.not_lt.mpr h.2.1)⟩ | exact ⟨Or.inl rfl, fun _ h => cq16 (by rw [eq14, iq_eq, iq_rem]; show pq0.toInt.tmod 2 = 1; rw [Int.tmod_eq_emod_of_nonneg (by have h7 := h.1; omega)]; exact h.2.2)⟩ | (refine ⟨Or.inr ⟨rfl, ?_, ?_, ?_⟩, fun q => absurd q (by decide)⟩ <;> (rw [iq_lt] at cq2 cq9; have h3 : vq14.toInt = pq0.toInt.tmod 2 := by rw [eq14, iq_rem]; rfl) <;> (have h4 : vq14.toInt = 1 := by rw [cq16]; rfl) <;> (have h5 := Int.not_lt.mp cq2; have h6 := Int.not_lt.mp cq9; have h7 : (3 : Int) ≤ pq0.toInt := h5; have h8 : pq0.toInt ≤ 199 := h6; rw [Int.tmod_eq_emod_of_nonneg (by omega)] at h3; omega)), trivial⟩, hS.F ht⟩) hS.2.2 dX5_isConstant_24
abbrev rmJ9_floorMod_7cf53 : Room := { frames := 0, cells := 0, slots := 0, locals := 0 }
set_option maxHeartbeats 4000000 in
set_option maxRecDepth 100000 in
theorem k_J9_floorMod_7cf53 (l : Launch) (pq0 : Int32) (pq1 : Int32) (hy : 0 < pq1.toInt) : Pi_ l yJ9_floorMod_7cf53 wsJ9_floorMod_7cf53 rmJ9_floorMod_7cf53 [.int pq0, .int pq1] (fun r => r.toInt = pq0.toInt % pq1.toInt) := by
  refine va_MetF (cc := cJ9_floorMod_7cf53) (maxL := 3) (ret := (some .int)) (by decide +kernel) rfl ?_
  intro p e s m args below meth c s₁ B hml hv
  obtain ⟨rfl, -⟩ := hv
  have hx := B.exec
  have hb := B.bytes
  have hr := B.returns
  have hts := atoms_spec (ws := wsJ9_floorMod_7cf53) B.pre
  have hown : s.vm.findClass RJ9 = some m.cls := findClass_of_methodNamed B.named
  have hlocks := B.notSynchronized
  have hS : va_S (fun _ => False) s.heap s.heap [] := va_S.rf
  have hl := lv_entry ([.int pq0, .int pq1]) (n := 3) (Nat.le_of_ble_eq_true rfl)
  rw [lg_entry_eq]
  generalize (lg_sl ([.int pq0, .int pq1]) ++ List.replicate (3 - (lg_sl ([.int pq0, .int pq1])).length) Slot.unset).toArray = ls at hl ⊢
  have hl : lv_has ls 3 [(0, .int pq0), (1, .int pq1)] := hl
  refine lv_iload_n hx hb dJ9_floorMod_7cf53_0 rfl (lv_at hl 0 rfl) ?_
  refine lv_iload_n hx hb dJ9_floorMod_7cf53_1 rfl (lv_at hl 1 rfl) ?_
  refine lv_irem hx hb dJ9_floorMod_7cf53_2 (fun h => by rw [h] at hy; exact absurd hy (by decide)) ?_
  refine lv_topi (fun vq2 eq2 => ?_)
  refine lv_istore_n (lv' := [(2, .int vq2), (0, .int pq0), (1, .int pq1)]) hx hb dJ9_floorMod_7cf53_3 rfl hl (by decide) rfl (fun ls hl => ?_)
  refine lv_iload_n hx hb dJ9_floorMod_7cf53_4 rfl (lv_at hl 1 rfl) ?_
  refine lv_iload_n hx hb dJ9_floorMod_7cf53_5 rfl (lv_at hl 2 rfl) ?_
  refine lv_ixor hx hb dJ9_floorMod_7cf53_6 ?_
  refine lv_topi (fun vq6 eq6 => ?_)
  refine lv_if_ge (tgt := 18) hx hb dJ9_floorMod_7cf53_7 (by decide) (fun cq7 => ?_) (fun cq7 => ?_)
  · skip
    refine lv_iload_n hx hb dJ9_floorMod_7cf53_18 rfl (lv_at hl 0 rfl) ?_
    exact W.iret (v := vq2) hx hb hr (fun t ht hW => ⟨⟨vq2, (), rfl, iq_fm (md := vq2) hy (by rw [eq2]; exact iq_rem pq0 pq1) (by first | exact Or.inr (Or.inl ⟨by have h := cq7; rw [iq_le] at h; have h2 := (iq_xneg (x := pq0) hy).mp (by rw [← eq6, iq_lt]; exact Int.not_le.mp h); rw [iq_lt] at h2; exact h2, by rw [cq11]; rfl, rfl⟩) | exact Or.inl ⟨Int.not_lt.mp (fun q => by have h2 := (iq_xneg (x := pq0) hy).mpr (by rw [iq_lt]; exact q); rw [← eq6, iq_lt] at h2; rw [iq_le] at cq7; exact absurd h2 (Int.not_lt.mpr cq7)), rfl⟩), trivial⟩, hS.F ht⟩) hS.2.2 dJ9_floorMod_7cf53_19
  · skip
    refine lv_iload_n hx hb dJ9_floorMod_7cf53_10 rfl (lv_at hl 0 rfl) ?_
    refine lv_if_eq (tgt := 18) hx hb dJ9_floorMod_7cf53_11 (by decide) (fun cq11 => ?_) (fun cq11 => ?_)
    · skip
      refine lv_iload_n hx hb dJ9_floorMod_7cf53_18 rfl (lv_at hl 0 rfl) ?_
      exact W.iret (v := vq2) hx hb hr (fun t ht hW => ⟨⟨vq2, (), rfl, iq_fm (md := vq2) hy (by rw [eq2]; exact iq_rem pq0 pq1) (by first | exact Or.inr (Or.inl ⟨by have h := cq7; rw [iq_le] at h; have h2 := (iq_xneg (x := pq0) hy).mp (by rw [← eq6, iq_lt]; exact Int.not_le.mp h); rw [iq_lt] at h2; exact h2, by rw [cq11]; rfl, rfl⟩) | exact Or.inl ⟨Int.not_lt.mp (fun q => by have h2 := (iq_xneg (x := pq0) hy).mpr (by rw [iq_lt]; exact q); rw [← eq6, iq_lt] at h2; rw [iq_le] at cq7; exact absurd h2 (Int.not_lt.mpr cq7)), rfl⟩), trivial⟩, hS.F ht⟩) hS.2.2 dJ9_floorMod_7cf53_19
    · skip
      refine lv_iload_n hx hb dJ9_floorMod_7cf53_14 rfl (lv_at hl 0 rfl) ?_
      refine lv_iload_n hx hb dJ9_floorMod_7cf53_15 rfl (lv_at hl 2 rfl) ?_
      refine lv_iadd hx hb dJ9_floorMod_7cf53_16 ?_
      refine lv_topi (fun vq16 eq16 => ?_)
      exact W.iret (v := vq16) hx hb hr (fun t ht hW => ⟨⟨vq16, (), rfl, iq_fm (md := vq2) hy (by rw [eq2]; exact iq_rem pq0 pq1) (Or.inr (Or.inr ⟨by have h := cq7; rw [iq_le] at h; have h2 := (iq_xneg (x := pq0) hy).mp (by rw [← eq6, iq_lt]; exact Int.not_le.mp h); rw [iq_lt] at h2; exact h2, fun q => cq11 (by rw [iq_eq]; exact q), eq16⟩)), trivial⟩, hS.F ht⟩) hS.2.2 dJ9_floorMod_7cf53_17
abbrev rmX5_rest : Room := { frames := 1, cells := 0, slots := 0, locals := 22 }
set_option maxHeartbeats 4000000 in
set_option maxRecDepth 100000 in
theorem k_X5_rest (l : Launch) (pq0 : Int32) (pq1 : Int32)  : Pi_ l yX5_rest wsX5_rest rmX5_rest [.int pq0, .int pq1] (fun r => 1 ≤ pq1.toInt → r.toInt = pq0.toInt % pq1.toInt) := by
  refine Met.ofW (cc := cX5_rest) (maxL := 2) (ret := (some .int)) (by decide) rfl ?_
  intro p e s m args below meth c s₁ B hml hv
  obtain ⟨rfl, -⟩ := hv
  have hx := B.exec
  have hb := B.bytes
  have hr := B.returns
  have hts := atoms_spec (ws := wsX5_rest) B.pre
  have hown : s.vm.findClass RX5 = some m.cls := findClass_of_methodNamed B.named
  have hlocks := B.notSynchronized
  have hS : va_S (fun _ => False) s.heap s.heap [] := va_S.rf
  have hl := lv_entry ([.int pq0, .int pq1]) (n := 2) (Nat.le_of_ble_eq_true rfl)
  rw [lg_entry_eq]
  generalize (lg_sl ([.int pq0, .int pq1]) ++ List.replicate (2 - (lg_sl ([.int pq0, .int pq1])).length) Slot.unset).toArray = ls at hl ⊢
  have hl : lv_has ls 2 [(0, .int pq0), (1, .int pq1)] := hl
  refine lv_iload_n hx hb dX5_rest_0 rfl (lv_at hl 1 rfl) ?_
  refine lv_iconst (v := 1) hx hb dX5_rest_1 (by decide) ?_
  refine lv_icmp_ge (tgt := 9) hx hb dX5_rest_2 (by decide) (fun cq2 => ?_) (fun cq2 => ?_)
  · skip
    refine lv_iload_n hx hb dX5_rest_9 rfl (lv_at hl 0 rfl) ?_
    refine lv_iload_n hx hb dX5_rest_10 rfl (lv_at hl 1 rfl) ?_
    refine p_i (va_runS (As := [.int pq0, .int pq1]) (rest := []) ⟨hx, hb, hml, hown, hts⟩ (k_J9_floorMod_7cf53 l pq0 pq1 (by rw [iq_le] at cq2; have h : (1 : Int) ≤ pq1.toInt := cq2; omega)) (va_cwS 2 hts gX5_rest_J9_floorMod_7cf53 rfl rfl rfl (by decide +kernel) ⟨Nat.le_of_ble_eq_true rfl, Nat.le_of_ble_eq_true rfl⟩) (pPreS) rfl rfl hl.1 rfl (lv_room (Nat.le_of_ble_eq_true rfl)) dX5_rest_11 ⟨Nat.le_of_ble_eq_true rfl, Nat.le_of_ble_eq_true rfl⟩) hS (fun rq11 H locs hp11 hS => ?_)
    exact W.iret (v := rq11) hx hb hr (fun t ht hW => ⟨⟨rq11, (), rfl, by first | exact fun _ => hp11 | exact fun h => absurd (by rw [iq_le]; exact h) cq2, trivial⟩, hS.F ht⟩) hS.2.2 dX5_rest_14
  · skip
    refine lv_iconst (v := 0) hx hb dX5_rest_5 (by decide) ?_
    refine lv_goto (tgt := 14) hx hb dX5_rest_6 (by decide) ?_
    exact W.iret (v := 0) hx hb hr (fun t ht hW => ⟨⟨0, (), rfl, by first | exact fun _ => hp11 | exact fun h => absurd (by rw [iq_le]; exact h) cq2, trivial⟩, hS.F ht⟩) hS.2.2 dX5_rest_14
abbrev rmX5_cut : Room := { frames := 0, cells := 0, slots := 0, locals := 0 }
set_option maxHeartbeats 4000000 in
set_option maxRecDepth 100000 in
theorem k_X5_cut (l : Launch) (pq0 : Int64) (pq2 : Int32)  : Pl_ l yX5_cut wsX5_cut rmX5_cut [.long pq0, .int pq2] (fun r : Int64 => 1 ≤ pq2.toInt → r = pq0 / pq2.toInt64) := by
  refine Met.ofW (cc := cX5_cut) (maxL := 3) (ret := (some .long)) (by decide) rfl ?_
  intro p e s m args below meth c s₁ B hml hv
  obtain ⟨rfl, -⟩ := hv
  have hx := B.exec
  have hb := B.bytes
  have hr := B.returns
  have hts := atoms_spec (ws := wsX5_cut) B.pre
  have hown : s.vm.findClass RX5 = some m.cls := findClass_of_methodNamed B.named
  have hlocks := B.notSynchronized
  have hS : va_S (fun _ => False) s.heap s.heap [] := va_S.rf
  have hl := lv_entry ([.long pq0, .int pq2]) (n := 3) (Nat.le_of_ble_eq_true rfl)
  rw [lg_entry_eq]
  generalize (lg_sl ([.long pq0, .int pq2]) ++ List.replicate (3 - (lg_sl ([.long pq0, .int pq2])).length) Slot.unset).toArray = ls at hl ⊢
  have hl : lv_has ls 3 [(0, .long pq0), (2, .int pq2)] := hl
  refine lv_iload_n hx hb dX5_cut_0 rfl (lv_at hl 1 rfl) ?_
  refine lv_iconst (v := 1) hx hb dX5_cut_1 (by decide) ?_
  refine lv_icmp_ge (tgt := 9) hx hb dX5_cut_2 (by decide) (fun cq2 => ?_) (fun cq2 => ?_)
  · skip
    refine lv_lload_n hx hb dX5_cut_9 rfl (lv_at hl 0 rfl) ?_
    refine lv_iload_n hx hb dX5_cut_10 rfl (lv_at hl 1 rfl) ?_
    refine lv_i2l (v := (pq2 : Int32).toInt64) hx hb dX5_cut_11 rfl ?_
    refine lv_topl (fun vq11 eq11 => ?_)
    refine lv_ldiv hx hb dX5_cut_12 (fun h => by rw [iq_le] at cq2; rw [eq11] at h; have h2 := congrArg Int64.toInt h; rw [Int32.toInt_toInt64] at h2; have h3 : (1 : Int) ≤ pq2.toInt := cq2; have h4 : pq2.toInt = 0 := h2; omega) ?_
    refine lv_topl (fun vq12 eq12 => ?_)
    exact W.lret (v := vq12) hx hb hr (fun t ht hW => ⟨⟨vq12, (), rfl, by first | exact fun _ => by rw [eq12, eq11] | exact fun h => absurd (by rw [iq_le]; exact h) cq2, trivial⟩, hS.F ht⟩) hS.2.2 dX5_cut_13
  · skip
    refine lv_lconst (v := 0) hx hb dX5_cut_5 (by decide) ?_
    refine lv_goto (tgt := 13) hx hb dX5_cut_6 (by decide) ?_
    exact W.lret (v := 0) hx hb hr (fun t ht hW => ⟨⟨0, (), rfl, by first | exact fun _ => by rw [eq12, eq11] | exact fun h => absurd (by rw [iq_le]; exact h) cq2, trivial⟩, hS.F ht⟩) hS.2.2 dX5_cut_13
abbrev rmX5_commonDivisor : Room := { frames := 2, cells := 0, slots := 0, locals := 43 }
set_option maxHeartbeats 4000000 in
set_option maxRecDepth 100000 in
theorem k_X5_commonDivisor (l : Launch) (pq0 : Int32) (pq1 : Int32)  : Pi_ l yX5_commonDivisor wsX5_commonDivisor rmX5_commonDivisor [.int pq0, .int pq1] (fun _ => True) := by
  refine Met.ofW (cc := cX5_commonDivisor) (maxL := 6) (ret := (some .int)) (by decide) rfl ?_
  intro p e s m args below meth c s₁ B hml hv
  obtain ⟨rfl, -⟩ := hv
  have hx := B.exec
  have hb := B.bytes
  have hr := B.returns
  have hts := atoms_spec (ws := wsX5_commonDivisor) B.pre
  have hown : s.vm.findClass RX5 = some m.cls := findClass_of_methodNamed B.named
  have hlocks := B.notSynchronized
  have hS : va_S (fun _ => False) s.heap s.heap [] := va_S.rf
  have hl := lv_entry ([.int pq0, .int pq1]) (n := 6) (Nat.le_of_ble_eq_true rfl)
  rw [lg_entry_eq]
  generalize (lg_sl ([.int pq0, .int pq1]) ++ List.replicate (6 - (lg_sl ([.int pq0, .int pq1])).length) Slot.unset).toArray = ls at hl ⊢
  have hl : lv_has ls 6 [(0, .int pq0), (1, .int pq1)] := hl
  have hJ7 : ∀ (n7 : Nat) (H : Heap) (locs : List Loc) (zq2 : Int32) (zq3 : Int32) (zq4 : Int32), (va_S (fun _ => False) s.heap H locs) → ((2147483647 - zq4.toInt).toNat < n7) → ∀ (ls : Array Slot), lv_has ls 6 [(2, .int zq2), (3, .int zq3), (4, .int zq4)] → W p l e rmX5_commonDivisor s m [.int pq0, .int pq1].toArray below meth c H locs 0 0 (MQ below (va_Qi (fun (r : Int32) (_ : Unit) => (fun _ => True) r) (fun _ _ => True) (fun _ => False)) [.int pq0, .int pq1].toArray s 0 0 (fun _ => False)) (F0 m 7 ls []) := by
    intro n7
    induction n7 with
    | zero =>
      intro H locs zq2 zq3 zq4 hS hm7 ls hl
      exact absurd hm7 (Nat.not_lt_zero _)
    | succ n7 ih7 =>
      intro H locs zq2 zq3 zq4 hS hm7 ls hl
      refine lv_iload hx hb dX5_commonDivisor_7 (lv_at hl 2 rfl) ?_
      refine lv_bipush (v := 64) hx hb dX5_commonDivisor_9 (by decide) ?_
      refine lv_icmp_ge (tgt := 36) hx hb dX5_commonDivisor_11 (by decide) (fun cq11 => ?_) (fun cq11 => ?_)
      · skip
        refine lv_iload_n hx hb dX5_commonDivisor_36 rfl (lv_at hl 0 rfl) ?_
        exact W.iret (v := zq2) hx hb hr (fun t ht hW => ⟨⟨zq2, (), rfl, trivial, trivial⟩, hS.F ht⟩) hS.2.2 dX5_commonDivisor_37
      · skip
        refine lv_iload_n hx hb dX5_commonDivisor_14 rfl (lv_at hl 1 rfl) ?_
        refine lv_if_eq (tgt := 36) hx hb dX5_commonDivisor_15 (by decide) (fun cq15 => ?_) (fun cq15 => ?_)
        · skip
          refine lv_iload_n hx hb dX5_commonDivisor_36 rfl (lv_at hl 0 rfl) ?_
          exact W.iret (v := zq2) hx hb hr (fun t ht hW => ⟨⟨zq2, (), rfl, trivial, trivial⟩, hS.F ht⟩) hS.2.2 dX5_commonDivisor_37
        · skip
          refine lv_iload_n hx hb dX5_commonDivisor_18 rfl (lv_at hl 0 rfl) ?_
          refine lv_iload_n hx hb dX5_commonDivisor_19 rfl (lv_at hl 1 rfl) ?_
          refine p_i (va_runS (As := [.int zq2, .int zq3]) (rest := []) ⟨hx, hb, hml, hown, hts⟩ (k_X5_rest l zq2 zq3) (va_cwS 2 hts gX5_commonDivisor_X5_rest rfl rfl rfl (by decide +kernel) ⟨Nat.le_of_ble_eq_true rfl, Nat.le_of_ble_eq_true rfl⟩) (pPreS) rfl rfl hl.1 rfl (lv_room (Nat.le_of_ble_eq_true rfl)) dX5_commonDivisor_20 ⟨Nat.le_of_ble_eq_true rfl, Nat.le_of_ble_eq_true rfl⟩) hS (fun rq20 H locs hp20 hS => ?_)
          refine lv_istore (lv' := [(5, .int rq20), (2, .int zq2), (3, .int zq3), (4, .int zq4)]) hx hb dX5_commonDivisor_23 hl (by decide) rfl (fun ls hl => ?_)
          refine lv_iload_n hx hb dX5_commonDivisor_25 rfl (lv_at hl 2 rfl) ?_
          refine lv_istore_n (lv' := [(2, .int zq3), (5, .int rq20), (3, .int zq3), (4, .int zq4)]) hx hb dX5_commonDivisor_26 rfl hl (by decide) rfl (fun ls hl => ?_)
          refine lv_iload hx hb dX5_commonDivisor_27 (lv_at hl 1 rfl) ?_
          refine lv_istore_n (lv' := [(3, .int rq20), (2, .int zq3), (5, .int rq20), (4, .int zq4)]) hx hb dX5_commonDivisor_29 rfl hl (by decide) rfl (fun ls hl => ?_)
          obtain ⟨vq30, eq30⟩ : ∃ y : Int32, y = zq4 + 1 := ⟨_, rfl⟩
          refine lv_iinc (v := vq30) (lv' := [(4, .int vq30), (3, .int rq20), (2, .int zq3), (5, .int rq20)]) hx hb dX5_commonDivisor_30 hl (k := 3) rfl (by rw [eq30]; rfl) (by decide) rfl (fun ls hl => ?_)
          refine lv_goto (tgt := 7) hx hb dX5_commonDivisor_33 (by decide) ?_
          exact ih7 _ _ zq3 rq20 vq30 hS (iq_up hm7 cq11 eq30) _ (lv_sub hl [2, 1, 0] rfl)
  refine lv_iload_n hx hb dX5_commonDivisor_0 rfl (lv_at hl 0 rfl) ?_
  refine lv_istore_n (lv' := [(2, .int pq0), (0, .int pq0), (1, .int pq1)]) hx hb dX5_commonDivisor_1 rfl hl (by decide) rfl (fun ls hl => ?_)
  refine lv_iload_n hx hb dX5_commonDivisor_2 rfl (lv_at hl 2 rfl) ?_
  refine lv_istore_n (lv' := [(3, .int pq1), (2, .int pq0), (0, .int pq0), (1, .int pq1)]) hx hb dX5_commonDivisor_3 rfl hl (by decide) rfl (fun ls hl => ?_)
  refine lv_iconst (v := 0) hx hb dX5_commonDivisor_4 (by decide) ?_
  refine lv_istore (lv' := [(4, .int 0), (3, .int pq1), (2, .int pq0), (0, .int pq0), (1, .int pq1)]) hx hb dX5_commonDivisor_5 hl (by decide) rfl (fun ls hl => ?_)
  exact hJ7 ((2147483647 - (0 : Int32).toInt).toNat + 1) _ _ pq0 pq1 0 hS (Nat.lt_succ_self _) _ (lv_sub hl [2, 1, 0] rfl)
abbrev rmX5_change : Room := { frames := 0, cells := 0, slots := 0, locals := 0 }
set_option maxHeartbeats 4000000 in
set_option maxRecDepth 100000 in
theorem k_X5_change (l : Launch) (pq0 : Int32)  : Pi_ l yX5_change wsX5_change rmX5_change [.int pq0] (fun r : Int32 => r = cBy pq0) := by
  refine Met.ofW (cc := cX5_change) (maxL := 2) (ret := (some .int)) (by decide) rfl ?_
  intro p e s m args below meth c s₁ B hml hv
  obtain ⟨rfl, -⟩ := hv
  have hx := B.exec
  have hb := B.bytes
  have hr := B.returns
  have hts := atoms_spec (ws := wsX5_change) B.pre
  have hown : s.vm.findClass RX5 = some m.cls := findClass_of_methodNamed B.named
  have hlocks := B.notSynchronized
  have hS : va_S (fun _ => False) s.heap s.heap [] := va_S.rf
  have hl := lv_entry ([.int pq0]) (n := 2) (Nat.le_of_ble_eq_true rfl)
  rw [lg_entry_eq]
  generalize (lg_sl ([.int pq0]) ++ List.replicate (2 - (lg_sl ([.int pq0])).length) Slot.unset).toArray = ls at hl ⊢
  have hl : lv_has ls 2 [(0, .int pq0)] := hl
  refine lv_iconst (v := 1) hx hb dX5_change_0 (by decide) ?_
  refine lv_iload_n hx hb dX5_change_1 rfl (lv_at hl 0 rfl) ?_
  refine lv_iconst (v := 2) hx hb dX5_change_2 (by decide) ?_
  refine lv_idiv hx hb dX5_change_3 (by decide) ?_
  refine lv_topi (fun vq3 eq3 => ?_)
  refine lv_ishl hx hb dX5_change_4 ?_
  refine lv_topi (fun vq4 eq4 => ?_)
  refine lv_istore_n (lv' := [(1, .int vq4), (0, .int pq0)]) hx hb dX5_change_5 rfl hl (by decide) rfl (fun ls hl => ?_)
  refine lv_iload_n hx hb dX5_change_6 rfl (lv_at hl 1 rfl) ?_
  refine lv_iconst (v := 2) hx hb dX5_change_7 (by decide) ?_
  refine lv_irem hx hb dX5_change_8 (by decide) ?_
  refine lv_topi (fun vq8 eq8 => ?_)
  refine lv_if_ne (tgt := 16) hx hb dX5_change_9 (by decide) (fun cq9 => ?_) (fun cq9 => ?_)
  · skip
    refine lv_iload_n hx hb dX5_change_16 rfl (lv_at hl 0 rfl) ?_
    refine lv_ineg hx hb dX5_change_17 ?_
    refine lv_topi (fun vq17 eq17 => ?_)
    exact W.iret (v := vq17) hx hb hr (fun t ht hW => ⟨⟨vq17, (), rfl, by unfold cBy; subst eq8; first | (rw [if_pos cq9, eq4, eq3]; done) | (rw [if_neg cq9, eq17, eq4, eq3]), trivial⟩, hS.F ht⟩) hS.2.2 dX5_change_18
  · skip
    refine lv_iload_n hx hb dX5_change_12 rfl (lv_at hl 0 rfl) ?_
    refine lv_goto (tgt := 18) hx hb dX5_change_13 (by decide) ?_
    exact W.iret (v := vq4) hx hb hr (fun t ht hW => ⟨⟨vq4, (), rfl, by unfold cBy; subst eq8; first | (rw [if_pos cq9, eq4, eq3]; done) | (rw [if_neg cq9, eq17, eq4, eq3]), trivial⟩, hS.F ht⟩) hS.2.2 dX5_change_18
abbrev rmX5_strikesLeaving : Room := { frames := 2, cells := 0, slots := 0, locals := 43 }
set_option maxHeartbeats 4000000 in
set_option maxRecDepth 100000 in
theorem k_X5_strikesLeaving (l : Launch) (pq0 : Int32) (pq1 : Int32) (pq2 : Int32)  : Pi_ l yX5_strikesLeaving wsX5_strikesLeaving rmX5_strikesLeaving [.int pq0, .int pq1, .int pq2] (fun r : Int32 => 1 ≤ pq1.toInt → 0 ≤ pq2.toInt → pq2.toInt ≤ 16 → r.toInt = (cnN (fB pq1) pq0.toInt (2 * pq2.toInt.toNat) : Int)) := by
  refine Met.ofW (cc := cX5_strikesLeaving) (maxL := 5) (ret := (some .int)) (by decide) rfl ?_
  intro p e s m args below meth c s₁ B hml hv
  obtain ⟨rfl, -⟩ := hv
  have hx := B.exec
  have hb := B.bytes
  have hr := B.returns
  have hts := atoms_spec (ws := wsX5_strikesLeaving) B.pre
  have hown : s.vm.findClass RX5 = some m.cls := findClass_of_methodNamed B.named
  have hlocks := B.notSynchronized
  have hS : va_S (fun _ => False) s.heap s.heap [] := va_S.rf
  have hl := lv_entry ([.int pq0, .int pq1, .int pq2]) (n := 5) (Nat.le_of_ble_eq_true rfl)
  rw [lg_entry_eq]
  generalize (lg_sl ([.int pq0, .int pq1, .int pq2]) ++ List.replicate (5 - (lg_sl ([.int pq0, .int pq1, .int pq2])).length) Slot.unset).toArray = ls at hl ⊢
  have hl : lv_has ls 5 [(0, .int pq0), (1, .int pq1), (2, .int pq2)] := hl
  have hJ5 : ∀ (n5 : Nat) (H : Heap) (locs : List Loc) (zq3 : Int32) (zq4 : Int32), (va_S (fun _ => False) s.heap H locs) → (slI pq0 pq1 pq2 zq3 zq4) → ((2147483647 - zq4.toInt).toNat < n5) → ∀ (ls : Array Slot), lv_has ls 5 [(0, .int pq0), (1, .int pq1), (2, .int pq2), (3, .int zq3), (4, .int zq4)] → W p l e rmX5_strikesLeaving s m [.int pq0, .int pq1, .int pq2].toArray below meth c H locs 0 0 (MQ below (va_Qi (fun (r : Int32) (_ : Unit) => (fun r : Int32 => 1 ≤ pq1.toInt → 0 ≤ pq2.toInt → pq2.toInt ≤ 16 → r.toInt = (cnN (fB pq1) pq0.toInt (2 * pq2.toInt.toNat) : Int)) r) (fun _ _ => True) (fun _ => False)) [.int pq0, .int pq1, .int pq2].toArray s 0 0 (fun _ => False)) (F0 m 5 ls []) := by
    intro n5
    induction n5 with
    | zero =>
      intro H locs zq3 zq4 hS i5_0 hm5 ls hl
      exact absurd hm5 (Nat.not_lt_zero _)
    | succ n5 ih5 =>
      intro H locs zq3 zq4 hS i5_0 hm5 ls hl
      refine lv_iload hx hb dX5_strikesLeaving_5 (lv_at hl 4 rfl) ?_
      refine lv_iconst (v := 2) hx hb dX5_strikesLeaving_7 (by decide) ?_
      refine lv_iload_n hx hb dX5_strikesLeaving_8 rfl (lv_at hl 2 rfl) ?_
      refine lv_imul hx hb dX5_strikesLeaving_9 ?_
      refine lv_topi (fun vq9 eq9 => ?_)
      refine lv_icmp_ge (tgt := 35) hx hb dX5_strikesLeaving_10 (by decide) (fun cq10 => ?_) (fun cq10 => ?_)
      · skip
        refine lv_iload_n hx hb dX5_strikesLeaving_35 rfl (lv_at hl 3 rfl) ?_
        exact W.iret (v := zq3) hx hb hr (fun t ht hW => ⟨⟨zq3, (), rfl, slI_end i5_0 eq9 cq10, trivial⟩, hS.F ht⟩) hS.2.2 dX5_strikesLeaving_36
      · skip
        refine lv_iload hx hb dX5_strikesLeaving_13 (lv_at hl 4 rfl) ?_
        refine p_i (va_runS (As := [.int zq4]) (rest := []) ⟨hx, hb, hml, hown, hts⟩ (k_X5_change l zq4) (va_cwS 1 hts gX5_strikesLeaving_X5_change rfl rfl rfl (by decide +kernel) ⟨Nat.le_of_ble_eq_true rfl, Nat.le_of_ble_eq_true rfl⟩) (pPreS) rfl rfl hl.1 rfl (lv_room (Nat.le_of_ble_eq_true rfl)) dX5_strikesLeaving_15 ⟨Nat.le_of_ble_eq_true rfl, Nat.le_of_ble_eq_true rfl⟩) hS (fun rq15 H locs hp15 hS => ?_)
        refine lv_iload_n hx hb dX5_strikesLeaving_18 rfl (lv_at hl 1 rfl) ?_
        refine p_i (va_runS (As := [.int rq15, .int pq1]) (rest := []) ⟨hx, hb, hml, hown, hts⟩ (k_X5_rest l rq15 pq1) (va_cwS 2 hts gX5_strikesLeaving_X5_rest rfl rfl rfl (by decide +kernel) ⟨Nat.le_of_ble_eq_true rfl, Nat.le_of_ble_eq_true rfl⟩) (pPreS) rfl rfl hl.1 rfl (lv_room (Nat.le_of_ble_eq_true rfl)) dX5_strikesLeaving_19 ⟨Nat.le_of_ble_eq_true rfl, Nat.le_of_ble_eq_true rfl⟩) hS (fun rq19 H locs hp19 hS => ?_)
        refine lv_iload_n hx hb dX5_strikesLeaving_22 rfl (lv_at hl 0 rfl) ?_
        refine lv_icmp_ne (tgt := 29) hx hb dX5_strikesLeaving_23 (by decide) (fun cq23 => ?_) (fun cq23 => ?_)
        · skip
          obtain ⟨vq29, eq29⟩ : ∃ y : Int32, y = zq4 + 1 := ⟨_, rfl⟩
          refine lv_iinc (v := vq29) (lv' := [(4, .int vq29), (0, .int pq0), (1, .int pq1), (2, .int pq2), (3, .int zq3)]) hx hb dX5_strikesLeaving_29 hl (k := 4) rfl (by rw [eq29]; rfl) (by decide) rfl (fun ls hl => ?_)
          refine lv_goto (tgt := 5) hx hb dX5_strikesLeaving_32 (by decide) ?_
          exact ih5 _ _ zq3 vq29 hS (by first | exact slI_0 | exact slI_step i5_0 eq9 cq10 hp15 hp19 (Or.inl ⟨cq23, eq26⟩) eq29 | exact slI_step i5_0 eq9 cq10 hp15 hp19 (Or.inr ⟨cq23, rfl⟩) eq29) (iq_up hm5 cq10 eq29) _ (lv_sub hl [1, 2, 3, 4, 0] rfl)
        · skip
          obtain ⟨vq26, eq26⟩ : ∃ y : Int32, y = zq3 + 1 := ⟨_, rfl⟩
          refine lv_iinc (v := vq26) (lv' := [(3, .int vq26), (0, .int pq0), (1, .int pq1), (2, .int pq2), (4, .int zq4)]) hx hb dX5_strikesLeaving_26 hl (k := 3) rfl (by rw [eq26]; rfl) (by decide) rfl (fun ls hl => ?_)
          obtain ⟨vq29, eq29⟩ : ∃ y : Int32, y = zq4 + 1 := ⟨_, rfl⟩
          refine lv_iinc (v := vq29) (lv' := [(4, .int vq29), (3, .int vq26), (0, .int pq0), (1, .int pq1), (2, .int pq2)]) hx hb dX5_strikesLeaving_29 hl (k := 4) rfl (by rw [eq29]; rfl) (by decide) rfl (fun ls hl => ?_)
          refine lv_goto (tgt := 5) hx hb dX5_strikesLeaving_32 (by decide) ?_
          exact ih5 _ _ vq26 vq29 hS (by first | exact slI_0 | exact slI_step i5_0 eq9 cq10 hp15 hp19 (Or.inl ⟨cq23, eq26⟩) eq29 | exact slI_step i5_0 eq9 cq10 hp15 hp19 (Or.inr ⟨cq23, rfl⟩) eq29) (iq_up hm5 cq10 eq29) _ (lv_sub hl [2, 3, 4, 1, 0] rfl)
  refine lv_iconst (v := 0) hx hb dX5_strikesLeaving_0 (by decide) ?_
  refine lv_istore_n (lv' := [(3, .int 0), (0, .int pq0), (1, .int pq1), (2, .int pq2)]) hx hb dX5_strikesLeaving_1 rfl hl (by decide) rfl (fun ls hl => ?_)
  refine lv_iconst (v := 0) hx hb dX5_strikesLeaving_2 (by decide) ?_
  refine lv_istore (lv' := [(4, .int 0), (3, .int 0), (0, .int pq0), (1, .int pq1), (2, .int pq2)]) hx hb dX5_strikesLeaving_3 hl (by decide) rfl (fun ls hl => ?_)
  exact hJ5 ((2147483647 - (0 : Int32).toInt).toNat + 1) _ _ 0 0 hS (by first | exact slI_0 | exact slI_step i5_0 eq9 cq10 hp15 hp19 (Or.inl ⟨cq23, eq26⟩) eq29 | exact slI_step i5_0 eq9 cq10 hp15 hp19 (Or.inr ⟨cq23, rfl⟩) eq29) (Nat.lt_succ_self _) _ (lv_sub hl [2, 3, 4, 1, 0] rfl)
abbrev rmX5_firstLeaving : Room := { frames := 2, cells := 0, slots := 0, locals := 43 }
set_option maxHeartbeats 4000000 in
set_option maxRecDepth 100000 in
theorem k_X5_firstLeaving (l : Launch) (pq0 : Int32) (pq1 : Int32) (pq2 : Int32)  : Pi_ l yX5_firstLeaving wsX5_firstLeaving rmX5_firstLeaving [.int pq0, .int pq1, .int pq2] (fun _ => True) := by
  refine Met.ofW (cc := cX5_firstLeaving) (maxL := 4) (ret := (some .int)) (by decide) rfl ?_
  intro p e s m args below meth c s₁ B hml hv
  obtain ⟨rfl, -⟩ := hv
  have hx := B.exec
  have hb := B.bytes
  have hr := B.returns
  have hts := atoms_spec (ws := wsX5_firstLeaving) B.pre
  have hown : s.vm.findClass RX5 = some m.cls := findClass_of_methodNamed B.named
  have hlocks := B.notSynchronized
  have hS : va_S (fun _ => False) s.heap s.heap [] := va_S.rf
  have hl := lv_entry ([.int pq0, .int pq1, .int pq2]) (n := 4) (Nat.le_of_ble_eq_true rfl)
  rw [lg_entry_eq]
  generalize (lg_sl ([.int pq0, .int pq1, .int pq2]) ++ List.replicate (4 - (lg_sl ([.int pq0, .int pq1, .int pq2])).length) Slot.unset).toArray = ls at hl ⊢
  have hl : lv_has ls 4 [(0, .int pq0), (1, .int pq1), (2, .int pq2)] := hl
  have hJ2 : ∀ (n2 : Nat) (H : Heap) (locs : List Loc) (zq3 : Int32), (va_S (fun _ => False) s.heap H locs) → ((2147483647 - zq3.toInt).toNat < n2) → ∀ (ls : Array Slot), lv_has ls 4 [(0, .int pq0), (1, .int pq1), (2, .int pq2), (3, .int zq3)] → W p l e rmX5_firstLeaving s m [.int pq0, .int pq1, .int pq2].toArray below meth c H locs 0 0 (MQ below (va_Qi (fun (r : Int32) (_ : Unit) => (fun _ => True) r) (fun _ _ => True) (fun _ => False)) [.int pq0, .int pq1, .int pq2].toArray s 0 0 (fun _ => False)) (F0 m 2 ls []) := by
    intro n2
    induction n2 with
    | zero =>
      intro H locs zq3 hS hm2 ls hl
      exact absurd hm2 (Nat.not_lt_zero _)
    | succ n2 ih2 =>
      intro H locs zq3 hS hm2 ls hl
      refine lv_iload_n hx hb dX5_firstLeaving_2 rfl (lv_at hl 3 rfl) ?_
      refine lv_iconst (v := 2) hx hb dX5_firstLeaving_3 (by decide) ?_
      refine lv_iload_n hx hb dX5_firstLeaving_4 rfl (lv_at hl 2 rfl) ?_
      refine lv_imul hx hb dX5_firstLeaving_5 ?_
      refine lv_topi (fun vq5 eq5 => ?_)
      refine lv_icmp_ge (tgt := 29) hx hb dX5_firstLeaving_6 (by decide) (fun cq6 => ?_) (fun cq6 => ?_)
      · skip
        refine lv_ldc (v := (-1000000)) hx hb hown (hts (.constant RX5 134 (-1000000)) (by decide +kernel)) dX5_firstLeaving_29 ?_
        exact W.iret (v := (-1000000)) hx hb hr (fun t ht hW => ⟨⟨(-1000000), (), rfl, trivial, trivial⟩, hS.F ht⟩) hS.2.2 dX5_firstLeaving_31
      · skip
        refine lv_iload_n hx hb dX5_firstLeaving_9 rfl (lv_at hl 3 rfl) ?_
        refine p_i (va_runS (As := [.int zq3]) (rest := []) ⟨hx, hb, hml, hown, hts⟩ (k_X5_change l zq3) (va_cwS 1 hts gX5_firstLeaving_X5_change rfl rfl rfl (by decide +kernel) ⟨Nat.le_of_ble_eq_true rfl, Nat.le_of_ble_eq_true rfl⟩) (pPreS) rfl rfl hl.1 rfl (lv_room (Nat.le_of_ble_eq_true rfl)) dX5_firstLeaving_10 ⟨Nat.le_of_ble_eq_true rfl, Nat.le_of_ble_eq_true rfl⟩) hS (fun rq10 H locs hp10 hS => ?_)
        refine lv_iload_n hx hb dX5_firstLeaving_13 rfl (lv_at hl 1 rfl) ?_
        refine p_i (va_runS (As := [.int rq10, .int pq1]) (rest := []) ⟨hx, hb, hml, hown, hts⟩ (k_X5_rest l rq10 pq1) (va_cwS 2 hts gX5_firstLeaving_X5_rest rfl rfl rfl (by decide +kernel) ⟨Nat.le_of_ble_eq_true rfl, Nat.le_of_ble_eq_true rfl⟩) (pPreS) rfl rfl hl.1 rfl (lv_room (Nat.le_of_ble_eq_true rfl)) dX5_firstLeaving_14 ⟨Nat.le_of_ble_eq_true rfl, Nat.le_of_ble_eq_true rfl⟩) hS (fun rq14 H locs hp14 hS => ?_)
        refine lv_iload_n hx hb dX5_firstLeaving_17 rfl (lv_at hl 0 rfl) ?_
        refine lv_icmp_ne (tgt := 23) hx hb dX5_firstLeaving_18 (by decide) (fun cq18 => ?_) (fun cq18 => ?_)
        · skip
          obtain ⟨vq23, eq23⟩ : ∃ y : Int32, y = zq3 + 1 := ⟨_, rfl⟩
          refine lv_iinc (v := vq23) (lv' := [(3, .int vq23), (0, .int pq0), (1, .int pq1), (2, .int pq2)]) hx hb dX5_firstLeaving_23 hl (k := 3) rfl (by rw [eq23]; rfl) (by decide) rfl (fun ls hl => ?_)
          refine lv_goto (tgt := 2) hx hb dX5_firstLeaving_26 (by decide) ?_
          exact ih2 _ _ vq23 hS (iq_up hm2 cq6 eq23) _ (lv_sub hl [1, 2, 3, 0] rfl)
        · skip
          refine lv_iload_n hx hb dX5_firstLeaving_21 rfl (lv_at hl 3 rfl) ?_
          exact W.iret (v := zq3) hx hb hr (fun t ht hW => ⟨⟨zq3, (), rfl, trivial, trivial⟩, hS.F ht⟩) hS.2.2 dX5_firstLeaving_22
  refine lv_iconst (v := 0) hx hb dX5_firstLeaving_0 (by decide) ?_
  refine lv_istore_n (lv' := [(3, .int 0), (0, .int pq0), (1, .int pq1), (2, .int pq2)]) hx hb dX5_firstLeaving_1 rfl hl (by decide) rfl (fun ls hl => ?_)
  exact hJ2 ((2147483647 - (0 : Int32).toInt).toNat + 1) _ _ 0 hS (Nat.lt_succ_self _) _ (lv_sub hl [1, 2, 3, 0] rfl)
abbrev rmX5_residueDone : Room := { frames := 0, cells := 0, slots := 0, locals := 0 }
set_option maxHeartbeats 4000000 in
set_option maxRecDepth 100000 in
theorem k_X5_residueDone (l : Launch) (pq0 : Int32) (pq1 : Int32) (pq2 : Int32)  : Pi_ l yX5_residueDone wsX5_residueDone rmX5_residueDone [.int pq0, .int pq1, .int pq2] (fun _ => True) := by
  refine Met.ofW (cc := cX5_residueDone) (maxL := 3) (ret := (some .int)) (by decide) rfl ?_
  intro p e s m args below meth c s₁ B hml hv
  obtain ⟨rfl, -⟩ := hv
  have hx := B.exec
  have hb := B.bytes
  have hr := B.returns
  have hts := atoms_spec (ws := wsX5_residueDone) B.pre
  have hown : s.vm.findClass RX5 = some m.cls := findClass_of_methodNamed B.named
  have hlocks := B.notSynchronized
  have hS : va_S (fun _ => False) s.heap s.heap [] := va_S.rf
  have hl := lv_entry ([.int pq0, .int pq1, .int pq2]) (n := 3) (Nat.le_of_ble_eq_true rfl)
  rw [lg_entry_eq]
  generalize (lg_sl ([.int pq0, .int pq1, .int pq2]) ++ List.replicate (3 - (lg_sl ([.int pq0, .int pq1, .int pq2])).length) Slot.unset).toArray = ls at hl ⊢
  have hl : lv_has ls 3 [(0, .int pq0), (1, .int pq1), (2, .int pq2)] := hl
  refine lv_iload_n hx hb dX5_residueDone_0 rfl (lv_at hl 0 rfl) ?_
  rcases (show (pq0.toInt < 0 ∨ 4 < pq0.toInt) ∨ pq0.toInt = 0 ∨ pq0.toInt = 1 ∨ pq0.toInt = 2 ∨ pq0.toInt = 3 ∨ pq0.toInt = 4 by omega) with tq1 | tq1 | tq1 | tq1 | tq1 | tq1
  · skip
    refine lv_tableOut (tgt := 55) hx hb dX5_residueDone_1 tq1 (by decide) ?_
    refine lv_bipush (v := 8) hx hb dX5_residueDone_55 (by decide) ?_
    refine lv_iload_n hx hb dX5_residueDone_57 rfl (lv_at hl 1 rfl) ?_
    refine lv_imul hx hb dX5_residueDone_58 ?_
    refine lv_topi (fun vq58 eq58 => ?_)
    exact W.iret (v := vq58) hx hb hr (fun t ht hW => ⟨⟨vq58, (), rfl, trivial, trivial⟩, hS.F ht⟩) hS.2.2 dX5_residueDone_59
  · skip
    refine lv_tableIn (off := 35) (tgt := 36) hx hb dX5_residueDone_1 (by omega) (by omega) (by rw [tq1]; rfl) (by decide) ?_
    refine lv_iload_n hx hb dX5_residueDone_36 rfl (lv_at hl 1 rfl) ?_
    refine lv_iload_n hx hb dX5_residueDone_37 rfl (lv_at hl 2 rfl) ?_
    refine lv_iadd hx hb dX5_residueDone_38 ?_
    refine lv_topi (fun vq38 eq38 => ?_)
    exact W.iret (v := vq38) hx hb hr (fun t ht hW => ⟨⟨vq38, (), rfl, trivial, trivial⟩, hS.F ht⟩) hS.2.2 dX5_residueDone_39
  · skip
    refine lv_tableIn (off := 39) (tgt := 40) hx hb dX5_residueDone_1 (by omega) (by omega) (by rw [tq1]; rfl) (by decide) ?_
    refine lv_iload_n hx hb dX5_residueDone_40 rfl (lv_at hl 1 rfl) ?_
    refine lv_iload_n hx hb dX5_residueDone_41 rfl (lv_at hl 2 rfl) ?_
    refine lv_isub hx hb dX5_residueDone_42 ?_
    refine lv_topi (fun vq42 eq42 => ?_)
    exact W.iret (v := vq42) hx hb hr (fun t ht hW => ⟨⟨vq42, (), rfl, trivial, trivial⟩, hS.F ht⟩) hS.2.2 dX5_residueDone_43
  · skip
    refine lv_tableIn (off := 43) (tgt := 44) hx hb dX5_residueDone_1 (by omega) (by omega) (by rw [tq1]; rfl) (by decide) ?_
    refine lv_iload_n hx hb dX5_residueDone_44 rfl (lv_at hl 1 rfl) ?_
    refine lv_iload_n hx hb dX5_residueDone_45 rfl (lv_at hl 2 rfl) ?_
    refine lv_imul hx hb dX5_residueDone_46 ?_
    refine lv_topi (fun vq46 eq46 => ?_)
    exact W.iret (v := vq46) hx hb hr (fun t ht hW => ⟨⟨vq46, (), rfl, trivial, trivial⟩, hS.F ht⟩) hS.2.2 dX5_residueDone_47
  · skip
    refine lv_tableIn (off := 47) (tgt := 48) hx hb dX5_residueDone_1 (by omega) (by omega) (by rw [tq1]; rfl) (by decide) ?_
    refine lv_iload_n hx hb dX5_residueDone_48 rfl (lv_at hl 1 rfl) ?_
    refine lv_iload_n hx hb dX5_residueDone_49 rfl (lv_at hl 1 rfl) ?_
    refine lv_iadd hx hb dX5_residueDone_50 ?_
    refine lv_topi (fun vq50 eq50 => ?_)
    exact W.iret (v := vq50) hx hb hr (fun t ht hW => ⟨⟨vq50, (), rfl, trivial, trivial⟩, hS.F ht⟩) hS.2.2 dX5_residueDone_51
  · skip
    refine lv_tableIn (off := 51) (tgt := 52) hx hb dX5_residueDone_1 (by omega) (by omega) (by rw [tq1]; rfl) (by decide) ?_
    refine lv_iload_n hx hb dX5_residueDone_52 rfl (lv_at hl 1 rfl) ?_
    refine lv_ineg hx hb dX5_residueDone_53 ?_
    refine lv_topi (fun vq53 eq53 => ?_)
    exact W.iret (v := vq53) hx hb hr (fun t ht hW => ⟨⟨vq53, (), rfl, trivial, trivial⟩, hS.F ht⟩) hS.2.2 dX5_residueDone_54
abbrev rmJ6_bitCount_0f7a4 : Room := { frames := 0, cells := 0, slots := 0, locals := 0 }
set_option maxHeartbeats 4000000 in
set_option maxRecDepth 100000 in
theorem k_J6_bitCount_0f7a4 (l : Launch) (pq0 : Int32)  : Pi_ l yJ6_bitCount_0f7a4 wsJ6_bitCount_0f7a4 rmJ6_bitCount_0f7a4 [.int pq0] (fun r : Int32 => ∀ n : Nat, n < 16777216 → pq0 = nI n → r.toInt = (popc n : Int)) := by
  refine va_MetF (cc := cJ6_bitCount_0f7a4) (maxL := 1) (ret := (some .int)) (by decide +kernel) rfl ?_
  intro p e s m args below meth c s₁ B hml hv
  obtain ⟨rfl, -⟩ := hv
  have hx := B.exec
  have hb := B.bytes
  have hr := B.returns
  have hts := atoms_spec (ws := wsJ6_bitCount_0f7a4) B.pre
  have hown : s.vm.findClass RJ6 = some m.cls := findClass_of_methodNamed B.named
  have hlocks := B.notSynchronized
  have hS : va_S (fun _ => False) s.heap s.heap [] := va_S.rf
  have hl := lv_entry ([.int pq0]) (n := 1) (Nat.le_of_ble_eq_true rfl)
  rw [lg_entry_eq]
  generalize (lg_sl ([.int pq0]) ++ List.replicate (1 - (lg_sl ([.int pq0])).length) Slot.unset).toArray = ls at hl ⊢
  have hl : lv_has ls 1 [(0, .int pq0)] := hl
  refine lv_iload_n hx hb dJ6_bitCount_0f7a4_0 rfl (lv_at hl 0 rfl) ?_
  refine lv_iload_n hx hb dJ6_bitCount_0f7a4_1 rfl (lv_at hl 0 rfl) ?_
  refine lv_iconst (v := 1) hx hb dJ6_bitCount_0f7a4_2 (by decide) ?_
  refine lv_iushr (v := ((pq0 : Int32).toUInt32 >>> ((1 : Int32).toUInt32 &&& Int32.toUInt32 31)).toInt32) hx hb dJ6_bitCount_0f7a4_3 rfl ?_
  refine lv_topi (fun vq3 eq3 => ?_)
  refine lv_ldcw (v := 1431655765) hx hb hown (hts (.constant RJ6 265 1431655765) (by decide +kernel)) dJ6_bitCount_0f7a4_4 ?_
  refine lv_iand hx hb dJ6_bitCount_0f7a4_7 ?_
  refine lv_topi (fun vq7 eq7 => ?_)
  refine lv_isub hx hb dJ6_bitCount_0f7a4_8 ?_
  refine lv_topi (fun vq8 eq8 => ?_)
  refine lv_istore_n (lv' := [(0, .int vq8)]) hx hb dJ6_bitCount_0f7a4_9 rfl hl (by decide) rfl (fun ls hl => ?_)
  refine lv_iload_n hx hb dJ6_bitCount_0f7a4_10 rfl (lv_at hl 0 rfl) ?_
  refine lv_ldcw (v := 858993459) hx hb hown (hts (.constant RJ6 266 858993459) (by decide +kernel)) dJ6_bitCount_0f7a4_11 ?_
  refine lv_iand hx hb dJ6_bitCount_0f7a4_14 ?_
  refine lv_topi (fun vq14 eq14 => ?_)
  refine lv_iload_n hx hb dJ6_bitCount_0f7a4_15 rfl (lv_at hl 0 rfl) ?_
  refine lv_iconst (v := 2) hx hb dJ6_bitCount_0f7a4_16 (by decide) ?_
  refine lv_iushr (v := ((vq8 : Int32).toUInt32 >>> ((2 : Int32).toUInt32 &&& Int32.toUInt32 31)).toInt32) hx hb dJ6_bitCount_0f7a4_17 rfl ?_
  refine lv_topi (fun vq17 eq17 => ?_)
  refine lv_ldcw (v := 858993459) hx hb hown (hts (.constant RJ6 266 858993459) (by decide +kernel)) dJ6_bitCount_0f7a4_18 ?_
  refine lv_iand hx hb dJ6_bitCount_0f7a4_21 ?_
  refine lv_topi (fun vq21 eq21 => ?_)
  refine lv_iadd hx hb dJ6_bitCount_0f7a4_22 ?_
  refine lv_topi (fun vq22 eq22 => ?_)
  refine lv_istore_n (lv' := [(0, .int vq22)]) hx hb dJ6_bitCount_0f7a4_23 rfl hl (by decide) rfl (fun ls hl => ?_)
  refine lv_iload_n hx hb dJ6_bitCount_0f7a4_24 rfl (lv_at hl 0 rfl) ?_
  refine lv_iload_n hx hb dJ6_bitCount_0f7a4_25 rfl (lv_at hl 0 rfl) ?_
  refine lv_iconst (v := 4) hx hb dJ6_bitCount_0f7a4_26 (by decide) ?_
  refine lv_iushr (v := ((vq22 : Int32).toUInt32 >>> ((4 : Int32).toUInt32 &&& Int32.toUInt32 31)).toInt32) hx hb dJ6_bitCount_0f7a4_27 rfl ?_
  refine lv_topi (fun vq27 eq27 => ?_)
  refine lv_iadd hx hb dJ6_bitCount_0f7a4_28 ?_
  refine lv_topi (fun vq28 eq28 => ?_)
  refine lv_ldcw (v := 252645135) hx hb hown (hts (.constant RJ6 267 252645135) (by decide +kernel)) dJ6_bitCount_0f7a4_29 ?_
  refine lv_iand hx hb dJ6_bitCount_0f7a4_32 ?_
  refine lv_topi (fun vq32 eq32 => ?_)
  refine lv_istore_n (lv' := [(0, .int vq32)]) hx hb dJ6_bitCount_0f7a4_33 rfl hl (by decide) rfl (fun ls hl => ?_)
  refine lv_iload_n hx hb dJ6_bitCount_0f7a4_34 rfl (lv_at hl 0 rfl) ?_
  refine lv_iload_n hx hb dJ6_bitCount_0f7a4_35 rfl (lv_at hl 0 rfl) ?_
  refine lv_bipush (v := 8) hx hb dJ6_bitCount_0f7a4_36 (by decide) ?_
  refine lv_iushr (v := ((vq32 : Int32).toUInt32 >>> ((8 : Int32).toUInt32 &&& Int32.toUInt32 31)).toInt32) hx hb dJ6_bitCount_0f7a4_38 rfl ?_
  refine lv_topi (fun vq38 eq38 => ?_)
  refine lv_iadd hx hb dJ6_bitCount_0f7a4_39 ?_
  refine lv_topi (fun vq39 eq39 => ?_)
  refine lv_istore_n (lv' := [(0, .int vq39)]) hx hb dJ6_bitCount_0f7a4_40 rfl hl (by decide) rfl (fun ls hl => ?_)
  refine lv_iload_n hx hb dJ6_bitCount_0f7a4_41 rfl (lv_at hl 0 rfl) ?_
  refine lv_iload_n hx hb dJ6_bitCount_0f7a4_42 rfl (lv_at hl 0 rfl) ?_
  refine lv_bipush (v := 16) hx hb dJ6_bitCount_0f7a4_43 (by decide) ?_
  refine lv_iushr (v := ((vq39 : Int32).toUInt32 >>> ((16 : Int32).toUInt32 &&& Int32.toUInt32 31)).toInt32) hx hb dJ6_bitCount_0f7a4_45 rfl ?_
  refine lv_topi (fun vq45 eq45 => ?_)
  refine lv_iadd hx hb dJ6_bitCount_0f7a4_46 ?_
  refine lv_topi (fun vq46 eq46 => ?_)
  refine lv_istore_n (lv' := [(0, .int vq46)]) hx hb dJ6_bitCount_0f7a4_47 rfl hl (by decide) rfl (fun ls hl => ?_)
  refine lv_iload_n hx hb dJ6_bitCount_0f7a4_48 rfl (lv_at hl 0 rfl) ?_
  refine lv_bipush (v := 63) hx hb dJ6_bitCount_0f7a4_49 (by decide) ?_
  refine lv_iand hx hb dJ6_bitCount_0f7a4_51 ?_
  refine lv_topi (fun vq51 eq51 => ?_)
  exact W.iret (v := vq51) hx hb hr (fun t ht hW => ⟨⟨vq51, (), rfl, fun n hn hx9 => bc_run hn hx9 eq3 eq7 eq8 eq14 eq17 eq21 eq22 eq27 eq28 eq32 eq38 eq39 eq45 eq46 eq51, trivial⟩, hS.F ht⟩) hS.2.2 dJ6_bitCount_0f7a4_52
abbrev rmX5_digitsNotZero : Room := { frames := 1, cells := 0, slots := 0, locals := 20 }
set_option maxHeartbeats 4000000 in
set_option maxRecDepth 100000 in
theorem k_X5_digitsNotZero (l : Launch) (pq0 : Int32)  : Pi_ l yX5_digitsNotZero wsX5_digitsNotZero rmX5_digitsNotZero [.int pq0] (fun r : Int32 => 0 ≤ pq0.toInt → pq0.toInt ≤ 99999 → r.toInt = (Pn pq0.toInt.toNat : Int)) := by
  refine Met.ofW (cc := cX5_digitsNotZero) (maxL := 1) (ret := (some .int)) (by decide) rfl ?_
  intro p e s m args below meth c s₁ B hml hv
  obtain ⟨rfl, -⟩ := hv
  have hx := B.exec
  have hb := B.bytes
  have hr := B.returns
  have hts := atoms_spec (ws := wsX5_digitsNotZero) B.pre
  have hown : s.vm.findClass RX5 = some m.cls := findClass_of_methodNamed B.named
  have hlocks := B.notSynchronized
  have hS : va_S (fun _ => False) s.heap s.heap [] := va_S.rf
  have hl := lv_entry ([.int pq0]) (n := 1) (Nat.le_of_ble_eq_true rfl)
  rw [lg_entry_eq]
  generalize (lg_sl ([.int pq0]) ++ List.replicate (1 - (lg_sl ([.int pq0])).length) Slot.unset).toArray = ls at hl ⊢
  have hl : lv_has ls 1 [(0, .int pq0)] := hl
  refine lv_iload_n hx hb dX5_digitsNotZero_0 rfl (lv_at hl 0 rfl) ?_
  refine lv_iconst (v := 3) hx hb dX5_digitsNotZero_1 (by decide) ?_
  refine lv_iload_n hx hb dX5_digitsNotZero_2 rfl (lv_at hl 0 rfl) ?_
  refine lv_imul hx hb dX5_digitsNotZero_3 ?_
  refine lv_topi (fun vq3 eq3 => ?_)
  refine lv_ixor hx hb dX5_digitsNotZero_4 ?_
  refine lv_topi (fun vq4 eq4 => ?_)
  refine p_i (va_runS (As := [.int vq4]) (rest := []) ⟨hx, hb, hml, hown, hts⟩ (k_J6_bitCount_0f7a4 l vq4) (va_cwS 1 hts gX5_digitsNotZero_J6_bitCount_0f7a4 rfl rfl rfl (by decide +kernel) ⟨Nat.le_of_ble_eq_true rfl, Nat.le_of_ble_eq_true rfl⟩) (pPreS) rfl rfl hl.1 rfl (lv_room (Nat.le_of_ble_eq_true rfl)) dX5_digitsNotZero_5 ⟨Nat.le_of_ble_eq_true rfl, Nat.le_of_ble_eq_true rfl⟩) hS (fun rq5 H locs hp5 hS => ?_)
  exact W.iret (v := rq5) hx hb hr (fun t ht hW => ⟨⟨rq5, (), rfl, fun h0 h1 => dq_run h0 h1 eq3 eq4 hp5, trivial⟩, hS.F ht⟩) hS.2.2 dX5_digitsNotZero_8
abbrev rmX5_lightestMultiple : Room := { frames := 2, cells := 0, slots := 0, locals := 40 }
set_option maxHeartbeats 4000000 in
set_option maxRecDepth 100000 in
theorem k_X5_lightestMultiple (l : Launch) (pq0 : Int32) (pq1 : Int32) (pq2 : Int32) (ha1 : 3 ≤ pq0.toInt) (ha2 : pq0.toInt ≤ 199) (hw1 : 4 ≤ pq1.toInt) (hw2 : pq1.toInt ≤ 16) (ht0 : 0 ≤ pq2.toInt) : Pi_ l yX5_lightestMultiple wsX5_lightestMultiple rmX5_lightestMultiple [.int pq0, .int pq1, .int pq2] (fun r : Int32 => lmA pq0.toInt.toNat (2 ^ pq1.toInt.toNat) pq2.toInt.toNat r) := by
  refine Met.ofW (cc := cX5_lightestMultiple) (maxL := 7) (ret := (some .int)) (by decide) rfl ?_
  intro p e s m args below meth c s₁ B hml hv
  obtain ⟨rfl, -⟩ := hv
  have hx := B.exec
  have hb := B.bytes
  have hr := B.returns
  have hts := atoms_spec (ws := wsX5_lightestMultiple) B.pre
  have hown : s.vm.findClass RX5 = some m.cls := findClass_of_methodNamed B.named
  have hlocks := B.notSynchronized
  have hS : va_S (fun _ => False) s.heap s.heap [] := va_S.rf
  have hl := lv_entry ([.int pq0, .int pq1, .int pq2]) (n := 7) (Nat.le_of_ble_eq_true rfl)
  rw [lg_entry_eq]
  generalize (lg_sl ([.int pq0, .int pq1, .int pq2]) ++ List.replicate (7 - (lg_sl ([.int pq0, .int pq1, .int pq2])).length) Slot.unset).toArray = ls at hl ⊢
  have hl : lv_has ls 7 [(0, .int pq0), (1, .int pq1), (2, .int pq2)] := hl
  have hJ11 : ∀ (n11 : Nat) (H : Heap) (locs : List Loc) (zq3 : Int32) (zq4 : Int32) (zq5 : Int32), (va_S (fun _ => False) s.heap H locs) → (zq3.toInt = ((2 ^ pq1.toInt.toNat : Nat) : Int)) → (lmI pq0.toInt.toNat (2 ^ pq1.toInt.toNat) pq2.toInt.toNat zq5 zq4) → ((2147483647 - zq5.toInt).toNat < n11) → ∀ (ls : Array Slot), lv_has ls 7 [(0, .int pq0), (2, .int pq2), (3, .int zq3), (4, .int zq4), (5, .int zq5)] → W p l e rmX5_lightestMultiple s m [.int pq0, .int pq1, .int pq2].toArray below meth c H locs 0 0 (MQ below (va_Qi (fun (r : Int32) (_ : Unit) => (fun r : Int32 => lmA pq0.toInt.toNat (2 ^ pq1.toInt.toNat) pq2.toInt.toNat r) r) (fun _ _ => True) (fun _ => False)) [.int pq0, .int pq1, .int pq2].toArray s 0 0 (fun _ => False)) (F0 m 11 ls []) := by
    intro n11
    induction n11 with
    | zero =>
      intro H locs zq3 zq4 zq5 hS i11_0 i11_1 hm11 ls hl
      exact absurd hm11 (Nat.not_lt_zero _)
    | succ n11 ih11 =>
      intro H locs zq3 zq4 zq5 hS i11_0 i11_1 hm11 ls hl
      have hJ47 : ∀ (H : Heap) (locs : List Loc) (zq4 : Int32), (va_S (fun _ => False) s.heap H locs) → (¬ zq3 ≤ zq5) → (lmJ pq0.toInt.toNat (2 ^ pq1.toInt.toNat) zq5 zq4) → ∀ (ls : Array Slot), lv_has ls 7 [(0, .int pq0), (2, .int pq2), (3, .int zq3), (4, .int zq4), (5, .int zq5)] → W p l e rmX5_lightestMultiple s m [.int pq0, .int pq1, .int pq2].toArray below meth c H locs 0 0 (MQ below (va_Qi (fun (r : Int32) (_ : Unit) => (fun r : Int32 => lmA pq0.toInt.toNat (2 ^ pq1.toInt.toNat) pq2.toInt.toNat r) r) (fun _ _ => True) (fun _ => False)) [.int pq0, .int pq1, .int pq2].toArray s 0 0 (fun _ => False)) (F0 m 47 ls []) := by
        intro H locs zq4 hS i47_0 i47_1 ls hl
        refine lv_iload hx hb dX5_lightestMultiple_47 (lv_at hl 3 rfl) ?_
        refine lv_iload_n hx hb dX5_lightestMultiple_49 rfl (lv_at hl 1 rfl) ?_
        refine lv_icmp_gt (tgt := 56) hx hb dX5_lightestMultiple_50 (by decide) (fun cq50 => ?_) (fun cq50 => ?_)
        · skip
          refine lv_iload hx hb dX5_lightestMultiple_56 (lv_at hl 4 rfl) ?_
          refine lv_iconst (v := 2) hx hb dX5_lightestMultiple_58 (by decide) ?_
          refine lv_iload_n hx hb dX5_lightestMultiple_59 rfl (lv_at hl 0 rfl) ?_
          refine lv_imul hx hb dX5_lightestMultiple_60 ?_
          refine lv_topi (fun vq60 eq60 => ?_)
          refine lv_iadd hx hb dX5_lightestMultiple_61 ?_
          refine lv_topi (fun vq61 eq61 => ?_)
          refine lv_istore (lv' := [(5, .int vq61), (0, .int pq0), (2, .int pq2), (3, .int zq3), (4, .int zq4)]) hx hb dX5_lightestMultiple_62 hl (by decide) rfl (fun ls hl => ?_)
          refine lv_goto (tgt := 11) hx hb dX5_lightestMultiple_64 (by decide) ?_
          exact ih11 _ _ zq3 zq4 vq61 hS (by first | exact i11_0 | exact iq_endp hw1 hw2 eq2) (by first | exact lmI_0 (by omega) | exact lmI_next i47_1 cq50 ht0 (by omega) ha2 (by have h9 := pw_le hw2; rw [iq_le] at i47_0; omega) (by have h9 := lmI_pos i11_1 (by omega); omega) eq60 eq61) (by rw [iq_le] at i47_0; have h9 := pw_le hw2; have h8 := lmI_pos i11_1 (by omega); have h2 := iq_mul2 (by omega) (by omega) eq60; rw [eq61, iq_add (by omega) (by omega)]; omega) _ (lv_sub hl [1, 2, 3, 4, 0] rfl)
        · skip
          refine lv_iload hx hb dX5_lightestMultiple_53 (lv_at hl 3 rfl) ?_
          exact W.iret (v := zq4) hx hb hr (fun t ht hW => ⟨⟨zq4, (), rfl, lm_cut i47_1 ha1 cq50 ht0, trivial⟩, hS.F ht⟩) hS.2.2 dX5_lightestMultiple_55
      refine lv_iload hx hb dX5_lightestMultiple_11 (lv_at hl 4 rfl) ?_
      refine lv_if_le (tgt := 67) hx hb dX5_lightestMultiple_13 (by decide) (fun cq13 => ?_) (fun cq13 => ?_)
      · skip
        refine lv_iload hx hb dX5_lightestMultiple_67 (lv_at hl 3 rfl) ?_
        exact W.iret (v := zq4) hx hb hr (fun t ht hW => ⟨⟨zq4, (), rfl, by first | exact lm_end i11_1 (by rw [iq_le] at cq19; omega) | exact absurd cq13 (by rw [iq_le]; have h9 := lmI_pos i11_1 (by omega); show ¬ zq5.toInt ≤ 0; omega), trivial⟩, hS.F ht⟩) hS.2.2 dX5_lightestMultiple_69
      · skip
        refine lv_iload hx hb dX5_lightestMultiple_16 (lv_at hl 4 rfl) ?_
        refine lv_iload_n hx hb dX5_lightestMultiple_18 rfl (lv_at hl 2 rfl) ?_
        refine lv_icmp_ge (tgt := 67) hx hb dX5_lightestMultiple_19 (by decide) (fun cq19 => ?_) (fun cq19 => ?_)
        · skip
          refine lv_iload hx hb dX5_lightestMultiple_67 (lv_at hl 3 rfl) ?_
          exact W.iret (v := zq4) hx hb hr (fun t ht hW => ⟨⟨zq4, (), rfl, by first | exact lm_end i11_1 (by rw [iq_le] at cq19; omega) | exact absurd cq13 (by rw [iq_le]; have h9 := lmI_pos i11_1 (by omega); show ¬ zq5.toInt ≤ 0; omega), trivial⟩, hS.F ht⟩) hS.2.2 dX5_lightestMultiple_69
        · skip
          refine lv_iload hx hb dX5_lightestMultiple_22 (lv_at hl 4 rfl) ?_
          refine p_i (va_runS (As := [.int zq5]) (rest := []) ⟨hx, hb, hml, hown, hts⟩ (k_X5_digitsNotZero l zq5) (va_cwS 1 hts gX5_lightestMultiple_X5_digitsNotZero rfl rfl rfl (by decide +kernel) ⟨Nat.le_of_ble_eq_true rfl, Nat.le_of_ble_eq_true rfl⟩) (pPreS) rfl rfl hl.1 rfl (lv_room (Nat.le_of_ble_eq_true rfl)) dX5_lightestMultiple_24 ⟨Nat.le_of_ble_eq_true rfl, Nat.le_of_ble_eq_true rfl⟩) hS (fun rq24 H locs hp24 hS => ?_)
          refine lv_istore (lv' := [(6, .int rq24), (0, .int pq0), (2, .int pq2), (3, .int zq3), (4, .int zq4), (5, .int zq5)]) hx hb dX5_lightestMultiple_27 hl (by decide) rfl (fun ls hl => ?_)
          have hz5 := lmI_pos i11_1 (by omega)
          have hle := pw_le hw2
          have hlt : zq5.toInt < ((2 ^ pq1.toInt.toNat : Nat) : Int) := by rw [iq_le] at cq19; omega
          have hr24 : rq24.toInt = (Pn zq5.toInt.toNat : Int) := hp24 (by omega) (by omega)
          refine lv_iload hx hb dX5_lightestMultiple_29 (lv_at hl 4 rfl) ?_
          refine lv_ldc (v := (-1000000)) hx hb hown (hts (.constant RX5 134 (-1000000)) (by decide +kernel)) dX5_lightestMultiple_31 ?_
          refine lv_icmp_eq (tgt := 43) hx hb dX5_lightestMultiple_33 (by decide) (fun cq33 => ?_) (fun cq33 => ?_)
          · skip
            refine lv_iload hx hb dX5_lightestMultiple_43 (lv_at hl 0 rfl) ?_
            refine lv_istore (lv' := [(4, .int rq24), (6, .int rq24), (0, .int pq0), (2, .int pq2), (3, .int zq3), (5, .int zq5)]) hx hb dX5_lightestMultiple_45 hl (by decide) rfl (fun ls hl => ?_)
            exact hJ47 _ _ rq24 hS (cq19) (by first | exact lmJ_take i11_1 hlt hr24 (Or.inl cq33) | exact lmJ_take i11_1 hlt hr24 (Or.inr (by rw [iq_lt]; rw [iq_le] at cq40; omega)) | exact lmJ_keep i11_1 hlt hr24 cq33 (by rw [iq_lt]; rw [iq_le] at cq40; omega)) _ (lv_sub hl [2, 3, 4, 0, 5] rfl)
          · skip
            refine lv_iload hx hb dX5_lightestMultiple_36 (lv_at hl 0 rfl) ?_
            refine lv_iload hx hb dX5_lightestMultiple_38 (lv_at hl 4 rfl) ?_
            refine lv_icmp_ge (tgt := 47) hx hb dX5_lightestMultiple_40 (by decide) (fun cq40 => ?_) (fun cq40 => ?_)
            · skip
              exact hJ47 _ _ zq4 hS (cq19) (by first | exact lmJ_take i11_1 hlt hr24 (Or.inl cq33) | exact lmJ_take i11_1 hlt hr24 (Or.inr (by rw [iq_lt]; rw [iq_le] at cq40; omega)) | exact lmJ_keep i11_1 hlt hr24 cq33 (by rw [iq_lt]; rw [iq_le] at cq40; omega)) _ (lv_sub hl [1, 2, 3, 4, 5] rfl)
            · skip
              refine lv_iload hx hb dX5_lightestMultiple_43 (lv_at hl 0 rfl) ?_
              refine lv_istore (lv' := [(4, .int rq24), (6, .int rq24), (0, .int pq0), (2, .int pq2), (3, .int zq3), (5, .int zq5)]) hx hb dX5_lightestMultiple_45 hl (by decide) rfl (fun ls hl => ?_)
              exact hJ47 _ _ rq24 hS (cq19) (by first | exact lmJ_take i11_1 hlt hr24 (Or.inl cq33) | exact lmJ_take i11_1 hlt hr24 (Or.inr (by rw [iq_lt]; rw [iq_le] at cq40; omega)) | exact lmJ_keep i11_1 hlt hr24 cq33 (by rw [iq_lt]; rw [iq_le] at cq40; omega)) _ (lv_sub hl [2, 3, 4, 0, 5] rfl)
  refine lv_iconst (v := 1) hx hb dX5_lightestMultiple_0 (by decide) ?_
  refine lv_iload_n hx hb dX5_lightestMultiple_1 rfl (lv_at hl 1 rfl) ?_
  refine lv_ishl hx hb dX5_lightestMultiple_2 ?_
  refine lv_topi (fun vq2 eq2 => ?_)
  refine lv_istore_n (lv' := [(3, .int vq2), (0, .int pq0), (1, .int pq1), (2, .int pq2)]) hx hb dX5_lightestMultiple_3 rfl hl (by decide) rfl (fun ls hl => ?_)
  refine lv_ldc (v := (-1000000)) hx hb hown (hts (.constant RX5 134 (-1000000)) (by decide +kernel)) dX5_lightestMultiple_4 ?_
  refine lv_istore (lv' := [(4, .int (-1000000)), (3, .int vq2), (0, .int pq0), (1, .int pq1), (2, .int pq2)]) hx hb dX5_lightestMultiple_6 hl (by decide) rfl (fun ls hl => ?_)
  refine lv_iload_n hx hb dX5_lightestMultiple_8 rfl (lv_at hl 2 rfl) ?_
  refine lv_istore (lv' := [(5, .int pq0), (4, .int (-1000000)), (3, .int vq2), (0, .int pq0), (1, .int pq1), (2, .int pq2)]) hx hb dX5_lightestMultiple_9 hl (by decide) rfl (fun ls hl => ?_)
  exact hJ11 ((2147483647 - pq0.toInt).toNat + 1) _ _ vq2 ((-1000000)) pq0 hS (by first | exact i11_0 | exact iq_endp hw1 hw2 eq2) (by first | exact lmI_0 (by omega) | exact lmI_next i47_1 cq50 ht0 (by omega) ha2 (by have h9 := pw_le hw2; rw [iq_le] at i47_0; omega) (by have h9 := lmI_pos i11_1 (by omega); omega) eq60 eq61) (Nat.lt_succ_self _) _ (lv_sub hl [3, 5, 2, 1, 0] rfl)

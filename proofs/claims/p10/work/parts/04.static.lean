abbrev rmX5_isRegister : Room := { frames := 0, cells := 0, slots := 0, locals := 0 }
set_option maxHeartbeats 4000000 in
set_option maxRecDepth 100000 in
theorem k_X5_isRegister (l : Launch) (p0 : Int32)  : Pi_ l yX5_isRegister wsX5_isRegister rmX5_isRegister [.int p0] (fun r => r = 0 ∨ (r = 1 ∧ 0 ≤ p0.toInt ∧ p0.toInt < 4)) := by
  refine Met.ofW (cc := cX5_isRegister) (maxL := 1) (ret := (some .boolean)) (by decide) rfl ?_
  intro p e s m args below meth c s₁ B hml hv
  obtain ⟨rfl, -⟩ := hv
  have hx := B.exec
  have hb := B.bytes
  have hr := B.returns
  have hts := atoms_spec (ws := wsX5_isRegister) B.pre
  have hown : s.vm.findClass RX5 = some m.cls := findClass_of_methodNamed B.named
  have hlocks := B.notSynchronized
  have hS : va_S (fun _ => False) s.heap s.heap [] := va_S.rf
  have hl := lv_entry ([.int p0]) (n := 1) (Nat.le_of_ble_eq_true rfl)
  rw [lg_entry_eq]
  generalize (lg_sl ([.int p0]) ++ List.replicate (1 - (lg_sl ([.int p0])).length) Slot.unset).toArray = ls at hl ⊢
  have hl : lv_has ls 1 [(0, .int p0)] := hl
  refine lv_iload_n hx hb dX5_isRegister_0 rfl (lv_at hl 0 rfl) ?_
  refine lv_if_lt (tgt := 13) hx hb dX5_isRegister_1 (by decide) (fun c1 => ?_) (fun c1 => ?_)
  · skip
    refine lv_iconst (v := 0) hx hb dX5_isRegister_13 (by decide) ?_
    exact W.zret (v := 0) (ty := .boolean) hx hb hr (rfl) (fun t ht hW => ⟨⟨0, (), rfl, by first | exact Or.inl rfl | exact Or.inr ⟨rfl, by rw [iq_lt] at c1; exact Int.not_lt.mp c1, by rw [iq_le] at c6; exact Int.not_le.mp c6⟩, trivial⟩, hS.F ht⟩) hS.2.2 dX5_isRegister_14
  · skip
    refine lv_iload_n hx hb dX5_isRegister_4 rfl (lv_at hl 0 rfl) ?_
    refine lv_iconst (v := 4) hx hb dX5_isRegister_5 (by decide) ?_
    refine lv_icmp_ge (tgt := 13) hx hb dX5_isRegister_6 (by decide) (fun c6 => ?_) (fun c6 => ?_)
    · skip
      refine lv_iconst (v := 0) hx hb dX5_isRegister_13 (by decide) ?_
      exact W.zret (v := 0) (ty := .boolean) hx hb hr (rfl) (fun t ht hW => ⟨⟨0, (), rfl, by first | exact Or.inl rfl | exact Or.inr ⟨rfl, by rw [iq_lt] at c1; exact Int.not_lt.mp c1, by rw [iq_le] at c6; exact Int.not_le.mp c6⟩, trivial⟩, hS.F ht⟩) hS.2.2 dX5_isRegister_14
    · skip
      refine lv_iconst (v := 1) hx hb dX5_isRegister_9 (by decide) ?_
      refine lv_goto (tgt := 14) hx hb dX5_isRegister_10 (by decide) ?_
      exact W.zret (v := 1) (ty := .boolean) hx hb hr (rfl) (fun t ht hW => ⟨⟨1, (), rfl, by first | exact Or.inl rfl | exact Or.inr ⟨rfl, by rw [iq_lt] at c1; exact Int.not_lt.mp c1, by rw [iq_le] at c6; exact Int.not_le.mp c6⟩, trivial⟩, hS.F ht⟩) hS.2.2 dX5_isRegister_14
abbrev rmX5_isImage : Room := { frames := 0, cells := 0, slots := 0, locals := 0 }
set_option maxHeartbeats 4000000 in
set_option maxRecDepth 100000 in
theorem k_X5_isImage (l : Launch) (p0 : Int32)  : Pi_ l yX5_isImage wsX5_isImage rmX5_isImage [.int p0] (fun r => r = 0 ∨ (r = 1 ∧ 0 ≤ p0.toInt ∧ p0.toInt < 2)) := by
  refine Met.ofW (cc := cX5_isImage) (maxL := 1) (ret := (some .boolean)) (by decide) rfl ?_
  intro p e s m args below meth c s₁ B hml hv
  obtain ⟨rfl, -⟩ := hv
  have hx := B.exec
  have hb := B.bytes
  have hr := B.returns
  have hts := atoms_spec (ws := wsX5_isImage) B.pre
  have hown : s.vm.findClass RX5 = some m.cls := findClass_of_methodNamed B.named
  have hlocks := B.notSynchronized
  have hS : va_S (fun _ => False) s.heap s.heap [] := va_S.rf
  have hl := lv_entry ([.int p0]) (n := 1) (Nat.le_of_ble_eq_true rfl)
  rw [lg_entry_eq]
  generalize (lg_sl ([.int p0]) ++ List.replicate (1 - (lg_sl ([.int p0])).length) Slot.unset).toArray = ls at hl ⊢
  have hl : lv_has ls 1 [(0, .int p0)] := hl
  refine lv_iload_n hx hb dX5_isImage_0 rfl (lv_at hl 0 rfl) ?_
  refine lv_if_lt (tgt := 13) hx hb dX5_isImage_1 (by decide) (fun c1 => ?_) (fun c1 => ?_)
  · skip
    refine lv_iconst (v := 0) hx hb dX5_isImage_13 (by decide) ?_
    exact W.zret (v := 0) (ty := .boolean) hx hb hr (rfl) (fun t ht hW => ⟨⟨0, (), rfl, by first | exact Or.inl rfl | exact Or.inr ⟨rfl, by rw [iq_lt] at c1; exact Int.not_lt.mp c1, by rw [iq_le] at c6; exact Int.not_le.mp c6⟩, trivial⟩, hS.F ht⟩) hS.2.2 dX5_isImage_14
  · skip
    refine lv_iload_n hx hb dX5_isImage_4 rfl (lv_at hl 0 rfl) ?_
    refine lv_iconst (v := 2) hx hb dX5_isImage_5 (by decide) ?_
    refine lv_icmp_ge (tgt := 13) hx hb dX5_isImage_6 (by decide) (fun c6 => ?_) (fun c6 => ?_)
    · skip
      refine lv_iconst (v := 0) hx hb dX5_isImage_13 (by decide) ?_
      exact W.zret (v := 0) (ty := .boolean) hx hb hr (rfl) (fun t ht hW => ⟨⟨0, (), rfl, by first | exact Or.inl rfl | exact Or.inr ⟨rfl, by rw [iq_lt] at c1; exact Int.not_lt.mp c1, by rw [iq_le] at c6; exact Int.not_le.mp c6⟩, trivial⟩, hS.F ht⟩) hS.2.2 dX5_isImage_14
    · skip
      refine lv_iconst (v := 1) hx hb dX5_isImage_9 (by decide) ?_
      refine lv_goto (tgt := 14) hx hb dX5_isImage_10 (by decide) ?_
      exact W.zret (v := 1) (ty := .boolean) hx hb hr (rfl) (fun t ht hW => ⟨⟨1, (), rfl, by first | exact Or.inl rfl | exact Or.inr ⟨rfl, by rw [iq_lt] at c1; exact Int.not_lt.mp c1, by rw [iq_le] at c6; exact Int.not_le.mp c6⟩, trivial⟩, hS.F ht⟩) hS.2.2 dX5_isImage_14
abbrev rmX5_isWidth : Room := { frames := 0, cells := 0, slots := 0, locals := 0 }
set_option maxHeartbeats 4000000 in
set_option maxRecDepth 100000 in
theorem k_X5_isWidth (l : Launch) (p0 : Int32)  : Pi_ l yX5_isWidth wsX5_isWidth rmX5_isWidth [.int p0] (fun r => r = 0 ∨ (r = 1 ∧ 4 ≤ p0.toInt ∧ p0.toInt ≤ 16)) := by
  refine Met.ofW (cc := cX5_isWidth) (maxL := 1) (ret := (some .boolean)) (by decide) rfl ?_
  intro p e s m args below meth c s₁ B hml hv
  obtain ⟨rfl, -⟩ := hv
  have hx := B.exec
  have hb := B.bytes
  have hr := B.returns
  have hts := atoms_spec (ws := wsX5_isWidth) B.pre
  have hown : s.vm.findClass RX5 = some m.cls := findClass_of_methodNamed B.named
  have hlocks := B.notSynchronized
  have hS : va_S (fun _ => False) s.heap s.heap [] := va_S.rf
  have hl := lv_entry ([.int p0]) (n := 1) (Nat.le_of_ble_eq_true rfl)
  rw [lg_entry_eq]
  generalize (lg_sl ([.int p0]) ++ List.replicate (1 - (lg_sl ([.int p0])).length) Slot.unset).toArray = ls at hl ⊢
  have hl : lv_has ls 1 [(0, .int p0)] := hl
  refine lv_iload_n hx hb dX5_isWidth_0 rfl (lv_at hl 0 rfl) ?_
  refine lv_iconst (v := 4) hx hb dX5_isWidth_1 (by decide) ?_
  refine lv_icmp_lt (tgt := 15) hx hb dX5_isWidth_2 (by decide) (fun c2 => ?_) (fun c2 => ?_)
  · skip
    refine lv_iconst (v := 0) hx hb dX5_isWidth_15 (by decide) ?_
    exact W.zret (v := 0) (ty := .boolean) hx hb hr (rfl) (fun t ht hW => ⟨⟨0, (), rfl, by first | exact Or.inl rfl | exact Or.inr ⟨rfl, by rw [iq_lt] at c2; exact Int.not_lt.mp c2, by rw [iq_lt] at c8; exact Int.not_lt.mp c8⟩, trivial⟩, hS.F ht⟩) hS.2.2 dX5_isWidth_16
  · skip
    refine lv_iload_n hx hb dX5_isWidth_5 rfl (lv_at hl 0 rfl) ?_
    refine lv_bipush (v := 16) hx hb dX5_isWidth_6 (by decide) ?_
    refine lv_icmp_gt (tgt := 15) hx hb dX5_isWidth_8 (by decide) (fun c8 => ?_) (fun c8 => ?_)
    · skip
      refine lv_iconst (v := 0) hx hb dX5_isWidth_15 (by decide) ?_
      exact W.zret (v := 0) (ty := .boolean) hx hb hr (rfl) (fun t ht hW => ⟨⟨0, (), rfl, by first | exact Or.inl rfl | exact Or.inr ⟨rfl, by rw [iq_lt] at c2; exact Int.not_lt.mp c2, by rw [iq_lt] at c8; exact Int.not_lt.mp c8⟩, trivial⟩, hS.F ht⟩) hS.2.2 dX5_isWidth_16
    · skip
      refine lv_iconst (v := 1) hx hb dX5_isWidth_11 (by decide) ?_
      refine lv_goto (tgt := 16) hx hb dX5_isWidth_12 (by decide) ?_
      exact W.zret (v := 1) (ty := .boolean) hx hb hr (rfl) (fun t ht hW => ⟨⟨1, (), rfl, by first | exact Or.inl rfl | exact Or.inr ⟨rfl, by rw [iq_lt] at c2; exact Int.not_lt.mp c2, by rw [iq_lt] at c8; exact Int.not_lt.mp c8⟩, trivial⟩, hS.F ht⟩) hS.2.2 dX5_isWidth_16
abbrev rmX5_isConstant : Room := { frames := 0, cells := 0, slots := 0, locals := 0 }
set_option maxHeartbeats 4000000 in
set_option maxRecDepth 100000 in
theorem k_X5_isConstant (l : Launch) (p0 : Int32)  : Pi_ l yX5_isConstant wsX5_isConstant rmX5_isConstant [.int p0] (fun r => r = 0 ∨ (r = 1 ∧ 3 ≤ p0.toInt ∧ p0.toInt ≤ 199 ∧ p0.toInt % 2 = 1)) := by
  refine Met.ofW (cc := cX5_isConstant) (maxL := 1) (ret := (some .boolean)) (by decide) rfl ?_
  intro p e s m args below meth c s₁ B hml hv
  obtain ⟨rfl, -⟩ := hv
  have hx := B.exec
  have hb := B.bytes
  have hr := B.returns
  have hts := atoms_spec (ws := wsX5_isConstant) B.pre
  have hown : s.vm.findClass RX5 = some m.cls := findClass_of_methodNamed B.named
  have hlocks := B.notSynchronized
  have hS : va_S (fun _ => False) s.heap s.heap [] := va_S.rf
  have hl := lv_entry ([.int p0]) (n := 1) (Nat.le_of_ble_eq_true rfl)
  rw [lg_entry_eq]
  generalize (lg_sl ([.int p0]) ++ List.replicate (1 - (lg_sl ([.int p0])).length) Slot.unset).toArray = ls at hl ⊢
  have hl : lv_has ls 1 [(0, .int p0)] := hl
  refine lv_iload_n hx hb dX5_isConstant_0 rfl (lv_at hl 0 rfl) ?_
  refine lv_iconst (v := 3) hx hb dX5_isConstant_1 (by decide) ?_
  refine lv_icmp_lt (tgt := 23) hx hb dX5_isConstant_2 (by decide) (fun c2 => ?_) (fun c2 => ?_)
  · skip
    refine lv_iconst (v := 0) hx hb dX5_isConstant_23 (by decide) ?_
    exact W.zret (v := 0) (ty := .boolean) hx hb hr (rfl) (fun t ht hW => ⟨⟨0, (), rfl, by first | exact Or.inl rfl | (refine Or.inr ⟨rfl, ?_, ?_, ?_⟩ <;> (rw [iq_lt] at c2 c9; have h3 : v14.toInt = p0.toInt.tmod 2 := by rw [e14, iq_rem]; rfl) <;> (have h4 : v14.toInt = 1 := by rw [c16]; rfl) <;> (have h5 := Int.not_lt.mp c2; have h6 := Int.not_lt.mp c9; have h7 : (3 : Int) ≤ p0.toInt := h5; have h8 : p0.toInt ≤ 199 := h6; rw [Int.tmod_eq_emod_of_nonneg (by omega)] at h3; omega)), trivial⟩, hS.F ht⟩) hS.2.2 dX5_isConstant_24
  · skip
    refine lv_iload_n hx hb dX5_isConstant_5 rfl (lv_at hl 0 rfl) ?_
    refine lv_sipush (v := 199) hx hb dX5_isConstant_6 (by decide) ?_
    refine lv_icmp_gt (tgt := 23) hx hb dX5_isConstant_9 (by decide) (fun c9 => ?_) (fun c9 => ?_)
    · skip
      refine lv_iconst (v := 0) hx hb dX5_isConstant_23 (by decide) ?_
      exact W.zret (v := 0) (ty := .boolean) hx hb hr (rfl) (fun t ht hW => ⟨⟨0, (), rfl, by first | exact Or.inl rfl | (refine Or.inr ⟨rfl, ?_, ?_, ?_⟩ <;> (rw [iq_lt] at c2 c9; have h3 : v14.toInt = p0.toInt.tmod 2 := by rw [e14, iq_rem]; rfl) <;> (have h4 : v14.toInt = 1 := by rw [c16]; rfl) <;> (have h5 := Int.not_lt.mp c2; have h6 := Int.not_lt.mp c9; have h7 : (3 : Int) ≤ p0.toInt := h5; have h8 : p0.toInt ≤ 199 := h6; rw [Int.tmod_eq_emod_of_nonneg (by omega)] at h3; omega)), trivial⟩, hS.F ht⟩) hS.2.2 dX5_isConstant_24
    · skip
      refine lv_iload_n hx hb dX5_isConstant_12 rfl (lv_at hl 0 rfl) ?_
      refine lv_iconst (v := 2) hx hb dX5_isConstant_13 (by decide) ?_
      refine lv_irem hx hb dX5_isConstant_14 (by decide) ?_
      refine lv_topi (fun v14 e14 => ?_)
      refine lv_iconst (v := 1) hx hb dX5_isConstant_15 (by decide) ?_
      refine lv_icmp_ne (tgt := 23) hx hb dX5_isConstant_16 (by decide) (fun c16 => ?_) (fun c16 => ?_)
      · skip
        refine lv_iconst (v := 0) hx hb dX5_isConstant_23 (by decide) ?_
        exact W.zret (v := 0) (ty := .boolean) hx hb hr (rfl) (fun t ht hW => ⟨⟨0, (), rfl, by first | exact Or.inl rfl | (refine Or.inr ⟨rfl, ?_, ?_, ?_⟩ <;> (rw [iq_lt] at c2 c9; have h3 : v14.toInt = p0.toInt.tmod 2 := by rw [e14, iq_rem]; rfl) <;> (have h4 : v14.toInt = 1 := by rw [c16]; rfl) <;> (have h5 := Int.not_lt.mp c2; have h6 := Int.not_lt.mp c9; have h7 : (3 : Int) ≤ p0.toInt := h5; have h8 : p0.toInt ≤ 199 := h6; rw [Int.tmod_eq_emod_of_nonneg (by omega)] at h3; omega)), trivial⟩, hS.F ht⟩) hS.2.2 dX5_isConstant_24
      · skip
        refine lv_iconst (v := 1) hx hb dX5_isConstant_19 (by decide) ?_
        refine lv_goto (tgt := 24) hx hb dX5_isConstant_20 (by decide) ?_
        exact W.zret (v := 1) (ty := .boolean) hx hb hr (rfl) (fun t ht hW => ⟨⟨1, (), rfl, by first | exact Or.inl rfl | (refine Or.inr ⟨rfl, ?_, ?_, ?_⟩ <;> (rw [iq_lt] at c2 c9; have h3 : v14.toInt = p0.toInt.tmod 2 := by rw [e14, iq_rem]; rfl) <;> (have h4 : v14.toInt = 1 := by rw [c16]; rfl) <;> (have h5 := Int.not_lt.mp c2; have h6 := Int.not_lt.mp c9; have h7 : (3 : Int) ≤ p0.toInt := h5; have h8 : p0.toInt ≤ 199 := h6; rw [Int.tmod_eq_emod_of_nonneg (by omega)] at h3; omega)), trivial⟩, hS.F ht⟩) hS.2.2 dX5_isConstant_24
abbrev rmJ9_floorMod_7cf53 : Room := { frames := 0, cells := 0, slots := 0, locals := 0 }
set_option maxHeartbeats 4000000 in
set_option maxRecDepth 100000 in
theorem k_J9_floorMod_7cf53 (l : Launch) (p0 : Int32) (p1 : Int32) (hy : 0 < p1.toInt) : Pi_ l yJ9_floorMod_7cf53 wsJ9_floorMod_7cf53 rmJ9_floorMod_7cf53 [.int p0, .int p1] (fun r => r.toInt = p0.toInt % p1.toInt) := by
  refine va_MetF (cc := cJ9_floorMod_7cf53) (maxL := 3) (ret := (some .int)) (by decide +kernel) rfl ?_
  intro p e s m args below meth c s₁ B hml hv
  obtain ⟨rfl, -⟩ := hv
  have hx := B.exec
  have hb := B.bytes
  have hr := B.returns
  have hts := atoms_spec (ws := wsJ9_floorMod_7cf53) B.pre
  have hown : s.vm.findClass RJ9 = some m.cls := findClass_of_methodNamed B.named
  have hlocks := B.notSynchronized
  have hS : va_S (fun _ => False) s.heap s.heap [] := va_S.rf
  have hl := lv_entry ([.int p0, .int p1]) (n := 3) (Nat.le_of_ble_eq_true rfl)
  rw [lg_entry_eq]
  generalize (lg_sl ([.int p0, .int p1]) ++ List.replicate (3 - (lg_sl ([.int p0, .int p1])).length) Slot.unset).toArray = ls at hl ⊢
  have hl : lv_has ls 3 [(0, .int p0), (1, .int p1)] := hl
  refine lv_iload_n hx hb dJ9_floorMod_7cf53_0 rfl (lv_at hl 0 rfl) ?_
  refine lv_iload_n hx hb dJ9_floorMod_7cf53_1 rfl (lv_at hl 1 rfl) ?_
  refine lv_irem hx hb dJ9_floorMod_7cf53_2 (fun h => by rw [h] at hy; exact absurd hy (by decide)) ?_
  refine lv_topi (fun v2 e2 => ?_)
  refine lv_istore_n (lv' := [(2, .int v2), (0, .int p0), (1, .int p1)]) hx hb dJ9_floorMod_7cf53_3 rfl hl (by decide) rfl (fun ls hl => ?_)
  refine lv_iload_n hx hb dJ9_floorMod_7cf53_4 rfl (lv_at hl 1 rfl) ?_
  refine lv_iload_n hx hb dJ9_floorMod_7cf53_5 rfl (lv_at hl 2 rfl) ?_
  refine lv_ixor hx hb dJ9_floorMod_7cf53_6 ?_
  refine lv_topi (fun v6 e6 => ?_)
  refine lv_if_ge (tgt := 18) hx hb dJ9_floorMod_7cf53_7 (by decide) (fun c7 => ?_) (fun c7 => ?_)
  · skip
    refine lv_iload_n hx hb dJ9_floorMod_7cf53_18 rfl (lv_at hl 0 rfl) ?_
    exact W.iret (v := v2) hx hb hr (fun t ht hW => ⟨⟨v2, (), rfl, iq_fm (md := v2) hy (by rw [e2]; exact iq_rem p0 p1) (by first | exact Or.inr (Or.inl ⟨by have h := c7; rw [iq_le] at h; have h2 := (iq_xneg (x := p0) hy).mp (by rw [← e6, iq_lt]; exact Int.not_le.mp h); rw [iq_lt] at h2; exact h2, by rw [c11]; rfl, rfl⟩) | exact Or.inl ⟨Int.not_lt.mp (fun q => by have h2 := (iq_xneg (x := p0) hy).mpr (by rw [iq_lt]; exact q); rw [← e6, iq_lt] at h2; rw [iq_le] at c7; exact absurd h2 (Int.not_lt.mpr c7)), rfl⟩), trivial⟩, hS.F ht⟩) hS.2.2 dJ9_floorMod_7cf53_19
  · skip
    refine lv_iload_n hx hb dJ9_floorMod_7cf53_10 rfl (lv_at hl 0 rfl) ?_
    refine lv_if_eq (tgt := 18) hx hb dJ9_floorMod_7cf53_11 (by decide) (fun c11 => ?_) (fun c11 => ?_)
    · skip
      refine lv_iload_n hx hb dJ9_floorMod_7cf53_18 rfl (lv_at hl 0 rfl) ?_
      exact W.iret (v := v2) hx hb hr (fun t ht hW => ⟨⟨v2, (), rfl, iq_fm (md := v2) hy (by rw [e2]; exact iq_rem p0 p1) (by first | exact Or.inr (Or.inl ⟨by have h := c7; rw [iq_le] at h; have h2 := (iq_xneg (x := p0) hy).mp (by rw [← e6, iq_lt]; exact Int.not_le.mp h); rw [iq_lt] at h2; exact h2, by rw [c11]; rfl, rfl⟩) | exact Or.inl ⟨Int.not_lt.mp (fun q => by have h2 := (iq_xneg (x := p0) hy).mpr (by rw [iq_lt]; exact q); rw [← e6, iq_lt] at h2; rw [iq_le] at c7; exact absurd h2 (Int.not_lt.mpr c7)), rfl⟩), trivial⟩, hS.F ht⟩) hS.2.2 dJ9_floorMod_7cf53_19
    · skip
      refine lv_iload_n hx hb dJ9_floorMod_7cf53_14 rfl (lv_at hl 0 rfl) ?_
      refine lv_iload_n hx hb dJ9_floorMod_7cf53_15 rfl (lv_at hl 2 rfl) ?_
      refine lv_iadd hx hb dJ9_floorMod_7cf53_16 ?_
      refine lv_topi (fun v16 e16 => ?_)
      exact W.iret (v := v16) hx hb hr (fun t ht hW => ⟨⟨v16, (), rfl, iq_fm (md := v2) hy (by rw [e2]; exact iq_rem p0 p1) (Or.inr (Or.inr ⟨by have h := c7; rw [iq_le] at h; have h2 := (iq_xneg (x := p0) hy).mp (by rw [← e6, iq_lt]; exact Int.not_le.mp h); rw [iq_lt] at h2; exact h2, fun q => c11 (by rw [iq_eq]; exact q), e16⟩)), trivial⟩, hS.F ht⟩) hS.2.2 dJ9_floorMod_7cf53_17
abbrev rmX5_rest : Room := { frames := 1, cells := 0, slots := 0, locals := 22 }
set_option maxHeartbeats 4000000 in
set_option maxRecDepth 100000 in
theorem k_X5_rest (l : Launch) (p0 : Int32) (p1 : Int32)  : Pi_ l yX5_rest wsX5_rest rmX5_rest [.int p0, .int p1] (fun r => 1 ≤ p1.toInt → r.toInt = p0.toInt % p1.toInt) := by
  refine Met.ofW (cc := cX5_rest) (maxL := 2) (ret := (some .int)) (by decide) rfl ?_
  intro p e s m args below meth c s₁ B hml hv
  obtain ⟨rfl, -⟩ := hv
  have hx := B.exec
  have hb := B.bytes
  have hr := B.returns
  have hts := atoms_spec (ws := wsX5_rest) B.pre
  have hown : s.vm.findClass RX5 = some m.cls := findClass_of_methodNamed B.named
  have hlocks := B.notSynchronized
  have hS : va_S (fun _ => False) s.heap s.heap [] := va_S.rf
  have hl := lv_entry ([.int p0, .int p1]) (n := 2) (Nat.le_of_ble_eq_true rfl)
  rw [lg_entry_eq]
  generalize (lg_sl ([.int p0, .int p1]) ++ List.replicate (2 - (lg_sl ([.int p0, .int p1])).length) Slot.unset).toArray = ls at hl ⊢
  have hl : lv_has ls 2 [(0, .int p0), (1, .int p1)] := hl
  refine lv_iload_n hx hb dX5_rest_0 rfl (lv_at hl 1 rfl) ?_
  refine lv_iconst (v := 1) hx hb dX5_rest_1 (by decide) ?_
  refine lv_icmp_ge (tgt := 9) hx hb dX5_rest_2 (by decide) (fun c2 => ?_) (fun c2 => ?_)
  · skip
    refine lv_iload_n hx hb dX5_rest_9 rfl (lv_at hl 0 rfl) ?_
    refine lv_iload_n hx hb dX5_rest_10 rfl (lv_at hl 1 rfl) ?_
    refine p_i (va_runS (As := [.int p0, .int p1]) (rest := []) ⟨hx, hb, hml, hown, hts⟩ (k_J9_floorMod_7cf53 l p0 p1 (by rw [iq_le] at c2; have h : (1 : Int) ≤ p1.toInt := c2; omega)) (va_cwS 2 hts gX5_rest_J9_floorMod_7cf53 rfl rfl rfl (by decide +kernel) ⟨Nat.le_of_ble_eq_true rfl, Nat.le_of_ble_eq_true rfl⟩) (pPreS) rfl rfl hl.1 rfl (lv_room (Nat.le_of_ble_eq_true rfl)) dX5_rest_11 ⟨Nat.le_of_ble_eq_true rfl, Nat.le_of_ble_eq_true rfl⟩) hS (fun r11 H locs hp11 hS => ?_)
    exact W.iret (v := r11) hx hb hr (fun t ht hW => ⟨⟨r11, (), rfl, by first | exact fun _ => hp11 | exact fun h => absurd (by rw [iq_le]; exact h) c2, trivial⟩, hS.F ht⟩) hS.2.2 dX5_rest_14
  · skip
    refine lv_iconst (v := 0) hx hb dX5_rest_5 (by decide) ?_
    refine lv_goto (tgt := 14) hx hb dX5_rest_6 (by decide) ?_
    exact W.iret (v := 0) hx hb hr (fun t ht hW => ⟨⟨0, (), rfl, by first | exact fun _ => hp11 | exact fun h => absurd (by rw [iq_le]; exact h) c2, trivial⟩, hS.F ht⟩) hS.2.2 dX5_rest_14
abbrev rmX5_cut : Room := { frames := 0, cells := 0, slots := 0, locals := 0 }
set_option maxHeartbeats 4000000 in
set_option maxRecDepth 100000 in
theorem k_X5_cut (l : Launch) (p0 : Int64) (p2 : Int32)  : Pl_ l yX5_cut wsX5_cut rmX5_cut [.long p0, .int p2] (fun _ => True) := by
  refine Met.ofW (cc := cX5_cut) (maxL := 3) (ret := (some .long)) (by decide) rfl ?_
  intro p e s m args below meth c s₁ B hml hv
  obtain ⟨rfl, -⟩ := hv
  have hx := B.exec
  have hb := B.bytes
  have hr := B.returns
  have hts := atoms_spec (ws := wsX5_cut) B.pre
  have hown : s.vm.findClass RX5 = some m.cls := findClass_of_methodNamed B.named
  have hlocks := B.notSynchronized
  have hS : va_S (fun _ => False) s.heap s.heap [] := va_S.rf
  have hl := lv_entry ([.long p0, .int p2]) (n := 3) (Nat.le_of_ble_eq_true rfl)
  rw [lg_entry_eq]
  generalize (lg_sl ([.long p0, .int p2]) ++ List.replicate (3 - (lg_sl ([.long p0, .int p2])).length) Slot.unset).toArray = ls at hl ⊢
  have hl : lv_has ls 3 [(0, .long p0), (2, .int p2)] := hl
  refine lv_iload_n hx hb dX5_cut_0 rfl (lv_at hl 1 rfl) ?_
  refine lv_iconst (v := 1) hx hb dX5_cut_1 (by decide) ?_
  refine lv_icmp_ge (tgt := 9) hx hb dX5_cut_2 (by decide) (fun c2 => ?_) (fun c2 => ?_)
  · skip
    refine lv_lload_n hx hb dX5_cut_9 rfl (lv_at hl 0 rfl) ?_
    refine lv_iload_n hx hb dX5_cut_10 rfl (lv_at hl 1 rfl) ?_
    refine lv_i2l (v := (p2 : Int32).toInt64) hx hb dX5_cut_11 rfl ?_
    refine lv_topl (fun v11 e11 => ?_)
    refine lv_ldiv hx hb dX5_cut_12 (fun h => by rw [iq_le] at c2; rw [e11] at h; have h2 := congrArg Int64.toInt h; rw [Int32.toInt_toInt64] at h2; have h3 : (1 : Int) ≤ p2.toInt := c2; have h4 : p2.toInt = 0 := h2; omega) ?_
    refine lv_topl (fun v12 e12 => ?_)
    exact W.lret (v := v12) hx hb hr (fun t ht hW => ⟨⟨v12, (), rfl, trivial, trivial⟩, hS.F ht⟩) hS.2.2 dX5_cut_13
  · skip
    refine lv_lconst (v := 0) hx hb dX5_cut_5 (by decide) ?_
    refine lv_goto (tgt := 13) hx hb dX5_cut_6 (by decide) ?_
    exact W.lret (v := 0) hx hb hr (fun t ht hW => ⟨⟨0, (), rfl, trivial, trivial⟩, hS.F ht⟩) hS.2.2 dX5_cut_13
abbrev rmX5_commonDivisor : Room := { frames := 2, cells := 0, slots := 0, locals := 43 }
set_option maxHeartbeats 4000000 in
set_option maxRecDepth 100000 in
theorem k_X5_commonDivisor (l : Launch) (p0 : Int32) (p1 : Int32)  : Pi_ l yX5_commonDivisor wsX5_commonDivisor rmX5_commonDivisor [.int p0, .int p1] (fun _ => True) := by
  refine Met.ofW (cc := cX5_commonDivisor) (maxL := 6) (ret := (some .int)) (by decide) rfl ?_
  intro p e s m args below meth c s₁ B hml hv
  obtain ⟨rfl, -⟩ := hv
  have hx := B.exec
  have hb := B.bytes
  have hr := B.returns
  have hts := atoms_spec (ws := wsX5_commonDivisor) B.pre
  have hown : s.vm.findClass RX5 = some m.cls := findClass_of_methodNamed B.named
  have hlocks := B.notSynchronized
  have hS : va_S (fun _ => False) s.heap s.heap [] := va_S.rf
  have hl := lv_entry ([.int p0, .int p1]) (n := 6) (Nat.le_of_ble_eq_true rfl)
  rw [lg_entry_eq]
  generalize (lg_sl ([.int p0, .int p1]) ++ List.replicate (6 - (lg_sl ([.int p0, .int p1])).length) Slot.unset).toArray = ls at hl ⊢
  have hl : lv_has ls 6 [(0, .int p0), (1, .int p1)] := hl
  have hJ7 : ∀ (n7 : Nat) (H : Heap) (locs : List Loc) (z2 : Int32) (z3 : Int32) (z4 : Int32), (va_S (fun _ => False) s.heap H locs) → ((2147483647 - z4.toInt).toNat < n7) → ∀ (ls : Array Slot), lv_has ls 6 [(2, .int z2), (3, .int z3), (4, .int z4)] → W p l e rmX5_commonDivisor s m [.int p0, .int p1].toArray below meth c H locs 0 0 (MQ below (va_Qi (fun (r : Int32) (_ : Unit) => (fun _ => True) r) (fun _ _ => True) (fun _ => False)) [.int p0, .int p1].toArray s 0 0 (fun _ => False)) (F0 m 7 ls []) := by
    intro n7
    induction n7 with
    | zero =>
      intro H locs z2 z3 z4 hS hm7 ls hl
      exact absurd hm7 (Nat.not_lt_zero _)
    | succ n7 ih7 =>
      intro H locs z2 z3 z4 hS hm7 ls hl
      refine lv_iload hx hb dX5_commonDivisor_7 (lv_at hl 2 rfl) ?_
      refine lv_bipush (v := 64) hx hb dX5_commonDivisor_9 (by decide) ?_
      refine lv_icmp_ge (tgt := 36) hx hb dX5_commonDivisor_11 (by decide) (fun c11 => ?_) (fun c11 => ?_)
      · skip
        refine lv_iload_n hx hb dX5_commonDivisor_36 rfl (lv_at hl 0 rfl) ?_
        exact W.iret (v := z2) hx hb hr (fun t ht hW => ⟨⟨z2, (), rfl, trivial, trivial⟩, hS.F ht⟩) hS.2.2 dX5_commonDivisor_37
      · skip
        refine lv_iload_n hx hb dX5_commonDivisor_14 rfl (lv_at hl 1 rfl) ?_
        refine lv_if_eq (tgt := 36) hx hb dX5_commonDivisor_15 (by decide) (fun c15 => ?_) (fun c15 => ?_)
        · skip
          refine lv_iload_n hx hb dX5_commonDivisor_36 rfl (lv_at hl 0 rfl) ?_
          exact W.iret (v := z2) hx hb hr (fun t ht hW => ⟨⟨z2, (), rfl, trivial, trivial⟩, hS.F ht⟩) hS.2.2 dX5_commonDivisor_37
        · skip
          refine lv_iload_n hx hb dX5_commonDivisor_18 rfl (lv_at hl 0 rfl) ?_
          refine lv_iload_n hx hb dX5_commonDivisor_19 rfl (lv_at hl 1 rfl) ?_
          refine p_i (va_runS (As := [.int z2, .int z3]) (rest := []) ⟨hx, hb, hml, hown, hts⟩ (k_X5_rest l z2 z3) (va_cwS 2 hts gX5_commonDivisor_X5_rest rfl rfl rfl (by decide +kernel) ⟨Nat.le_of_ble_eq_true rfl, Nat.le_of_ble_eq_true rfl⟩) (pPreS) rfl rfl hl.1 rfl (lv_room (Nat.le_of_ble_eq_true rfl)) dX5_commonDivisor_20 ⟨Nat.le_of_ble_eq_true rfl, Nat.le_of_ble_eq_true rfl⟩) hS (fun r20 H locs hp20 hS => ?_)
          refine lv_istore (lv' := [(5, .int r20), (2, .int z2), (3, .int z3), (4, .int z4)]) hx hb dX5_commonDivisor_23 hl (by decide) rfl (fun ls hl => ?_)
          refine lv_iload_n hx hb dX5_commonDivisor_25 rfl (lv_at hl 2 rfl) ?_
          refine lv_istore_n (lv' := [(2, .int z3), (5, .int r20), (3, .int z3), (4, .int z4)]) hx hb dX5_commonDivisor_26 rfl hl (by decide) rfl (fun ls hl => ?_)
          refine lv_iload hx hb dX5_commonDivisor_27 (lv_at hl 1 rfl) ?_
          refine lv_istore_n (lv' := [(3, .int r20), (2, .int z3), (5, .int r20), (4, .int z4)]) hx hb dX5_commonDivisor_29 rfl hl (by decide) rfl (fun ls hl => ?_)
          obtain ⟨v30, e30⟩ : ∃ y : Int32, y = z4 + 1 := ⟨_, rfl⟩
          refine lv_iinc (v := v30) (lv' := [(4, .int v30), (3, .int r20), (2, .int z3), (5, .int r20)]) hx hb dX5_commonDivisor_30 hl (k := 3) rfl (by rw [e30]; rfl) (by decide) rfl (fun ls hl => ?_)
          refine lv_goto (tgt := 7) hx hb dX5_commonDivisor_33 (by decide) ?_
          exact ih7 _ _ z3 r20 v30 hS (iq_up hm7 c11 e30) _ (lv_sub hl [2, 1, 0] rfl)
  refine lv_iload_n hx hb dX5_commonDivisor_0 rfl (lv_at hl 0 rfl) ?_
  refine lv_istore_n (lv' := [(2, .int p0), (0, .int p0), (1, .int p1)]) hx hb dX5_commonDivisor_1 rfl hl (by decide) rfl (fun ls hl => ?_)
  refine lv_iload_n hx hb dX5_commonDivisor_2 rfl (lv_at hl 2 rfl) ?_
  refine lv_istore_n (lv' := [(3, .int p1), (2, .int p0), (0, .int p0), (1, .int p1)]) hx hb dX5_commonDivisor_3 rfl hl (by decide) rfl (fun ls hl => ?_)
  refine lv_iconst (v := 0) hx hb dX5_commonDivisor_4 (by decide) ?_
  refine lv_istore (lv' := [(4, .int 0), (3, .int p1), (2, .int p0), (0, .int p0), (1, .int p1)]) hx hb dX5_commonDivisor_5 hl (by decide) rfl (fun ls hl => ?_)
  exact hJ7 ((2147483647 - (0 : Int32).toInt).toNat + 1) _ _ p0 p1 0 hS (Nat.lt_succ_self _) _ (lv_sub hl [2, 1, 0] rfl)
abbrev rmX5_change : Room := { frames := 0, cells := 0, slots := 0, locals := 0 }
set_option maxHeartbeats 4000000 in
set_option maxRecDepth 100000 in
theorem k_X5_change (l : Launch) (p0 : Int32)  : Pi_ l yX5_change wsX5_change rmX5_change [.int p0] (fun _ => True) := by
  refine Met.ofW (cc := cX5_change) (maxL := 2) (ret := (some .int)) (by decide) rfl ?_
  intro p e s m args below meth c s₁ B hml hv
  obtain ⟨rfl, -⟩ := hv
  have hx := B.exec
  have hb := B.bytes
  have hr := B.returns
  have hts := atoms_spec (ws := wsX5_change) B.pre
  have hown : s.vm.findClass RX5 = some m.cls := findClass_of_methodNamed B.named
  have hlocks := B.notSynchronized
  have hS : va_S (fun _ => False) s.heap s.heap [] := va_S.rf
  have hl := lv_entry ([.int p0]) (n := 2) (Nat.le_of_ble_eq_true rfl)
  rw [lg_entry_eq]
  generalize (lg_sl ([.int p0]) ++ List.replicate (2 - (lg_sl ([.int p0])).length) Slot.unset).toArray = ls at hl ⊢
  have hl : lv_has ls 2 [(0, .int p0)] := hl
  refine lv_iconst (v := 1) hx hb dX5_change_0 (by decide) ?_
  refine lv_iload_n hx hb dX5_change_1 rfl (lv_at hl 0 rfl) ?_
  refine lv_iconst (v := 2) hx hb dX5_change_2 (by decide) ?_
  refine lv_idiv hx hb dX5_change_3 (by decide) ?_
  refine lv_topi (fun v3 e3 => ?_)
  refine lv_ishl hx hb dX5_change_4 ?_
  refine lv_topi (fun v4 e4 => ?_)
  refine lv_istore_n (lv' := [(1, .int v4), (0, .int p0)]) hx hb dX5_change_5 rfl hl (by decide) rfl (fun ls hl => ?_)
  refine lv_iload_n hx hb dX5_change_6 rfl (lv_at hl 1 rfl) ?_
  refine lv_iconst (v := 2) hx hb dX5_change_7 (by decide) ?_
  refine lv_irem hx hb dX5_change_8 (by decide) ?_
  refine lv_topi (fun v8 e8 => ?_)
  refine lv_if_ne (tgt := 16) hx hb dX5_change_9 (by decide) (fun c9 => ?_) (fun c9 => ?_)
  · skip
    refine lv_iload_n hx hb dX5_change_16 rfl (lv_at hl 0 rfl) ?_
    refine lv_ineg hx hb dX5_change_17 ?_
    refine lv_topi (fun v17 e17 => ?_)
    exact W.iret (v := v17) hx hb hr (fun t ht hW => ⟨⟨v17, (), rfl, trivial, trivial⟩, hS.F ht⟩) hS.2.2 dX5_change_18
  · skip
    refine lv_iload_n hx hb dX5_change_12 rfl (lv_at hl 0 rfl) ?_
    refine lv_goto (tgt := 18) hx hb dX5_change_13 (by decide) ?_
    exact W.iret (v := v4) hx hb hr (fun t ht hW => ⟨⟨v4, (), rfl, trivial, trivial⟩, hS.F ht⟩) hS.2.2 dX5_change_18
abbrev rmX5_strikesLeaving : Room := { frames := 2, cells := 0, slots := 0, locals := 43 }
set_option maxHeartbeats 4000000 in
set_option maxRecDepth 100000 in
theorem k_X5_strikesLeaving (l : Launch) (p0 : Int32) (p1 : Int32) (p2 : Int32)  : Pi_ l yX5_strikesLeaving wsX5_strikesLeaving rmX5_strikesLeaving [.int p0, .int p1, .int p2] (fun _ => True) := by
  refine Met.ofW (cc := cX5_strikesLeaving) (maxL := 5) (ret := (some .int)) (by decide) rfl ?_
  intro p e s m args below meth c s₁ B hml hv
  obtain ⟨rfl, -⟩ := hv
  have hx := B.exec
  have hb := B.bytes
  have hr := B.returns
  have hts := atoms_spec (ws := wsX5_strikesLeaving) B.pre
  have hown : s.vm.findClass RX5 = some m.cls := findClass_of_methodNamed B.named
  have hlocks := B.notSynchronized
  have hS : va_S (fun _ => False) s.heap s.heap [] := va_S.rf
  have hl := lv_entry ([.int p0, .int p1, .int p2]) (n := 5) (Nat.le_of_ble_eq_true rfl)
  rw [lg_entry_eq]
  generalize (lg_sl ([.int p0, .int p1, .int p2]) ++ List.replicate (5 - (lg_sl ([.int p0, .int p1, .int p2])).length) Slot.unset).toArray = ls at hl ⊢
  have hl : lv_has ls 5 [(0, .int p0), (1, .int p1), (2, .int p2)] := hl
  have hJ5 : ∀ (n5 : Nat) (H : Heap) (locs : List Loc) (z3 : Int32) (z4 : Int32), (va_S (fun _ => False) s.heap H locs) → ((2147483647 - z4.toInt).toNat < n5) → ∀ (ls : Array Slot), lv_has ls 5 [(0, .int p0), (1, .int p1), (2, .int p2), (3, .int z3), (4, .int z4)] → W p l e rmX5_strikesLeaving s m [.int p0, .int p1, .int p2].toArray below meth c H locs 0 0 (MQ below (va_Qi (fun (r : Int32) (_ : Unit) => (fun _ => True) r) (fun _ _ => True) (fun _ => False)) [.int p0, .int p1, .int p2].toArray s 0 0 (fun _ => False)) (F0 m 5 ls []) := by
    intro n5
    induction n5 with
    | zero =>
      intro H locs z3 z4 hS hm5 ls hl
      exact absurd hm5 (Nat.not_lt_zero _)
    | succ n5 ih5 =>
      intro H locs z3 z4 hS hm5 ls hl
      refine lv_iload hx hb dX5_strikesLeaving_5 (lv_at hl 4 rfl) ?_
      refine lv_iconst (v := 2) hx hb dX5_strikesLeaving_7 (by decide) ?_
      refine lv_iload_n hx hb dX5_strikesLeaving_8 rfl (lv_at hl 2 rfl) ?_
      refine lv_imul hx hb dX5_strikesLeaving_9 ?_
      refine lv_topi (fun v9 e9 => ?_)
      refine lv_icmp_ge (tgt := 35) hx hb dX5_strikesLeaving_10 (by decide) (fun c10 => ?_) (fun c10 => ?_)
      · skip
        refine lv_iload_n hx hb dX5_strikesLeaving_35 rfl (lv_at hl 3 rfl) ?_
        exact W.iret (v := z3) hx hb hr (fun t ht hW => ⟨⟨z3, (), rfl, trivial, trivial⟩, hS.F ht⟩) hS.2.2 dX5_strikesLeaving_36
      · skip
        refine lv_iload hx hb dX5_strikesLeaving_13 (lv_at hl 4 rfl) ?_
        refine p_i (va_runS (As := [.int z4]) (rest := []) ⟨hx, hb, hml, hown, hts⟩ (k_X5_change l z4) (va_cwS 1 hts gX5_strikesLeaving_X5_change rfl rfl rfl (by decide +kernel) ⟨Nat.le_of_ble_eq_true rfl, Nat.le_of_ble_eq_true rfl⟩) (pPreS) rfl rfl hl.1 rfl (lv_room (Nat.le_of_ble_eq_true rfl)) dX5_strikesLeaving_15 ⟨Nat.le_of_ble_eq_true rfl, Nat.le_of_ble_eq_true rfl⟩) hS (fun r15 H locs hp15 hS => ?_)
        refine lv_iload_n hx hb dX5_strikesLeaving_18 rfl (lv_at hl 1 rfl) ?_
        refine p_i (va_runS (As := [.int r15, .int p1]) (rest := []) ⟨hx, hb, hml, hown, hts⟩ (k_X5_rest l r15 p1) (va_cwS 2 hts gX5_strikesLeaving_X5_rest rfl rfl rfl (by decide +kernel) ⟨Nat.le_of_ble_eq_true rfl, Nat.le_of_ble_eq_true rfl⟩) (pPreS) rfl rfl hl.1 rfl (lv_room (Nat.le_of_ble_eq_true rfl)) dX5_strikesLeaving_19 ⟨Nat.le_of_ble_eq_true rfl, Nat.le_of_ble_eq_true rfl⟩) hS (fun r19 H locs hp19 hS => ?_)
        refine lv_iload_n hx hb dX5_strikesLeaving_22 rfl (lv_at hl 0 rfl) ?_
        refine lv_icmp_ne (tgt := 29) hx hb dX5_strikesLeaving_23 (by decide) (fun c23 => ?_) (fun c23 => ?_)
        · skip
          obtain ⟨v29, e29⟩ : ∃ y : Int32, y = z4 + 1 := ⟨_, rfl⟩
          refine lv_iinc (v := v29) (lv' := [(4, .int v29), (0, .int p0), (1, .int p1), (2, .int p2), (3, .int z3)]) hx hb dX5_strikesLeaving_29 hl (k := 4) rfl (by rw [e29]; rfl) (by decide) rfl (fun ls hl => ?_)
          refine lv_goto (tgt := 5) hx hb dX5_strikesLeaving_32 (by decide) ?_
          exact ih5 _ _ z3 v29 hS (iq_up hm5 c10 e29) _ (lv_sub hl [1, 2, 3, 4, 0] rfl)
        · skip
          obtain ⟨v26, e26⟩ : ∃ y : Int32, y = z3 + 1 := ⟨_, rfl⟩
          refine lv_iinc (v := v26) (lv' := [(3, .int v26), (0, .int p0), (1, .int p1), (2, .int p2), (4, .int z4)]) hx hb dX5_strikesLeaving_26 hl (k := 3) rfl (by rw [e26]; rfl) (by decide) rfl (fun ls hl => ?_)
          obtain ⟨v29, e29⟩ : ∃ y : Int32, y = z4 + 1 := ⟨_, rfl⟩
          refine lv_iinc (v := v29) (lv' := [(4, .int v29), (3, .int v26), (0, .int p0), (1, .int p1), (2, .int p2)]) hx hb dX5_strikesLeaving_29 hl (k := 4) rfl (by rw [e29]; rfl) (by decide) rfl (fun ls hl => ?_)
          refine lv_goto (tgt := 5) hx hb dX5_strikesLeaving_32 (by decide) ?_
          exact ih5 _ _ v26 v29 hS (iq_up hm5 c10 e29) _ (lv_sub hl [2, 3, 4, 1, 0] rfl)
  refine lv_iconst (v := 0) hx hb dX5_strikesLeaving_0 (by decide) ?_
  refine lv_istore_n (lv' := [(3, .int 0), (0, .int p0), (1, .int p1), (2, .int p2)]) hx hb dX5_strikesLeaving_1 rfl hl (by decide) rfl (fun ls hl => ?_)
  refine lv_iconst (v := 0) hx hb dX5_strikesLeaving_2 (by decide) ?_
  refine lv_istore (lv' := [(4, .int 0), (3, .int 0), (0, .int p0), (1, .int p1), (2, .int p2)]) hx hb dX5_strikesLeaving_3 hl (by decide) rfl (fun ls hl => ?_)
  exact hJ5 ((2147483647 - (0 : Int32).toInt).toNat + 1) _ _ 0 0 hS (Nat.lt_succ_self _) _ (lv_sub hl [2, 3, 4, 1, 0] rfl)
abbrev rmX5_firstLeaving : Room := { frames := 2, cells := 0, slots := 0, locals := 43 }
set_option maxHeartbeats 4000000 in
set_option maxRecDepth 100000 in
theorem k_X5_firstLeaving (l : Launch) (p0 : Int32) (p1 : Int32) (p2 : Int32)  : Pi_ l yX5_firstLeaving wsX5_firstLeaving rmX5_firstLeaving [.int p0, .int p1, .int p2] (fun _ => True) := by
  refine Met.ofW (cc := cX5_firstLeaving) (maxL := 4) (ret := (some .int)) (by decide) rfl ?_
  intro p e s m args below meth c s₁ B hml hv
  obtain ⟨rfl, -⟩ := hv
  have hx := B.exec
  have hb := B.bytes
  have hr := B.returns
  have hts := atoms_spec (ws := wsX5_firstLeaving) B.pre
  have hown : s.vm.findClass RX5 = some m.cls := findClass_of_methodNamed B.named
  have hlocks := B.notSynchronized
  have hS : va_S (fun _ => False) s.heap s.heap [] := va_S.rf
  have hl := lv_entry ([.int p0, .int p1, .int p2]) (n := 4) (Nat.le_of_ble_eq_true rfl)
  rw [lg_entry_eq]
  generalize (lg_sl ([.int p0, .int p1, .int p2]) ++ List.replicate (4 - (lg_sl ([.int p0, .int p1, .int p2])).length) Slot.unset).toArray = ls at hl ⊢
  have hl : lv_has ls 4 [(0, .int p0), (1, .int p1), (2, .int p2)] := hl
  have hJ2 : ∀ (n2 : Nat) (H : Heap) (locs : List Loc) (z3 : Int32), (va_S (fun _ => False) s.heap H locs) → ((2147483647 - z3.toInt).toNat < n2) → ∀ (ls : Array Slot), lv_has ls 4 [(0, .int p0), (1, .int p1), (2, .int p2), (3, .int z3)] → W p l e rmX5_firstLeaving s m [.int p0, .int p1, .int p2].toArray below meth c H locs 0 0 (MQ below (va_Qi (fun (r : Int32) (_ : Unit) => (fun _ => True) r) (fun _ _ => True) (fun _ => False)) [.int p0, .int p1, .int p2].toArray s 0 0 (fun _ => False)) (F0 m 2 ls []) := by
    intro n2
    induction n2 with
    | zero =>
      intro H locs z3 hS hm2 ls hl
      exact absurd hm2 (Nat.not_lt_zero _)
    | succ n2 ih2 =>
      intro H locs z3 hS hm2 ls hl
      refine lv_iload_n hx hb dX5_firstLeaving_2 rfl (lv_at hl 3 rfl) ?_
      refine lv_iconst (v := 2) hx hb dX5_firstLeaving_3 (by decide) ?_
      refine lv_iload_n hx hb dX5_firstLeaving_4 rfl (lv_at hl 2 rfl) ?_
      refine lv_imul hx hb dX5_firstLeaving_5 ?_
      refine lv_topi (fun v5 e5 => ?_)
      refine lv_icmp_ge (tgt := 29) hx hb dX5_firstLeaving_6 (by decide) (fun c6 => ?_) (fun c6 => ?_)
      · skip
        refine lv_ldc (v := (-1000000)) hx hb hown (hts (.constant RX5 134 (-1000000)) (by decide +kernel)) dX5_firstLeaving_29 ?_
        exact W.iret (v := (-1000000)) hx hb hr (fun t ht hW => ⟨⟨(-1000000), (), rfl, trivial, trivial⟩, hS.F ht⟩) hS.2.2 dX5_firstLeaving_31
      · skip
        refine lv_iload_n hx hb dX5_firstLeaving_9 rfl (lv_at hl 3 rfl) ?_
        refine p_i (va_runS (As := [.int z3]) (rest := []) ⟨hx, hb, hml, hown, hts⟩ (k_X5_change l z3) (va_cwS 1 hts gX5_firstLeaving_X5_change rfl rfl rfl (by decide +kernel) ⟨Nat.le_of_ble_eq_true rfl, Nat.le_of_ble_eq_true rfl⟩) (pPreS) rfl rfl hl.1 rfl (lv_room (Nat.le_of_ble_eq_true rfl)) dX5_firstLeaving_10 ⟨Nat.le_of_ble_eq_true rfl, Nat.le_of_ble_eq_true rfl⟩) hS (fun r10 H locs hp10 hS => ?_)
        refine lv_iload_n hx hb dX5_firstLeaving_13 rfl (lv_at hl 1 rfl) ?_
        refine p_i (va_runS (As := [.int r10, .int p1]) (rest := []) ⟨hx, hb, hml, hown, hts⟩ (k_X5_rest l r10 p1) (va_cwS 2 hts gX5_firstLeaving_X5_rest rfl rfl rfl (by decide +kernel) ⟨Nat.le_of_ble_eq_true rfl, Nat.le_of_ble_eq_true rfl⟩) (pPreS) rfl rfl hl.1 rfl (lv_room (Nat.le_of_ble_eq_true rfl)) dX5_firstLeaving_14 ⟨Nat.le_of_ble_eq_true rfl, Nat.le_of_ble_eq_true rfl⟩) hS (fun r14 H locs hp14 hS => ?_)
        refine lv_iload_n hx hb dX5_firstLeaving_17 rfl (lv_at hl 0 rfl) ?_
        refine lv_icmp_ne (tgt := 23) hx hb dX5_firstLeaving_18 (by decide) (fun c18 => ?_) (fun c18 => ?_)
        · skip
          obtain ⟨v23, e23⟩ : ∃ y : Int32, y = z3 + 1 := ⟨_, rfl⟩
          refine lv_iinc (v := v23) (lv' := [(3, .int v23), (0, .int p0), (1, .int p1), (2, .int p2)]) hx hb dX5_firstLeaving_23 hl (k := 3) rfl (by rw [e23]; rfl) (by decide) rfl (fun ls hl => ?_)
          refine lv_goto (tgt := 2) hx hb dX5_firstLeaving_26 (by decide) ?_
          exact ih2 _ _ v23 hS (iq_up hm2 c6 e23) _ (lv_sub hl [1, 2, 3, 0] rfl)
        · skip
          refine lv_iload_n hx hb dX5_firstLeaving_21 rfl (lv_at hl 3 rfl) ?_
          exact W.iret (v := z3) hx hb hr (fun t ht hW => ⟨⟨z3, (), rfl, trivial, trivial⟩, hS.F ht⟩) hS.2.2 dX5_firstLeaving_22
  refine lv_iconst (v := 0) hx hb dX5_firstLeaving_0 (by decide) ?_
  refine lv_istore_n (lv' := [(3, .int 0), (0, .int p0), (1, .int p1), (2, .int p2)]) hx hb dX5_firstLeaving_1 rfl hl (by decide) rfl (fun ls hl => ?_)
  exact hJ2 ((2147483647 - (0 : Int32).toInt).toNat + 1) _ _ 0 hS (Nat.lt_succ_self _) _ (lv_sub hl [1, 2, 3, 0] rfl)
abbrev rmX5_residueDone : Room := { frames := 0, cells := 0, slots := 0, locals := 0 }
set_option maxHeartbeats 4000000 in
set_option maxRecDepth 100000 in
theorem k_X5_residueDone (l : Launch) (p0 : Int32) (p1 : Int32) (p2 : Int32)  : Pi_ l yX5_residueDone wsX5_residueDone rmX5_residueDone [.int p0, .int p1, .int p2] (fun _ => True) := by
  refine Met.ofW (cc := cX5_residueDone) (maxL := 3) (ret := (some .int)) (by decide) rfl ?_
  intro p e s m args below meth c s₁ B hml hv
  obtain ⟨rfl, -⟩ := hv
  have hx := B.exec
  have hb := B.bytes
  have hr := B.returns
  have hts := atoms_spec (ws := wsX5_residueDone) B.pre
  have hown : s.vm.findClass RX5 = some m.cls := findClass_of_methodNamed B.named
  have hlocks := B.notSynchronized
  have hS : va_S (fun _ => False) s.heap s.heap [] := va_S.rf
  have hl := lv_entry ([.int p0, .int p1, .int p2]) (n := 3) (Nat.le_of_ble_eq_true rfl)
  rw [lg_entry_eq]
  generalize (lg_sl ([.int p0, .int p1, .int p2]) ++ List.replicate (3 - (lg_sl ([.int p0, .int p1, .int p2])).length) Slot.unset).toArray = ls at hl ⊢
  have hl : lv_has ls 3 [(0, .int p0), (1, .int p1), (2, .int p2)] := hl
  refine lv_iload_n hx hb dX5_residueDone_0 rfl (lv_at hl 0 rfl) ?_
  rcases (show (p0.toInt < 0 ∨ 4 < p0.toInt) ∨ p0.toInt = 0 ∨ p0.toInt = 1 ∨ p0.toInt = 2 ∨ p0.toInt = 3 ∨ p0.toInt = 4 by omega) with t1 | t1 | t1 | t1 | t1 | t1
  · skip
    refine lv_tableOut (tgt := 55) hx hb dX5_residueDone_1 t1 (by decide) ?_
    refine lv_bipush (v := 8) hx hb dX5_residueDone_55 (by decide) ?_
    refine lv_iload_n hx hb dX5_residueDone_57 rfl (lv_at hl 1 rfl) ?_
    refine lv_imul hx hb dX5_residueDone_58 ?_
    refine lv_topi (fun v58 e58 => ?_)
    exact W.iret (v := v58) hx hb hr (fun t ht hW => ⟨⟨v58, (), rfl, trivial, trivial⟩, hS.F ht⟩) hS.2.2 dX5_residueDone_59
  · skip
    refine lv_tableIn (off := 35) (tgt := 36) hx hb dX5_residueDone_1 (by omega) (by omega) (by rw [t1]; rfl) (by decide) ?_
    refine lv_iload_n hx hb dX5_residueDone_36 rfl (lv_at hl 1 rfl) ?_
    refine lv_iload_n hx hb dX5_residueDone_37 rfl (lv_at hl 2 rfl) ?_
    refine lv_iadd hx hb dX5_residueDone_38 ?_
    refine lv_topi (fun v38 e38 => ?_)
    exact W.iret (v := v38) hx hb hr (fun t ht hW => ⟨⟨v38, (), rfl, trivial, trivial⟩, hS.F ht⟩) hS.2.2 dX5_residueDone_39
  · skip
    refine lv_tableIn (off := 39) (tgt := 40) hx hb dX5_residueDone_1 (by omega) (by omega) (by rw [t1]; rfl) (by decide) ?_
    refine lv_iload_n hx hb dX5_residueDone_40 rfl (lv_at hl 1 rfl) ?_
    refine lv_iload_n hx hb dX5_residueDone_41 rfl (lv_at hl 2 rfl) ?_
    refine lv_isub hx hb dX5_residueDone_42 ?_
    refine lv_topi (fun v42 e42 => ?_)
    exact W.iret (v := v42) hx hb hr (fun t ht hW => ⟨⟨v42, (), rfl, trivial, trivial⟩, hS.F ht⟩) hS.2.2 dX5_residueDone_43
  · skip
    refine lv_tableIn (off := 43) (tgt := 44) hx hb dX5_residueDone_1 (by omega) (by omega) (by rw [t1]; rfl) (by decide) ?_
    refine lv_iload_n hx hb dX5_residueDone_44 rfl (lv_at hl 1 rfl) ?_
    refine lv_iload_n hx hb dX5_residueDone_45 rfl (lv_at hl 2 rfl) ?_
    refine lv_imul hx hb dX5_residueDone_46 ?_
    refine lv_topi (fun v46 e46 => ?_)
    exact W.iret (v := v46) hx hb hr (fun t ht hW => ⟨⟨v46, (), rfl, trivial, trivial⟩, hS.F ht⟩) hS.2.2 dX5_residueDone_47
  · skip
    refine lv_tableIn (off := 47) (tgt := 48) hx hb dX5_residueDone_1 (by omega) (by omega) (by rw [t1]; rfl) (by decide) ?_
    refine lv_iload_n hx hb dX5_residueDone_48 rfl (lv_at hl 1 rfl) ?_
    refine lv_iload_n hx hb dX5_residueDone_49 rfl (lv_at hl 1 rfl) ?_
    refine lv_iadd hx hb dX5_residueDone_50 ?_
    refine lv_topi (fun v50 e50 => ?_)
    exact W.iret (v := v50) hx hb hr (fun t ht hW => ⟨⟨v50, (), rfl, trivial, trivial⟩, hS.F ht⟩) hS.2.2 dX5_residueDone_51
  · skip
    refine lv_tableIn (off := 51) (tgt := 52) hx hb dX5_residueDone_1 (by omega) (by omega) (by rw [t1]; rfl) (by decide) ?_
    refine lv_iload_n hx hb dX5_residueDone_52 rfl (lv_at hl 1 rfl) ?_
    refine lv_ineg hx hb dX5_residueDone_53 ?_
    refine lv_topi (fun v53 e53 => ?_)
    exact W.iret (v := v53) hx hb hr (fun t ht hW => ⟨⟨v53, (), rfl, trivial, trivial⟩, hS.F ht⟩) hS.2.2 dX5_residueDone_54
abbrev rmJ6_bitCount_0f7a4 : Room := { frames := 0, cells := 0, slots := 0, locals := 0 }
set_option maxHeartbeats 4000000 in
set_option maxRecDepth 100000 in
theorem k_J6_bitCount_0f7a4 (l : Launch) (p0 : Int32)  : Pi_ l yJ6_bitCount_0f7a4 wsJ6_bitCount_0f7a4 rmJ6_bitCount_0f7a4 [.int p0] (fun _ => True) := by
  refine va_MetF (cc := cJ6_bitCount_0f7a4) (maxL := 1) (ret := (some .int)) (by decide +kernel) rfl ?_
  intro p e s m args below meth c s₁ B hml hv
  obtain ⟨rfl, -⟩ := hv
  have hx := B.exec
  have hb := B.bytes
  have hr := B.returns
  have hts := atoms_spec (ws := wsJ6_bitCount_0f7a4) B.pre
  have hown : s.vm.findClass RJ6 = some m.cls := findClass_of_methodNamed B.named
  have hlocks := B.notSynchronized
  have hS : va_S (fun _ => False) s.heap s.heap [] := va_S.rf
  have hl := lv_entry ([.int p0]) (n := 1) (Nat.le_of_ble_eq_true rfl)
  rw [lg_entry_eq]
  generalize (lg_sl ([.int p0]) ++ List.replicate (1 - (lg_sl ([.int p0])).length) Slot.unset).toArray = ls at hl ⊢
  have hl : lv_has ls 1 [(0, .int p0)] := hl
  refine lv_iload_n hx hb dJ6_bitCount_0f7a4_0 rfl (lv_at hl 0 rfl) ?_
  refine lv_iload_n hx hb dJ6_bitCount_0f7a4_1 rfl (lv_at hl 0 rfl) ?_
  refine lv_iconst (v := 1) hx hb dJ6_bitCount_0f7a4_2 (by decide) ?_
  refine lv_iushr (v := ((p0 : Int32).toUInt32 >>> ((1 : Int32).toUInt32 &&& Int32.toUInt32 31)).toInt32) hx hb dJ6_bitCount_0f7a4_3 rfl ?_
  refine lv_topi (fun v3 e3 => ?_)
  refine lv_ldcw (v := 1431655765) hx hb hown (hts (.constant RJ6 265 1431655765) (by decide +kernel)) dJ6_bitCount_0f7a4_4 ?_
  refine lv_iand hx hb dJ6_bitCount_0f7a4_7 ?_
  refine lv_topi (fun v7 e7 => ?_)
  refine lv_isub hx hb dJ6_bitCount_0f7a4_8 ?_
  refine lv_topi (fun v8 e8 => ?_)
  refine lv_istore_n (lv' := [(0, .int v8)]) hx hb dJ6_bitCount_0f7a4_9 rfl hl (by decide) rfl (fun ls hl => ?_)
  refine lv_iload_n hx hb dJ6_bitCount_0f7a4_10 rfl (lv_at hl 0 rfl) ?_
  refine lv_ldcw (v := 858993459) hx hb hown (hts (.constant RJ6 266 858993459) (by decide +kernel)) dJ6_bitCount_0f7a4_11 ?_
  refine lv_iand hx hb dJ6_bitCount_0f7a4_14 ?_
  refine lv_topi (fun v14 e14 => ?_)
  refine lv_iload_n hx hb dJ6_bitCount_0f7a4_15 rfl (lv_at hl 0 rfl) ?_
  refine lv_iconst (v := 2) hx hb dJ6_bitCount_0f7a4_16 (by decide) ?_
  refine lv_iushr (v := ((v8 : Int32).toUInt32 >>> ((2 : Int32).toUInt32 &&& Int32.toUInt32 31)).toInt32) hx hb dJ6_bitCount_0f7a4_17 rfl ?_
  refine lv_topi (fun v17 e17 => ?_)
  refine lv_ldcw (v := 858993459) hx hb hown (hts (.constant RJ6 266 858993459) (by decide +kernel)) dJ6_bitCount_0f7a4_18 ?_
  refine lv_iand hx hb dJ6_bitCount_0f7a4_21 ?_
  refine lv_topi (fun v21 e21 => ?_)
  refine lv_iadd hx hb dJ6_bitCount_0f7a4_22 ?_
  refine lv_topi (fun v22 e22 => ?_)
  refine lv_istore_n (lv' := [(0, .int v22)]) hx hb dJ6_bitCount_0f7a4_23 rfl hl (by decide) rfl (fun ls hl => ?_)
  refine lv_iload_n hx hb dJ6_bitCount_0f7a4_24 rfl (lv_at hl 0 rfl) ?_
  refine lv_iload_n hx hb dJ6_bitCount_0f7a4_25 rfl (lv_at hl 0 rfl) ?_
  refine lv_iconst (v := 4) hx hb dJ6_bitCount_0f7a4_26 (by decide) ?_
  refine lv_iushr (v := ((v22 : Int32).toUInt32 >>> ((4 : Int32).toUInt32 &&& Int32.toUInt32 31)).toInt32) hx hb dJ6_bitCount_0f7a4_27 rfl ?_
  refine lv_topi (fun v27 e27 => ?_)
  refine lv_iadd hx hb dJ6_bitCount_0f7a4_28 ?_
  refine lv_topi (fun v28 e28 => ?_)
  refine lv_ldcw (v := 252645135) hx hb hown (hts (.constant RJ6 267 252645135) (by decide +kernel)) dJ6_bitCount_0f7a4_29 ?_
  refine lv_iand hx hb dJ6_bitCount_0f7a4_32 ?_
  refine lv_topi (fun v32 e32 => ?_)
  refine lv_istore_n (lv' := [(0, .int v32)]) hx hb dJ6_bitCount_0f7a4_33 rfl hl (by decide) rfl (fun ls hl => ?_)
  refine lv_iload_n hx hb dJ6_bitCount_0f7a4_34 rfl (lv_at hl 0 rfl) ?_
  refine lv_iload_n hx hb dJ6_bitCount_0f7a4_35 rfl (lv_at hl 0 rfl) ?_
  refine lv_bipush (v := 8) hx hb dJ6_bitCount_0f7a4_36 (by decide) ?_
  refine lv_iushr (v := ((v32 : Int32).toUInt32 >>> ((8 : Int32).toUInt32 &&& Int32.toUInt32 31)).toInt32) hx hb dJ6_bitCount_0f7a4_38 rfl ?_
  refine lv_topi (fun v38 e38 => ?_)
  refine lv_iadd hx hb dJ6_bitCount_0f7a4_39 ?_
  refine lv_topi (fun v39 e39 => ?_)
  refine lv_istore_n (lv' := [(0, .int v39)]) hx hb dJ6_bitCount_0f7a4_40 rfl hl (by decide) rfl (fun ls hl => ?_)
  refine lv_iload_n hx hb dJ6_bitCount_0f7a4_41 rfl (lv_at hl 0 rfl) ?_
  refine lv_iload_n hx hb dJ6_bitCount_0f7a4_42 rfl (lv_at hl 0 rfl) ?_
  refine lv_bipush (v := 16) hx hb dJ6_bitCount_0f7a4_43 (by decide) ?_
  refine lv_iushr (v := ((v39 : Int32).toUInt32 >>> ((16 : Int32).toUInt32 &&& Int32.toUInt32 31)).toInt32) hx hb dJ6_bitCount_0f7a4_45 rfl ?_
  refine lv_topi (fun v45 e45 => ?_)
  refine lv_iadd hx hb dJ6_bitCount_0f7a4_46 ?_
  refine lv_topi (fun v46 e46 => ?_)
  refine lv_istore_n (lv' := [(0, .int v46)]) hx hb dJ6_bitCount_0f7a4_47 rfl hl (by decide) rfl (fun ls hl => ?_)
  refine lv_iload_n hx hb dJ6_bitCount_0f7a4_48 rfl (lv_at hl 0 rfl) ?_
  refine lv_bipush (v := 63) hx hb dJ6_bitCount_0f7a4_49 (by decide) ?_
  refine lv_iand hx hb dJ6_bitCount_0f7a4_51 ?_
  refine lv_topi (fun v51 e51 => ?_)
  exact W.iret (v := v51) hx hb hr (fun t ht hW => ⟨⟨v51, (), rfl, trivial, trivial⟩, hS.F ht⟩) hS.2.2 dJ6_bitCount_0f7a4_52
abbrev rmX5_digitsNotZero : Room := { frames := 1, cells := 0, slots := 0, locals := 20 }
set_option maxHeartbeats 4000000 in
set_option maxRecDepth 100000 in
theorem k_X5_digitsNotZero (l : Launch) (p0 : Int32)  : Pi_ l yX5_digitsNotZero wsX5_digitsNotZero rmX5_digitsNotZero [.int p0] (fun _ => True) := by
  refine Met.ofW (cc := cX5_digitsNotZero) (maxL := 1) (ret := (some .int)) (by decide) rfl ?_
  intro p e s m args below meth c s₁ B hml hv
  obtain ⟨rfl, -⟩ := hv
  have hx := B.exec
  have hb := B.bytes
  have hr := B.returns
  have hts := atoms_spec (ws := wsX5_digitsNotZero) B.pre
  have hown : s.vm.findClass RX5 = some m.cls := findClass_of_methodNamed B.named
  have hlocks := B.notSynchronized
  have hS : va_S (fun _ => False) s.heap s.heap [] := va_S.rf
  have hl := lv_entry ([.int p0]) (n := 1) (Nat.le_of_ble_eq_true rfl)
  rw [lg_entry_eq]
  generalize (lg_sl ([.int p0]) ++ List.replicate (1 - (lg_sl ([.int p0])).length) Slot.unset).toArray = ls at hl ⊢
  have hl : lv_has ls 1 [(0, .int p0)] := hl
  refine lv_iload_n hx hb dX5_digitsNotZero_0 rfl (lv_at hl 0 rfl) ?_
  refine lv_iconst (v := 3) hx hb dX5_digitsNotZero_1 (by decide) ?_
  refine lv_iload_n hx hb dX5_digitsNotZero_2 rfl (lv_at hl 0 rfl) ?_
  refine lv_imul hx hb dX5_digitsNotZero_3 ?_
  refine lv_topi (fun v3 e3 => ?_)
  refine lv_ixor hx hb dX5_digitsNotZero_4 ?_
  refine lv_topi (fun v4 e4 => ?_)
  refine p_i (va_runS (As := [.int v4]) (rest := []) ⟨hx, hb, hml, hown, hts⟩ (k_J6_bitCount_0f7a4 l v4) (va_cwS 1 hts gX5_digitsNotZero_J6_bitCount_0f7a4 rfl rfl rfl (by decide +kernel) ⟨Nat.le_of_ble_eq_true rfl, Nat.le_of_ble_eq_true rfl⟩) (pPreS) rfl rfl hl.1 rfl (lv_room (Nat.le_of_ble_eq_true rfl)) dX5_digitsNotZero_5 ⟨Nat.le_of_ble_eq_true rfl, Nat.le_of_ble_eq_true rfl⟩) hS (fun r5 H locs hp5 hS => ?_)
  exact W.iret (v := r5) hx hb hr (fun t ht hW => ⟨⟨r5, (), rfl, trivial, trivial⟩, hS.F ht⟩) hS.2.2 dX5_digitsNotZero_8
abbrev rmX5_lightestMultiple : Room := { frames := 2, cells := 0, slots := 0, locals := 40 }
set_option maxHeartbeats 4000000 in
set_option maxRecDepth 100000 in
theorem k_X5_lightestMultiple (l : Launch) (p0 : Int32) (p1 : Int32) (p2 : Int32) (ha1 : 3 ≤ p0.toInt) (ha2 : p0.toInt ≤ 199) (hw1 : 4 ≤ p1.toInt) (hw2 : p1.toInt ≤ 16) : Pi_ l yX5_lightestMultiple wsX5_lightestMultiple rmX5_lightestMultiple [.int p0, .int p1, .int p2] (fun _ => True) := by
  refine Met.ofW (cc := cX5_lightestMultiple) (maxL := 7) (ret := (some .int)) (by decide) rfl ?_
  intro p e s m args below meth c s₁ B hml hv
  obtain ⟨rfl, -⟩ := hv
  have hx := B.exec
  have hb := B.bytes
  have hr := B.returns
  have hts := atoms_spec (ws := wsX5_lightestMultiple) B.pre
  have hown : s.vm.findClass RX5 = some m.cls := findClass_of_methodNamed B.named
  have hlocks := B.notSynchronized
  have hS : va_S (fun _ => False) s.heap s.heap [] := va_S.rf
  have hl := lv_entry ([.int p0, .int p1, .int p2]) (n := 7) (Nat.le_of_ble_eq_true rfl)
  rw [lg_entry_eq]
  generalize (lg_sl ([.int p0, .int p1, .int p2]) ++ List.replicate (7 - (lg_sl ([.int p0, .int p1, .int p2])).length) Slot.unset).toArray = ls at hl ⊢
  have hl : lv_has ls 7 [(0, .int p0), (1, .int p1), (2, .int p2)] := hl
  have hJ11 : ∀ (n11 : Nat) (H : Heap) (locs : List Loc) (z3 : Int32) (z4 : Int32) (z5 : Int32), (va_S (fun _ => False) s.heap H locs) → (z3.toInt ≤ 65536) → ((2147483647 - z5.toInt).toNat < n11) → ∀ (ls : Array Slot), lv_has ls 7 [(0, .int p0), (2, .int p2), (3, .int z3), (4, .int z4), (5, .int z5)] → W p l e rmX5_lightestMultiple s m [.int p0, .int p1, .int p2].toArray below meth c H locs 0 0 (MQ below (va_Qi (fun (r : Int32) (_ : Unit) => (fun _ => True) r) (fun _ _ => True) (fun _ => False)) [.int p0, .int p1, .int p2].toArray s 0 0 (fun _ => False)) (F0 m 11 ls []) := by
    intro n11
    induction n11 with
    | zero =>
      intro H locs z3 z4 z5 hS i11_0 hm11 ls hl
      exact absurd hm11 (Nat.not_lt_zero _)
    | succ n11 ih11 =>
      intro H locs z3 z4 z5 hS i11_0 hm11 ls hl
      have hJ47 : ∀ (H : Heap) (locs : List Loc) (z4 : Int32), (va_S (fun _ => False) s.heap H locs) → (¬ z3 ≤ z5) → ∀ (ls : Array Slot), lv_has ls 7 [(0, .int p0), (2, .int p2), (3, .int z3), (4, .int z4), (5, .int z5)] → W p l e rmX5_lightestMultiple s m [.int p0, .int p1, .int p2].toArray below meth c H locs 0 0 (MQ below (va_Qi (fun (r : Int32) (_ : Unit) => (fun _ => True) r) (fun _ _ => True) (fun _ => False)) [.int p0, .int p1, .int p2].toArray s 0 0 (fun _ => False)) (F0 m 47 ls []) := by
        intro H locs z4 hS i47_0 ls hl
        refine lv_iload hx hb dX5_lightestMultiple_47 (lv_at hl 3 rfl) ?_
        refine lv_iload_n hx hb dX5_lightestMultiple_49 rfl (lv_at hl 1 rfl) ?_
        refine lv_icmp_gt (tgt := 56) hx hb dX5_lightestMultiple_50 (by decide) (fun c50 => ?_) (fun c50 => ?_)
        · skip
          refine lv_iload hx hb dX5_lightestMultiple_56 (lv_at hl 4 rfl) ?_
          refine lv_iconst (v := 2) hx hb dX5_lightestMultiple_58 (by decide) ?_
          refine lv_iload_n hx hb dX5_lightestMultiple_59 rfl (lv_at hl 0 rfl) ?_
          refine lv_imul hx hb dX5_lightestMultiple_60 ?_
          refine lv_topi (fun v60 e60 => ?_)
          refine lv_iadd hx hb dX5_lightestMultiple_61 ?_
          refine lv_topi (fun v61 e61 => ?_)
          refine lv_istore (lv' := [(5, .int v61), (0, .int p0), (2, .int p2), (3, .int z3), (4, .int z4)]) hx hb dX5_lightestMultiple_62 hl (by decide) rfl (fun ls hl => ?_)
          refine lv_goto (tgt := 11) hx hb dX5_lightestMultiple_64 (by decide) ?_
          exact ih11 _ _ z3 z4 v61 hS (by first | exact i11_0 | (rw [e2]; exact (iq_end hw1 hw2).1)) (by rw [iq_le] at i47_0; have h2 := iq_mul2 (by omega) (by omega) e60; have h3 := iq_lo z5; rw [e61, iq_add (by omega) (by omega)]; omega) _ (lv_sub hl [1, 2, 3, 4, 0] rfl)
        · skip
          refine lv_iload hx hb dX5_lightestMultiple_53 (lv_at hl 3 rfl) ?_
          exact W.iret (v := z4) hx hb hr (fun t ht hW => ⟨⟨z4, (), rfl, trivial, trivial⟩, hS.F ht⟩) hS.2.2 dX5_lightestMultiple_55
      refine lv_iload hx hb dX5_lightestMultiple_11 (lv_at hl 4 rfl) ?_
      refine lv_if_le (tgt := 67) hx hb dX5_lightestMultiple_13 (by decide) (fun c13 => ?_) (fun c13 => ?_)
      · skip
        refine lv_iload hx hb dX5_lightestMultiple_67 (lv_at hl 3 rfl) ?_
        exact W.iret (v := z4) hx hb hr (fun t ht hW => ⟨⟨z4, (), rfl, trivial, trivial⟩, hS.F ht⟩) hS.2.2 dX5_lightestMultiple_69
      · skip
        refine lv_iload hx hb dX5_lightestMultiple_16 (lv_at hl 4 rfl) ?_
        refine lv_iload_n hx hb dX5_lightestMultiple_18 rfl (lv_at hl 2 rfl) ?_
        refine lv_icmp_ge (tgt := 67) hx hb dX5_lightestMultiple_19 (by decide) (fun c19 => ?_) (fun c19 => ?_)
        · skip
          refine lv_iload hx hb dX5_lightestMultiple_67 (lv_at hl 3 rfl) ?_
          exact W.iret (v := z4) hx hb hr (fun t ht hW => ⟨⟨z4, (), rfl, trivial, trivial⟩, hS.F ht⟩) hS.2.2 dX5_lightestMultiple_69
        · skip
          refine lv_iload hx hb dX5_lightestMultiple_22 (lv_at hl 4 rfl) ?_
          refine p_i (va_runS (As := [.int z5]) (rest := []) ⟨hx, hb, hml, hown, hts⟩ (k_X5_digitsNotZero l z5) (va_cwS 1 hts gX5_lightestMultiple_X5_digitsNotZero rfl rfl rfl (by decide +kernel) ⟨Nat.le_of_ble_eq_true rfl, Nat.le_of_ble_eq_true rfl⟩) (pPreS) rfl rfl hl.1 rfl (lv_room (Nat.le_of_ble_eq_true rfl)) dX5_lightestMultiple_24 ⟨Nat.le_of_ble_eq_true rfl, Nat.le_of_ble_eq_true rfl⟩) hS (fun r24 H locs hp24 hS => ?_)
          refine lv_istore (lv' := [(6, .int r24), (0, .int p0), (2, .int p2), (3, .int z3), (4, .int z4), (5, .int z5)]) hx hb dX5_lightestMultiple_27 hl (by decide) rfl (fun ls hl => ?_)
          refine lv_iload hx hb dX5_lightestMultiple_29 (lv_at hl 4 rfl) ?_
          refine lv_ldc (v := (-1000000)) hx hb hown (hts (.constant RX5 134 (-1000000)) (by decide +kernel)) dX5_lightestMultiple_31 ?_
          refine lv_icmp_eq (tgt := 43) hx hb dX5_lightestMultiple_33 (by decide) (fun c33 => ?_) (fun c33 => ?_)
          · skip
            refine lv_iload hx hb dX5_lightestMultiple_43 (lv_at hl 0 rfl) ?_
            refine lv_istore (lv' := [(4, .int r24), (6, .int r24), (0, .int p0), (2, .int p2), (3, .int z3), (5, .int z5)]) hx hb dX5_lightestMultiple_45 hl (by decide) rfl (fun ls hl => ?_)
            exact hJ47 _ _ r24 hS (c19) _ (lv_sub hl [2, 3, 4, 0, 5] rfl)
          · skip
            refine lv_iload hx hb dX5_lightestMultiple_36 (lv_at hl 0 rfl) ?_
            refine lv_iload hx hb dX5_lightestMultiple_38 (lv_at hl 4 rfl) ?_
            refine lv_icmp_ge (tgt := 47) hx hb dX5_lightestMultiple_40 (by decide) (fun c40 => ?_) (fun c40 => ?_)
            · skip
              exact hJ47 _ _ z4 hS (c19) _ (lv_sub hl [1, 2, 3, 4, 5] rfl)
            · skip
              refine lv_iload hx hb dX5_lightestMultiple_43 (lv_at hl 0 rfl) ?_
              refine lv_istore (lv' := [(4, .int r24), (6, .int r24), (0, .int p0), (2, .int p2), (3, .int z3), (5, .int z5)]) hx hb dX5_lightestMultiple_45 hl (by decide) rfl (fun ls hl => ?_)
              exact hJ47 _ _ r24 hS (c19) _ (lv_sub hl [2, 3, 4, 0, 5] rfl)
  refine lv_iconst (v := 1) hx hb dX5_lightestMultiple_0 (by decide) ?_
  refine lv_iload_n hx hb dX5_lightestMultiple_1 rfl (lv_at hl 1 rfl) ?_
  refine lv_ishl hx hb dX5_lightestMultiple_2 ?_
  refine lv_topi (fun v2 e2 => ?_)
  refine lv_istore_n (lv' := [(3, .int v2), (0, .int p0), (1, .int p1), (2, .int p2)]) hx hb dX5_lightestMultiple_3 rfl hl (by decide) rfl (fun ls hl => ?_)
  refine lv_ldc (v := (-1000000)) hx hb hown (hts (.constant RX5 134 (-1000000)) (by decide +kernel)) dX5_lightestMultiple_4 ?_
  refine lv_istore (lv' := [(4, .int (-1000000)), (3, .int v2), (0, .int p0), (1, .int p1), (2, .int p2)]) hx hb dX5_lightestMultiple_6 hl (by decide) rfl (fun ls hl => ?_)
  refine lv_iload_n hx hb dX5_lightestMultiple_8 rfl (lv_at hl 2 rfl) ?_
  refine lv_istore (lv' := [(5, .int p0), (4, .int (-1000000)), (3, .int v2), (0, .int p0), (1, .int p1), (2, .int p2)]) hx hb dX5_lightestMultiple_9 hl (by decide) rfl (fun ls hl => ?_)
  exact hJ11 ((2147483647 - p0.toInt).toNat + 1) _ _ v2 ((-1000000)) p0 hS (by first | exact i11_0 | (rw [e2]; exact (iq_end hw1 hw2).1)) (Nat.lt_succ_self _) _ (lv_sub hl [3, 5, 2, 1, 0] rfl)

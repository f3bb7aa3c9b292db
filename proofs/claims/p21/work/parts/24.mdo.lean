abbrev rmX6_notes : Room := { frames := 0, cells := 0, slots := 0, locals := 0 }
set_option maxHeartbeats 4000000 in
set_option maxRecDepth 100000 in
theorem k_X6_notes (l : Launch) {K : Cx} {a : Nat → Nat} {th um sm : Int32} {sA uA kA iA wA fA cA : Nat → Int32} {yA tA : Nat → Int64} (hM : MI K (th, um, sm, sA, uA, kA, iA, wA, fA, cA, yA, tA)) (sz : Nat)   : Mv l K yX6_notes wsX6_notes rmX6_notes [.ref (a 0)] a (th, um, sm, sA, uA, kA, iA, wA, fA, cA, yA, tA) sz (fun u => u.2.2.2.1 = sA) := by
  refine Met.ofW (cc := cX6_notes) (maxL := 2) (ret := none) (by decide) rfl ?_
  intro p e s m args below meth c s₁ B hml hv
  obtain ⟨rfl, hsz, hP, hK, hD0, hN⟩ := hv
  have hx := B.exec
  have hb := B.bytes
  have hr := B.returns
  have hts := atoms_spec (ws := wsX6_notes) B.pre
  have hown : s.vm.findClass RX6 = some m.cls := findClass_of_methodNamed B.named
  have hlocks := B.notSynchronized
  have hinX6 : ∀ w ∈ wsX60, w ∈ wsX6_notes := by decide +kernel
  subst hsz
  have hD := hD0.self (sz := s.heap.size)
  generalize hAe : va_A (mZ K a (th, um, sm, sA, uA, kA, iA, wA, fA, cA, yA, tA)) s.heap.size = A at hD ⊢
  have hA : ∀ q : Nat, s.heap.size ≤ q → A q := fun q h => by rw [← hAe]; exact Or.inr h
  have hS : va_S A s.heap s.heap [] := va_S.rf
  have hP : va_P K.1 vwCl (mW K a th um sm sA uA kA iA wA fA cA yA tA) s.heap := hP
  have hD : va_D A (mW K a th um sm sA uA kA iA wA fA cA yA tA) := hD
  have hMS : okS sA := hM.1
  have hMU : okU um := hM.2.1
  have hMM : okM sm := hM.2.2.1
  have hMR : okR um uA := hM.2.2.2.1
  have hMK : okK kA iA := hM.2.2.2.2.1
  have hMZ : okZ K sm wA fA := hM.2.2.2.2.2
  have hl := lv_entry ([.ref (a 0)]) (n := 2) (Nat.le_of_ble_eq_true rfl)
  rw [lg_entry_eq]
  generalize (lg_sl ([.ref (a 0)]) ++ List.replicate (2 - (lg_sl ([.ref (a 0)])).length) Slot.unset).toArray = ls at hl ⊢
  have hl : lv_has ls 2 [(0, .ref (a 0))] := hl
  have hJ46 : ∀ (n46 : Nat) (umL : Int32) (uL : Nat → Int32) (H : Heap) (locs : List Loc) (zq1 : Int32), (va_P K.1 vwCl (mW K a th umL sm sA uL kA iA wA fA cA yA tA) H) → (va_D A (mW K a th umL sm sA uL kA iA wA fA cA yA tA)) → (va_S A s.heap H locs) → (okS sA) → (okU umL) → (okM sm) → (okK kA iA) → (okZ K sm wA fA) → (0 ≤ zq1.toInt ∧ zq1.toInt ≤ 10) → (0 ≤ umL.toInt ∧ umL.toInt ≤ 11) → (∃ uq0 : Nat → Int32, okR umL uq0 ∧ uL = cpd uq0 sA (10 * umL.toInt.toNat) zq1.toInt.toNat) → ((2147483647 - zq1.toInt).toNat < n46) → ∀ (ls : Array Slot), lv_has ls 2 [(0, .ref (a 0)), (1, .int zq1)] → W p l e rmX6_notes s m [.ref (a 0)].toArray below meth c H locs 0 0 (MQ below (va_Qv (fun (u : MZ) => (fun u => u.2.2.2.1 = sA) u ∧ MI (K) u) (fun u t => va_P K.1 vwCl (mZ K a u) t.heap ∧ va_D A (mZ K a u)) A) [.ref (a 0)].toArray s 0 0 A) (F0 m 46 ls []) := by
    intro n46
    induction n46 with
    | zero =>
      intro umL uL H locs zq1 hP hD hS hMS hMU hMM hMK hMZ i46_0 i46_1 i46_2 hm46 ls hl
      exact absurd hm46 (Nat.not_lt_zero _)
    | succ n46 ih46 =>
      intro umL uL H locs zq1 hP hD hS hMS hMU hMM hMK hMZ i46_0 i46_1 i46_2 hm46 ls hl
      refine lv_iload_n hx hb dX6_notes_46 rfl (lv_at hl 1 rfl) ?_
      refine lv_bipush (v := 10) hx hb dX6_notes_47 (by decide) ?_
      refine lv_icmp_ge (tgt := 78) hx hb dX6_notes_49 (by decide) (fun cq49 => ?_) (fun cq49 => ?_)
      · skip
        refine lv_aload_n hx hb dX6_notes_78 rfl (lv_at hl 0 rfl) ?_
        refine lv_dup hx hb dX6_notes_79 rfl ?_
        refine va_get (D := K.1) (ci := 6) (v := .int umL) (C := RX6) (T := TX6) (N := 12) hx hb hts hinX6 hown hK hP 0 rfl rfl 3 (by decide) (hts (.fieldLink RX6 65 "CodedWordsModel" "undoMany" "I") (by decide +kernel)) (fun _ h9 => h9) rfl dX6_notes_80 ?_
        refine lv_iconst (v := 1) hx hb dX6_notes_83 (by decide) ?_
        refine lv_iadd hx hb dX6_notes_84 ?_
        refine lv_topi (fun vq84 eq84 => ?_)
        refine va_put (D := K.1) (ci := 6) (v := .int vq84) (ty := .int) (C := RX6) (T := TX6) (N := 12) hx hb hts hinX6 tyX6 tyX6_ok nmX6 hown hK hP hD hS 0 rfl rfl 3 (by decide) (hts (.fieldLink RX6 65 "CodedWordsModel" "undoMany" "I") (by decide +kernel)) (fun _ h9 => h9) rfl (by decide +kernel) rfl rfl (Nat.le_of_ble_eq_true rfl) dX6_notes_85 (fun H locs hP hD hS => ?_)
        have hP : va_P K.1 vwCl (mW K a th vq84 sm sA uL kA iA wA fA cA yA tA) H := hP
        have hD : va_D A (mW K a th vq84 sm sA uL kA iA wA fA cA yA tA) := hD
        have hMU : okU vq84 := ⟨by have h := iq_add1 eq84 (by omega); omega, by have h := iq_add1 eq84 (by omega); omega⟩
        have hMR : okR vq84 uL := by obtain ⟨uq0, h1, h2⟩ := i46_2; exact h1.note hMS i46_1.1 i46_1.2 cq49 i46_0.2 h2 eq84
        exact W.vret hx hb hr (fun t ht hW => ⟨⟨(th, vq84, sm, sA, uL, kA, iA, wA, fA, cA, yA, tA), rfl, ⟨rfl, ⟨hMS, hMU, hMM, hMR, hMK, hMZ⟩⟩, by rw [ht]; exact hP, hD⟩, hS.F ht⟩) hS.2.2 dX6_notes_88
      · skip
        refine lv_aload_n hx hb dX6_notes_52 rfl (lv_at hl 0 rfl) ?_
        refine va_get (D := K.1) (ci := 6) (v := .ref (a 2)) (C := RX6) (T := TX6) (N := 12) hx hb hts hinX6 hown hK hP 0 rfl rfl 2 (by decide) (hts (.fieldLink RX6 13 "CodedWordsModel" "undos" "[I") (by decide +kernel)) (fun _ h9 => h9) rfl dX6_notes_53 ?_
        refine lv_bipush (v := 10) hx hb dX6_notes_56 (by decide) ?_
        refine lv_aload_n hx hb dX6_notes_58 rfl (lv_at hl 0 rfl) ?_
        refine va_get (D := K.1) (ci := 6) (v := .int umL) (C := RX6) (T := TX6) (N := 12) hx hb hts hinX6 hown hK hP 0 rfl rfl 3 (by decide) (hts (.fieldLink RX6 65 "CodedWordsModel" "undoMany" "I") (by decide +kernel)) (fun _ h9 => h9) rfl dX6_notes_59 ?_
        refine lv_imul hx hb dX6_notes_62 ?_
        refine lv_topi (fun vq62 eq62 => ?_)
        refine lv_iload_n hx hb dX6_notes_63 rfl (lv_at hl 1 rfl) ?_
        refine lv_iadd hx hb dX6_notes_64 ?_
        refine lv_topi (fun vq64 eq64 => ?_)
        refine lv_aload_n hx hb dX6_notes_65 rfl (lv_at hl 0 rfl) ?_
        refine va_get (D := K.1) (ci := 6) (v := .ref (a 1)) (C := RX6) (T := TX6) (N := 12) hx hb hts hinX6 hown hK hP 0 rfl rfl 1 (by decide) (hts (.fieldLink RX6 7 "CodedWordsModel" "s" "[I") (by decide +kernel)) (fun _ h9 => h9) rfl dX6_notes_66 ?_
        refine lv_iload_n hx hb dX6_notes_69 rfl (lv_at hl 1 rfl) ?_
        refine va_iald hx hb hK hP 1 0 rfl rfl (iq_inr i46_0.1 cq49 (by decide)) dX6_notes_70 ?_
        refine lv_topi (fun vq70 eq70 => ?_)
        refine va_iast hx hb hK hP hD hS 2 0 rfl rfl (by have h := iq_ten i46_1.1 (by omega) i46_0.1 cq49 eq62 eq64; rw [iq_le] at cq49; have h9 : ¬ (10 : Int) ≤ zq1.toInt := cq49; have h8 := i46_0.1; have h7 := i46_1.1; have h6 := i46_1.2; exact iq_in (by omega) (by omega)) dX6_notes_71 (fun H locs hP hD hS => ?_)
        have hP : va_P K.1 vwCl (mW K a th umL sm sA (upd uL (vq64 : Int32).toNatClampNeg vq70) kA iA wA fA cA yA tA) H := hP
        have hD : va_D A (mW K a th umL sm sA (upd uL (vq64 : Int32).toNatClampNeg vq70) kA iA wA fA cA yA tA) := hD
        generalize en71 : upd uL (vq64 : Int32).toNatClampNeg vq70 = uN71 at hP hD
        obtain ⟨vq72, eq72⟩ : ∃ y : Int32, y = zq1 + 1 := ⟨_, rfl⟩
        refine lv_iinc (v := vq72) (lv' := [(1, .int vq72), (0, .ref (a 0))]) hx hb dX6_notes_72 hl (k := 1) rfl (by rw [eq72]; rfl) (by decide) rfl (fun ls hl => ?_)
        refine lv_goto (tgt := 46) hx hb dX6_notes_75 (by decide) ?_
        exact ih46 umL uN71 _ _ vq72 hP hD hS hMS hMU hMM hMK hMZ (by first | exact ⟨by decide, by decide⟩ | (rw [iq_le] at cq49; have h9 : ¬ (10 : Int) ≤ zq1.toInt := cq49; have h := iq_add1 eq72 (by omega); exact ⟨by omega, by omega⟩)) (by first | exact i46_1 | exact ⟨by decide, by decide⟩ | exact ⟨hMU.1, by have h : um.toInt ≠ 12 := (fun q => cq6 (iq_eq.mpr q)); have h2 := hMU.2; omega⟩) (by first | exact ⟨_, hMR, cpd_0⟩ | (obtain ⟨uq0, h1, h2⟩ := i46_2; exact ⟨uq0, h1, cpd_step i46_0.1 cq49 h2 (iq_ten i46_1.1 (by omega) i46_0.1 cq49 eq62 eq64) eq70 en71 eq72⟩)) (iq_up hm46 cq49 eq72) _ (lv_sub hl [1, 0] rfl)
  have hJ11 : ∀ (n11 : Nat) (uL : Nat → Int32) (H : Heap) (locs : List Loc) (zq1 : Int32), (va_P K.1 vwCl (mW K a th um sm sA uL kA iA wA fA cA yA tA) H) → (va_D A (mW K a th um sm sA uL kA iA wA fA cA yA tA)) → (va_S A s.heap H locs) → (okS sA) → (okU um) → (okM sm) → (okK kA iA) → (okZ K sm wA fA) → (0 ≤ zq1.toInt ∧ zq1.toInt ≤ 110) → (uL = shf uA zq1.toInt.toNat) → (um = 12) → ((2147483647 - zq1.toInt).toNat < n11) → ∀ (ls : Array Slot), lv_has ls 2 [(0, .ref (a 0)), (1, .int zq1)] → W p l e rmX6_notes s m [.ref (a 0)].toArray below meth c H locs 0 0 (MQ below (va_Qv (fun (u : MZ) => (fun u => u.2.2.2.1 = sA) u ∧ MI (K) u) (fun u t => va_P K.1 vwCl (mZ K a u) t.heap ∧ va_D A (mZ K a u)) A) [.ref (a 0)].toArray s 0 0 A) (F0 m 11 ls []) := by
    intro n11
    induction n11 with
    | zero =>
      intro uL H locs zq1 hP hD hS hMS hMU hMM hMK hMZ i11_0 i11_1 i11_2 hm11 ls hl
      exact absurd hm11 (Nat.not_lt_zero _)
    | succ n11 ih11 =>
      intro uL H locs zq1 hP hD hS hMS hMU hMM hMK hMZ i11_0 i11_1 i11_2 hm11 ls hl
      refine lv_iload_n hx hb dX6_notes_11 rfl (lv_at hl 1 rfl) ?_
      refine lv_bipush (v := 110) hx hb dX6_notes_12 (by decide) ?_
      refine lv_icmp_ge (tgt := 38) hx hb dX6_notes_14 (by decide) (fun cq14 => ?_) (fun cq14 => ?_)
      · skip
        refine lv_aload_n hx hb dX6_notes_38 rfl (lv_at hl 0 rfl) ?_
        refine lv_bipush (v := 11) hx hb dX6_notes_39 (by decide) ?_
        refine va_put (D := K.1) (ci := 6) (v := .int 11) (ty := .int) (C := RX6) (T := TX6) (N := 12) hx hb hts hinX6 tyX6 tyX6_ok nmX6 hown hK hP hD hS 0 rfl rfl 3 (by decide) (hts (.fieldLink RX6 65 "CodedWordsModel" "undoMany" "I") (by decide +kernel)) (fun _ h9 => h9) rfl (by decide +kernel) rfl rfl (Nat.le_of_ble_eq_true rfl) dX6_notes_41 (fun H locs hP hD hS => ?_)
        have hP : va_P K.1 vwCl (mW K a th 11 sm sA uL kA iA wA fA cA yA tA) H := hP
        have hD : va_D A (mW K a th 11 sm sA uL kA iA wA fA cA yA tA) := hD
        have hMU : okU 11 := ⟨by decide, by decide⟩
        have hMR : okR 11 uL := okR.shift hMR i11_2 rfl cq14 i11_0.2 i11_1
        refine lv_iconst (v := 0) hx hb dX6_notes_44 (by decide) ?_
        refine lv_istore_n (lv' := [(1, .int 0), (0, .ref (a 0))]) hx hb dX6_notes_45 rfl hl (by decide) rfl (fun ls hl => ?_)
        exact hJ46 ((2147483647 - (0 : Int32).toInt).toNat + 1) 11 uL _ _ 0 hP hD hS hMS hMU hMM hMK hMZ (by first | exact ⟨by decide, by decide⟩ | (rw [iq_le] at cq49; have h9 : ¬ (10 : Int) ≤ zq1.toInt := cq49; have h := iq_add1 eq72 (by omega); exact ⟨by omega, by omega⟩)) (by first | exact i46_1 | exact ⟨by decide, by decide⟩ | exact ⟨hMU.1, by have h : um.toInt ≠ 12 := (fun q => cq6 (iq_eq.mpr q)); have h2 := hMU.2; omega⟩) (by first | exact ⟨_, hMR, cpd_0⟩ | (obtain ⟨uq0, h1, h2⟩ := i46_2; exact ⟨uq0, h1, cpd_step i46_0.1 cq49 h2 (iq_ten i46_1.1 (by omega) i46_0.1 cq49 eq62 eq64) eq70 en71 eq72⟩)) (Nat.lt_succ_self _) _ (lv_sub hl [1, 0] rfl)
      · skip
        refine lv_aload_n hx hb dX6_notes_17 rfl (lv_at hl 0 rfl) ?_
        refine va_get (D := K.1) (ci := 6) (v := .ref (a 2)) (C := RX6) (T := TX6) (N := 12) hx hb hts hinX6 hown hK hP 0 rfl rfl 2 (by decide) (hts (.fieldLink RX6 13 "CodedWordsModel" "undos" "[I") (by decide +kernel)) (fun _ h9 => h9) rfl dX6_notes_18 ?_
        refine lv_iload_n hx hb dX6_notes_21 rfl (lv_at hl 1 rfl) ?_
        refine lv_aload_n hx hb dX6_notes_22 rfl (lv_at hl 0 rfl) ?_
        refine va_get (D := K.1) (ci := 6) (v := .ref (a 2)) (C := RX6) (T := TX6) (N := 12) hx hb hts hinX6 hown hK hP 0 rfl rfl 2 (by decide) (hts (.fieldLink RX6 13 "CodedWordsModel" "undos" "[I") (by decide +kernel)) (fun _ h9 => h9) rfl dX6_notes_23 ?_
        refine lv_iload_n hx hb dX6_notes_26 rfl (lv_at hl 1 rfl) ?_
        refine lv_bipush (v := 10) hx hb dX6_notes_27 (by decide) ?_
        refine lv_iadd hx hb dX6_notes_29 ?_
        refine lv_topi (fun vq29 eq29 => ?_)
        refine va_iald hx hb hK hP 2 0 rfl rfl (by rw [iq_le] at cq14; have h9 : ¬ (110 : Int) ≤ zq1.toInt := cq14; have h8 := i11_0.1; have h : vq29.toInt = zq1.toInt + 10 := (by rw [eq29, iq_add (by show _ ≤ zq1.toInt + 10; omega) (by show zq1.toInt + 10 < _; omega)]; rfl); exact iq_in (by omega) (by omega)) dX6_notes_30 ?_
        refine lv_topi (fun vq30 eq30 => ?_)
        refine va_iast hx hb hK hP hD hS 2 0 rfl rfl (iq_inr i11_0.1 cq14 (by decide)) dX6_notes_31 (fun H locs hP hD hS => ?_)
        have hP : va_P K.1 vwCl (mW K a th um sm sA (upd uL (zq1 : Int32).toNatClampNeg vq30) kA iA wA fA cA yA tA) H := hP
        have hD : va_D A (mW K a th um sm sA (upd uL (zq1 : Int32).toNatClampNeg vq30) kA iA wA fA cA yA tA) := hD
        generalize en31 : upd uL (zq1 : Int32).toNatClampNeg vq30 = uN31 at hP hD
        obtain ⟨vq32, eq32⟩ : ∃ y : Int32, y = zq1 + 1 := ⟨_, rfl⟩
        refine lv_iinc (v := vq32) (lv' := [(1, .int vq32), (0, .ref (a 0))]) hx hb dX6_notes_32 hl (k := 1) rfl (by rw [eq32]; rfl) (by decide) rfl (fun ls hl => ?_)
        refine lv_goto (tgt := 11) hx hb dX6_notes_35 (by decide) ?_
        exact ih11 uN31 _ _ vq32 hP hD hS hMS hMU hMM hMK hMZ (by first | exact ⟨by decide, by decide⟩ | (rw [iq_le] at cq14; have h9 : ¬ (110 : Int) ≤ zq1.toInt := cq14; have h := iq_add1 eq32 (by omega); exact ⟨by omega, by omega⟩)) (by first | exact shf_0 | exact shf_step i11_0.1 cq14 i11_1 eq29 eq30 en31 eq32) (by first | exact i11_2 | exact cq6) (iq_up hm11 cq14 eq32) _ (lv_sub hl [1, 0] rfl)
  refine lv_aload_n hx hb dX6_notes_0 rfl (lv_at hl 0 rfl) ?_
  refine va_get (D := K.1) (ci := 6) (v := .int um) (C := RX6) (T := TX6) (N := 12) hx hb hts hinX6 hown hK hP 0 rfl rfl 3 (by decide) (hts (.fieldLink RX6 65 "CodedWordsModel" "undoMany" "I") (by decide +kernel)) (fun _ h9 => h9) rfl dX6_notes_1 ?_
  refine lv_bipush (v := 12) hx hb dX6_notes_4 (by decide) ?_
  refine lv_icmp_ne (tgt := 44) hx hb dX6_notes_6 (by decide) (fun cq6 => ?_) (fun cq6 => ?_)
  · skip
    refine lv_iconst (v := 0) hx hb dX6_notes_44 (by decide) ?_
    refine lv_istore_n (lv' := [(1, .int 0), (0, .ref (a 0))]) hx hb dX6_notes_45 rfl hl (by decide) rfl (fun ls hl => ?_)
    exact hJ46 ((2147483647 - (0 : Int32).toInt).toNat + 1) um uA _ _ 0 hP hD hS hMS hMU hMM hMK hMZ (by first | exact ⟨by decide, by decide⟩ | (rw [iq_le] at cq49; have h9 : ¬ (10 : Int) ≤ zq1.toInt := cq49; have h := iq_add1 eq72 (by omega); exact ⟨by omega, by omega⟩)) (by first | exact i46_1 | exact ⟨by decide, by decide⟩ | exact ⟨hMU.1, by have h : um.toInt ≠ 12 := (fun q => cq6 (iq_eq.mpr q)); have h2 := hMU.2; omega⟩) (by first | exact ⟨_, hMR, cpd_0⟩ | (obtain ⟨uq0, h1, h2⟩ := i46_2; exact ⟨uq0, h1, cpd_step i46_0.1 cq49 h2 (iq_ten i46_1.1 (by omega) i46_0.1 cq49 eq62 eq64) eq70 en71 eq72⟩)) (Nat.lt_succ_self _) _ (lv_sub hl [1, 0] rfl)
  · skip
    refine lv_iconst (v := 0) hx hb dX6_notes_9 (by decide) ?_
    refine lv_istore_n (lv' := [(1, .int 0), (0, .ref (a 0))]) hx hb dX6_notes_10 rfl hl (by decide) rfl (fun ls hl => ?_)
    exact hJ11 ((2147483647 - (0 : Int32).toInt).toNat + 1) uA _ _ 0 hP hD hS hMS hMU hMM hMK hMZ (by first | exact ⟨by decide, by decide⟩ | (rw [iq_le] at cq14; have h9 : ¬ (110 : Int) ≤ zq1.toInt := cq14; have h := iq_add1 eq32 (by omega); exact ⟨by omega, by omega⟩)) (by first | exact shf_0 | exact shf_step i11_0.1 cq14 i11_1 eq29 eq30 en31 eq32) (by first | exact i11_2 | exact cq6) (Nat.lt_succ_self _) _ (lv_sub hl [1, 0] rfl)
abbrev rmX6_codes : Room := { frames := 2, cells := 0, slots := 0, locals := 42 }
set_option maxHeartbeats 4000000 in
set_option maxRecDepth 100000 in
theorem k_X6_codes (l : Launch) {K : Cx} {a : Nat → Nat} {th um sm : Int32} {sA uA kA iA wA fA cA : Nat → Int32} {yA tA : Nat → Int64} (hM : MI K (th, um, sm, sA, uA, kA, iA, wA, fA, cA, yA, tA)) (sz : Nat) (pq1 : Int32) (pq2 : Int32)  : Mi l K yX6_codes wsX6_codes rmX6_codes [.ref (a 0), .int pq1, .int pq2] a (th, um, sm, sA, uA, kA, iA, wA, fA, cA, yA, tA) sz (fun (r : Int32) _ => cdA pq1 pq2 r) := by
  refine Met.ofW (cc := cX6_codes) (maxL := 4) (ret := (some .int)) (by decide) rfl ?_
  intro p e s m args below meth c s₁ B hml hv
  obtain ⟨rfl, hsz, hP, hK, hD0, hN⟩ := hv
  have hx := B.exec
  have hb := B.bytes
  have hr := B.returns
  have hts := atoms_spec (ws := wsX6_codes) B.pre
  have hown : s.vm.findClass RX6 = some m.cls := findClass_of_methodNamed B.named
  have hlocks := B.notSynchronized
  have hinX6 : ∀ w ∈ wsX60, w ∈ wsX6_codes := by decide +kernel
  subst hsz
  have hD := hD0.self (sz := s.heap.size)
  generalize hAe : va_A (mZ K a (th, um, sm, sA, uA, kA, iA, wA, fA, cA, yA, tA)) s.heap.size = A at hD ⊢
  have hA : ∀ q : Nat, s.heap.size ≤ q → A q := fun q h => by rw [← hAe]; exact Or.inr h
  have hS : va_S A s.heap s.heap [] := va_S.rf
  have hP : va_P K.1 vwCl (mW K a th um sm sA uA kA iA wA fA cA yA tA) s.heap := hP
  have hD : va_D A (mW K a th um sm sA uA kA iA wA fA cA yA tA) := hD
  have hMS : okS sA := hM.1
  have hMU : okU um := hM.2.1
  have hMM : okM sm := hM.2.2.1
  have hMR : okR um uA := hM.2.2.2.1
  have hMK : okK kA iA := hM.2.2.2.2.1
  have hMZ : okZ K sm wA fA := hM.2.2.2.2.2
  have hl := lv_entry ([.ref (a 0), .int pq1, .int pq2]) (n := 4) (Nat.le_of_ble_eq_true rfl)
  rw [lg_entry_eq]
  generalize (lg_sl ([.ref (a 0), .int pq1, .int pq2]) ++ List.replicate (4 - (lg_sl ([.ref (a 0), .int pq1, .int pq2])).length) Slot.unset).toArray = ls at hl ⊢
  have hl : lv_has ls 4 [(0, .ref (a 0)), (1, .int pq1), (2, .int pq2)] := hl
  have hJ31 : ∀ (n31 : Nat) (thL : Int32) (umL : Int32) (smL : Int32) (sL : Nat → Int32) (uL : Nat → Int32) (kL : Nat → Int32) (iL : Nat → Int32) (wL : Nat → Int32) (fL : Nat → Int32) (cL : Nat → Int32) (yL : Nat → Int64) (tL : Nat → Int64) (H : Heap) (locs : List Loc) (zq3 : Int32), (va_P K.1 vwCl (mW K a thL umL smL sL uL kL iL wL fL cL yL tL) H) → (va_D A (mW K a thL umL smL sL uL kL iL wL fL cL yL tL)) → (va_S A s.heap H locs) → (okU umL) → (okM smL) → (okR umL uL) → (okK kL iL) → (okZ K smL wL fL) → (0 ≤ zq3.toInt) → (3 ≤ pq1.toInt ∧ pq1.toInt ≤ 199 ∧ 4 ≤ pq2.toInt ∧ pq2.toInt ≤ 16) → (isC pq1 ∧ isWd pq2) → ((2147483647 - zq3.toInt).toNat < n31) → ∀ (ls : Array Slot), lv_has ls 4 [(0, .ref (a 0)), (1, .int pq1), (2, .int pq2), (3, .int zq3)] → W p l e rmX6_codes s m [.ref (a 0), .int pq1, .int pq2].toArray below meth c H locs 0 0 (MQ below (va_Qi (fun (r : Int32) (u : MZ) => (fun (r : Int32) _ => cdA pq1 pq2 r) r u ∧ MI (K) u) (fun u t => va_P K.1 vwCl (mZ K a u) t.heap ∧ va_D A (mZ K a u)) A) [.ref (a 0), .int pq1, .int pq2].toArray s 0 0 A) (F0 m 31 ls []) := by
    intro n31
    induction n31 with
    | zero =>
      intro thL umL smL sL uL kL iL wL fL cL yL tL H locs zq3 hP hD hS hMU hMM hMR hMK hMZ i31_0 i31_1 i31_2 hm31 ls hl
      exact absurd hm31 (Nat.not_lt_zero _)
    | succ n31 ih31 =>
      intro thL umL smL sL uL kL iL wL fL cL yL tL H locs zq3 hP hD hS hMU hMM hMR hMK hMZ i31_0 i31_1 i31_2 hm31 ls hl
      refine lv_iload_n hx hb dX6_codes_31 rfl (lv_at hl 3 rfl) ?_
      refine lv_bipush (v := 10) hx hb dX6_codes_32 (by decide) ?_
      refine lv_icmp_ge (tgt := 50) hx hb dX6_codes_34 (by decide) (fun cq34 => ?_) (fun cq34 => ?_)
      · skip
        refine lv_aload_n hx hb dX6_codes_50 rfl (lv_at hl 0 rfl) ?_
        refine va_get (D := K.1) (ci := 6) (v := .ref (a 1)) (C := RX6) (T := TX6) (N := 12) hx hb hts hinX6 hown hK hP 0 rfl rfl 1 (by decide) (hts (.fieldLink RX6 7 "CodedWordsModel" "s" "[I") (by decide +kernel)) (fun _ h9 => h9) rfl dX6_codes_51 ?_
        refine lv_iconst (v := 0) hx hb dX6_codes_54 (by decide) ?_
        refine lv_iload_n hx hb dX6_codes_55 rfl (lv_at hl 1 rfl) ?_
        refine va_iast hx hb hK hP hD hS 1 0 rfl rfl (iq_in (by decide) (by decide)) dX6_codes_56 (fun H locs hP hD hS => ?_)
        have hP : va_P K.1 vwCl (mW K a thL umL smL (upd sL (0 : Int32).toNatClampNeg pq1) uL kL iL wL fL cL yL tL) H := hP
        have hD : va_D A (mW K a thL umL smL (upd sL (0 : Int32).toNatClampNeg pq1) uL kL iL wL fL cL yL tL) := hD
        generalize en56 : upd sL (0 : Int32).toNatClampNeg pq1 = sN56 at hP hD
        refine lv_aload_n hx hb dX6_codes_57 rfl (lv_at hl 0 rfl) ?_
        refine va_get (D := K.1) (ci := 6) (v := .ref (a 1)) (C := RX6) (T := TX6) (N := 12) hx hb hts hinX6 hown hK hP 0 rfl rfl 1 (by decide) (hts (.fieldLink RX6 7 "CodedWordsModel" "s" "[I") (by decide +kernel)) (fun _ h9 => h9) rfl dX6_codes_58 ?_
        refine lv_iconst (v := 1) hx hb dX6_codes_61 (by decide) ?_
        refine lv_iload_n hx hb dX6_codes_62 rfl (lv_at hl 2 rfl) ?_
        refine va_iast hx hb hK hP hD hS 1 0 rfl rfl (iq_in (by decide) (by decide)) dX6_codes_63 (fun H locs hP hD hS => ?_)
        have hP : va_P K.1 vwCl (mW K a thL umL smL (upd sN56 (1 : Int32).toNatClampNeg pq2) uL kL iL wL fL cL yL tL) H := hP
        have hD : va_D A (mW K a thL umL smL (upd sN56 (1 : Int32).toNatClampNeg pq2) uL kL iL wL fL cL yL tL) := hD
        generalize en63 : upd sN56 (1 : Int32).toNatClampNeg pq2 = sN63 at hP hD
        have hMS : okS sN63 := okS.set2 i31_1 en56 en63
        refine lv_aload_n hx hb dX6_codes_64 rfl (lv_at hl 0 rfl) ?_
        refine r_i (K := K) (w := mW K a thL umL smL sN63 uL kL iL wL fL cL yL tL) (va_runV (As := []) (rest := []) ⟨hx, hb, hml, hown, hts⟩ (k_X6_reach l hMS) (cwV 0 hts gX6_codes_X6_reach rfl rfl rfl (by decide +kernel) ⟨Nat.le_of_ble_eq_true rfl, Nat.le_of_ble_eq_true rfl⟩) (rPreV (m_rcv hK hP) hP hK hD hN) rfl rfl hl.1 rfl (lv_room (Nat.le_of_ble_eq_true rfl)) dX6_codes_65 ⟨Nat.le_of_ble_eq_true rfl, Nat.le_of_ble_eq_true rfl⟩) hP hS (fun rq65 H locs hp65 hP hS => ?_)
        exact W.iret (v := rq65) hx hb hr (fun t ht hW => ⟨⟨rq65, (thL, umL, smL, sN63, uL, kL, iL, wL, fL, cL, yL, tL), rfl, ⟨Or.inr ⟨i31_2.1, i31_2.2, by rw [hp65]; exact mc_top en56 en63⟩, ⟨hMS, hMU, hMM, hMR, hMK, hMZ⟩⟩, by rw [ht]; exact hP, hD⟩, hS.F ht⟩) hS.2.2 dX6_codes_68
      · skip
        refine lv_aload_n hx hb dX6_codes_37 rfl (lv_at hl 0 rfl) ?_
        refine va_get (D := K.1) (ci := 6) (v := .ref (a 1)) (C := RX6) (T := TX6) (N := 12) hx hb hts hinX6 hown hK hP 0 rfl rfl 1 (by decide) (hts (.fieldLink RX6 7 "CodedWordsModel" "s" "[I") (by decide +kernel)) (fun _ h9 => h9) rfl dX6_codes_38 ?_
        refine lv_iload_n hx hb dX6_codes_41 rfl (lv_at hl 3 rfl) ?_
        refine lv_iconst (v := 0) hx hb dX6_codes_42 (by decide) ?_
        refine va_iast hx hb hK hP hD hS 1 0 rfl rfl (iq_inr i31_0 cq34 (by decide)) dX6_codes_43 (fun H locs hP hD hS => ?_)
        have hP : va_P K.1 vwCl (mW K a thL umL smL (upd sL (zq3 : Int32).toNatClampNeg 0) uL kL iL wL fL cL yL tL) H := hP
        have hD : va_D A (mW K a thL umL smL (upd sL (zq3 : Int32).toNatClampNeg 0) uL kL iL wL fL cL yL tL) := hD
        generalize en43 : upd sL (zq3 : Int32).toNatClampNeg 0 = sN43 at hP hD
        obtain ⟨vq44, eq44⟩ : ∃ y : Int32, y = zq3 + 1 := ⟨_, rfl⟩
        refine lv_iinc (v := vq44) (lv' := [(3, .int vq44), (0, .ref (a 0)), (1, .int pq1), (2, .int pq2)]) hx hb dX6_codes_44 hl (k := 3) rfl (by rw [eq44]; rfl) (by decide) rfl (fun ls hl => ?_)
        refine lv_goto (tgt := 31) hx hb dX6_codes_47 (by decide) ?_
        exact ih31 thL umL smL sN43 uL kL iL wL fL cL yL tL _ _ vq44 hP hD hS hMU hMM hMR hMK hMZ (by first | exact iq_nn1 i31_0 cq34 eq44 | decide) (by first | exact i31_1 | exact ⟨(hp6.1.resolve_left cq9).2.1, (hp6.1.resolve_left cq9).2.2.1, (by have h := (hp16.resolve_left (fun q => cq19 q.1)).2.1; rw [iq_le] at h; exact h), (by have h := (hp16.resolve_left (fun q => cq19 q.1)).2.2; rw [iq_le] at h; exact h)⟩) (by first | exact i31_2 | exact ⟨(hp6.1.resolve_left cq9).2, (by have h := (hp16.resolve_left (fun q => cq19 q.1)).2.1; rw [iq_le] at h; exact h), (by have h := (hp16.resolve_left (fun q => cq19 q.1)).2.2; rw [iq_le] at h; exact h)⟩) (iq_up hm31 cq34 eq44) _ (lv_sub hl [1, 2, 3, 0] rfl)
  refine lv_aload_n hx hb dX6_codes_0 rfl (lv_at hl 0 rfl) ?_
  refine lv_iconst (v := 0) hx hb dX6_codes_1 (by decide) ?_
  refine va_put (D := K.1) (ci := 6) (v := .int 0) (ty := .int) (C := RX6) (T := TX6) (N := 12) hx hb hts hinX6 tyX6 tyX6_ok nmX6 hown hK hP hD hS 0 rfl rfl 0 (by decide) (hts (.fieldLink RX6 39 "CodedWordsModel" "thrown" "I") (by decide +kernel)) (fun _ h9 => h9) rfl (by decide +kernel) rfl rfl (Nat.le_of_ble_eq_true rfl) dX6_codes_2 (fun H locs hP hD hS => ?_)
  have hP : va_P K.1 vwCl (mW K a 0 um sm sA uA kA iA wA fA cA yA tA) H := hP
  have hD : va_D A (mW K a 0 um sm sA uA kA iA wA fA cA yA tA) := hD
  refine lv_iload_n hx hb dX6_codes_5 rfl (lv_at hl 1 rfl) ?_
  refine r_i (va_runS (As := [.int pq1]) (rest := []) ⟨hx, hb, hml, hown, hts⟩ (k_X6_isConstant l pq1) (va_cwS 1 hts gX6_codes_X6_isConstant rfl rfl rfl (by decide +kernel) ⟨Nat.le_of_ble_eq_true rfl, Nat.le_of_ble_eq_true rfl⟩) (pPreS) rfl rfl hl.1 rfl (lv_room (Nat.le_of_ble_eq_true rfl)) dX6_codes_6 ⟨Nat.le_of_ble_eq_true rfl, Nat.le_of_ble_eq_true rfl⟩) hP hS (fun rq6 H locs hp6 hP hS => ?_)
  refine lv_if_eq (tgt := 22) hx hb dX6_codes_9 (by decide) (fun cq9 => ?_) (fun cq9 => ?_)
  · skip
    refine lv_ldc (v := (-1000001)) hx hb hown (hts (.constant RX6 71 (-1000001)) (by decide +kernel)) dX6_codes_22 ?_
    exact W.iret (v := (-1000001)) hx hb hr (fun t ht hW => ⟨⟨(-1000001), (0, um, sm, sA, uA, kA, iA, wA, fA, cA, yA, tA), rfl, ⟨by first | exact Or.inl ⟨fun h => (hp16.resolve_right (fun q => by rw [q.1] at cq19; exact absurd cq19 (by decide))).2 ⟨by rw [iq_le]; exact h.2.1, by rw [iq_le]; exact h.2.2⟩, rfl⟩ | exact Or.inl ⟨fun h => hp6.2 cq9 h.1, rfl⟩, ⟨hMS, hMU, hMM, hMR, hMK, hMZ⟩⟩, by rw [ht]; exact hP, hD⟩, hS.F ht⟩) hS.2.2 dX6_codes_24
  · skip
    refine lv_iload_n hx hb dX6_codes_12 rfl (lv_at hl 2 rfl) ?_
    refine lv_iconst (v := 4) hx hb dX6_codes_13 (by decide) ?_
    refine lv_bipush (v := 16) hx hb dX6_codes_14 (by decide) ?_
    refine r_i (va_runS (As := [.int pq2, .int 4, .int 16]) (rest := []) ⟨hx, hb, hml, hown, hts⟩ (k_X6_in l pq2 4 16) (va_cwS 3 hts gX6_codes_X6_in rfl rfl rfl (by decide +kernel) ⟨Nat.le_of_ble_eq_true rfl, Nat.le_of_ble_eq_true rfl⟩) (pPreS) rfl rfl hl.1 rfl (lv_room (Nat.le_of_ble_eq_true rfl)) dX6_codes_16 ⟨Nat.le_of_ble_eq_true rfl, Nat.le_of_ble_eq_true rfl⟩) hP hS (fun rq16 H locs hp16 hP hS => ?_)
    refine lv_if_ne (tgt := 25) hx hb dX6_codes_19 (by decide) (fun cq19 => ?_) (fun cq19 => ?_)
    · skip
      refine lv_aload_n hx hb dX6_codes_25 rfl (lv_at hl 0 rfl) ?_
      refine m_v (K := K) (K2 := K) (a := a) (w := mW K a 0 um sm sA uA kA iA wA fA cA yA tA) (post := fun u => u.2.2.2.1 = sA) (va_runV (mc := 0) (ms := 0) (rm := rmX6_notes) (As := []) (rest := []) ⟨hx, hb, hml, hown, hts⟩ (k_X6_notes l (a := a) ⟨hMS, hMU, hMM, hMR, hMK, hMZ⟩ H.size ) (cwV 0 hts gX6_codes_X6_notes rfl rfl rfl (by decide +kernel) ⟨Nat.le_of_ble_eq_true rfl, Nat.le_of_ble_eq_true rfl⟩) (kPreV (m_rcv hK hP) hP hK hD hN) rfl rfl hl.1 rfl (lv_room (Nat.le_of_ble_eq_true rfl)) dX6_codes_26 ⟨Nat.le_of_ble_eq_true rfl, Nat.le_of_ble_eq_true rfl⟩) hD hS hA (fun uq26 H locs hp26 hM hP hD hS => ?_)
      obtain ⟨thN26, umN26, smN26, sN26, uN26, kN26, iN26, wN26, fN26, cN26, yN26, tN26⟩ := uq26
      have hP : va_P K.1 vwCl (mW K a thN26 umN26 smN26 sN26 uN26 kN26 iN26 wN26 fN26 cN26 yN26 tN26) H := hP
      have hD : va_D A (mW K a thN26 umN26 smN26 sN26 uN26 kN26 iN26 wN26 fN26 cN26 yN26 tN26) := hD
      have hMS : okS sN26 := hM.1
      have hMU : okU umN26 := hM.2.1
      have hMM : okM smN26 := hM.2.2.1
      have hMR : okR umN26 uN26 := hM.2.2.2.1
      have hMK : okK kN26 iN26 := hM.2.2.2.2.1
      have hMZ : okZ K smN26 wN26 fN26 := hM.2.2.2.2.2
      refine lv_iconst (v := 0) hx hb dX6_codes_29 (by decide) ?_
      refine lv_istore_n (lv' := [(3, .int 0), (0, .ref (a 0)), (1, .int pq1), (2, .int pq2)]) hx hb dX6_codes_30 rfl hl (by decide) rfl (fun ls hl => ?_)
      exact hJ31 ((2147483647 - (0 : Int32).toInt).toNat + 1) thN26 umN26 smN26 sN26 uN26 kN26 iN26 wN26 fN26 cN26 yN26 tN26 _ _ 0 hP hD hS hMU hMM hMR hMK hMZ (by first | exact iq_nn1 i31_0 cq34 eq44 | decide) (by first | exact i31_1 | exact ⟨(hp6.1.resolve_left cq9).2.1, (hp6.1.resolve_left cq9).2.2.1, (by have h := (hp16.resolve_left (fun q => cq19 q.1)).2.1; rw [iq_le] at h; exact h), (by have h := (hp16.resolve_left (fun q => cq19 q.1)).2.2; rw [iq_le] at h; exact h)⟩) (by first | exact i31_2 | exact ⟨(hp6.1.resolve_left cq9).2, (by have h := (hp16.resolve_left (fun q => cq19 q.1)).2.1; rw [iq_le] at h; exact h), (by have h := (hp16.resolve_left (fun q => cq19 q.1)).2.2; rw [iq_le] at h; exact h)⟩) (Nat.lt_succ_self _) _ (lv_sub hl [1, 2, 3, 0] rfl)
    · skip
      refine lv_ldc (v := (-1000001)) hx hb hown (hts (.constant RX6 71 (-1000001)) (by decide +kernel)) dX6_codes_22 ?_
      exact W.iret (v := (-1000001)) hx hb hr (fun t ht hW => ⟨⟨(-1000001), (0, um, sm, sA, uA, kA, iA, wA, fA, cA, yA, tA), rfl, ⟨by first | exact Or.inl ⟨fun h => (hp16.resolve_right (fun q => by rw [q.1] at cq19; exact absurd cq19 (by decide))).2 ⟨by rw [iq_le]; exact h.2.1, by rw [iq_le]; exact h.2.2⟩, rfl⟩ | exact Or.inl ⟨fun h => hp6.2 cq9 h.1, rfl⟩, ⟨hMS, hMU, hMM, hMR, hMK, hMZ⟩⟩, by rw [ht]; exact hP, hD⟩, hS.F ht⟩) hS.2.2 dX6_codes_24
abbrev rmX6_sets : Room := { frames := 2, cells := 0, slots := 0, locals := 42 }
set_option maxHeartbeats 4000000 in
set_option maxRecDepth 100000 in
theorem k_X6_sets (l : Launch) {K : Cx} {a : Nat → Nat} {th um sm : Int32} {sA uA kA iA wA fA cA : Nat → Int32} {yA tA : Nat → Int64} (hM : MI K (th, um, sm, sA, uA, kA, iA, wA, fA, cA, yA, tA)) (sz : Nat) (pq1 : Int32) (pq2 : Int32)  : Mi l K yX6_sets wsX6_sets rmX6_sets [.ref (a 0), .int pq1, .int pq2] a (th, um, sm, sA, uA, kA, iA, wA, fA, cA, yA, tA) sz (fun _ _ => True) := by
  refine Met.ofW (cc := cX6_sets) (maxL := 3) (ret := (some .int)) (by decide) rfl ?_
  intro p e s m args below meth c s₁ B hml hv
  obtain ⟨rfl, hsz, hP, hK, hD0, hN⟩ := hv
  have hx := B.exec
  have hb := B.bytes
  have hr := B.returns
  have hts := atoms_spec (ws := wsX6_sets) B.pre
  have hown : s.vm.findClass RX6 = some m.cls := findClass_of_methodNamed B.named
  have hlocks := B.notSynchronized
  have hinX6 : ∀ w ∈ wsX60, w ∈ wsX6_sets := by decide +kernel
  subst hsz
  have hD := hD0.self (sz := s.heap.size)
  generalize hAe : va_A (mZ K a (th, um, sm, sA, uA, kA, iA, wA, fA, cA, yA, tA)) s.heap.size = A at hD ⊢
  have hA : ∀ q : Nat, s.heap.size ≤ q → A q := fun q h => by rw [← hAe]; exact Or.inr h
  have hS : va_S A s.heap s.heap [] := va_S.rf
  have hP : va_P K.1 vwCl (mW K a th um sm sA uA kA iA wA fA cA yA tA) s.heap := hP
  have hD : va_D A (mW K a th um sm sA uA kA iA wA fA cA yA tA) := hD
  have hMS : okS sA := hM.1
  have hMU : okU um := hM.2.1
  have hMM : okM sm := hM.2.2.1
  have hMR : okR um uA := hM.2.2.2.1
  have hMK : okK kA iA := hM.2.2.2.2.1
  have hMZ : okZ K sm wA fA := hM.2.2.2.2.2
  have hl := lv_entry ([.ref (a 0), .int pq1, .int pq2]) (n := 3) (Nat.le_of_ble_eq_true rfl)
  rw [lg_entry_eq]
  generalize (lg_sl ([.ref (a 0), .int pq1, .int pq2]) ++ List.replicate (3 - (lg_sl ([.ref (a 0), .int pq1, .int pq2])).length) Slot.unset).toArray = ls at hl ⊢
  have hl : lv_has ls 3 [(0, .ref (a 0)), (1, .int pq1), (2, .int pq2)] := hl
  refine lv_aload_n hx hb dX6_sets_0 rfl (lv_at hl 0 rfl) ?_
  refine lv_iconst (v := 0) hx hb dX6_sets_1 (by decide) ?_
  refine va_put (D := K.1) (ci := 6) (v := .int 0) (ty := .int) (C := RX6) (T := TX6) (N := 12) hx hb hts hinX6 tyX6 tyX6_ok nmX6 hown hK hP hD hS 0 rfl rfl 0 (by decide) (hts (.fieldLink RX6 39 "CodedWordsModel" "thrown" "I") (by decide +kernel)) (fun _ h9 => h9) rfl (by decide +kernel) rfl rfl (Nat.le_of_ble_eq_true rfl) dX6_sets_2 (fun H locs hP hD hS => ?_)
  have hP : va_P K.1 vwCl (mW K a 0 um sm sA uA kA iA wA fA cA yA tA) H := hP
  have hD : va_D A (mW K a 0 um sm sA uA kA iA wA fA cA yA tA) := hD
  refine lv_iload_n hx hb dX6_sets_5 rfl (lv_at hl 1 rfl) ?_
  refine r_i (va_runS (As := [.int pq1]) (rest := []) ⟨hx, hb, hml, hown, hts⟩ (k_X6_isRegister l pq1) (va_cwS 1 hts gX6_sets_X6_isRegister rfl rfl rfl (by decide +kernel) ⟨Nat.le_of_ble_eq_true rfl, Nat.le_of_ble_eq_true rfl⟩) (pPreS) rfl rfl hl.1 rfl (lv_room (Nat.le_of_ble_eq_true rfl)) dX6_sets_6 ⟨Nat.le_of_ble_eq_true rfl, Nat.le_of_ble_eq_true rfl⟩) hP hS (fun rq6 H locs hp6 hP hS => ?_)
  refine lv_if_eq (tgt := 28) hx hb dX6_sets_9 (by decide) (fun cq9 => ?_) (fun cq9 => ?_)
  · skip
    refine lv_ldc (v := (-1000001)) hx hb hown (hts (.constant RX6 71 (-1000001)) (by decide +kernel)) dX6_sets_28 ?_
    exact W.iret (v := (-1000001)) hx hb hr (fun t ht hW => ⟨⟨(-1000001), (0, um, sm, sA, uA, kA, iA, wA, fA, cA, yA, tA), rfl, ⟨trivial, ⟨hMS, hMU, hMM, hMR, hMK, hMZ⟩⟩, by rw [ht]; exact hP, hD⟩, hS.F ht⟩) hS.2.2 dX6_sets_30
  · skip
    refine lv_iload_n hx hb dX6_sets_12 rfl (lv_at hl 2 rfl) ?_
    refine lv_aload_n hx hb dX6_sets_13 rfl (lv_at hl 0 rfl) ?_
    refine r_i (K := K) (w := mW K a 0 um sm sA uA kA iA wA fA cA yA tA) (va_runV (As := []) (rest := [.int pq2]) ⟨hx, hb, hml, hown, hts⟩ (k_X6_reach l hMS) (cwV 0 hts gX6_sets_X6_reach rfl rfl rfl (by decide +kernel) ⟨Nat.le_of_ble_eq_true rfl, Nat.le_of_ble_eq_true rfl⟩) (rPreV (m_rcv hK hP) hP hK hD hN) rfl rfl hl.1 rfl (lv_room (Nat.le_of_ble_eq_true rfl)) dX6_sets_14 ⟨Nat.le_of_ble_eq_true rfl, Nat.le_of_ble_eq_true rfl⟩) hP hS (fun rq14 H locs hp14 hP hS => ?_)
    refine lv_ineg hx hb dX6_sets_17 ?_
    refine lv_topi (fun vq17 eq17 => ?_)
    refine lv_aload_n hx hb dX6_sets_18 rfl (lv_at hl 0 rfl) ?_
    refine r_i (K := K) (w := mW K a 0 um sm sA uA kA iA wA fA cA yA tA) (va_runV (As := []) (rest := [.int vq17, .int pq2]) ⟨hx, hb, hml, hown, hts⟩ (k_X6_reach l hMS) (cwV 0 hts gX6_sets_X6_reach rfl rfl rfl (by decide +kernel) ⟨Nat.le_of_ble_eq_true rfl, Nat.le_of_ble_eq_true rfl⟩) (rPreV (m_rcv hK hP) hP hK hD hN) rfl rfl hl.1 rfl (lv_room (Nat.le_of_ble_eq_true rfl)) dX6_sets_19 ⟨Nat.le_of_ble_eq_true rfl, Nat.le_of_ble_eq_true rfl⟩) hP hS (fun rq19 H locs hp19 hP hS => ?_)
    refine r_i (va_runS (As := [.int pq2, .int vq17, .int rq19]) (rest := []) ⟨hx, hb, hml, hown, hts⟩ (k_X6_in l pq2 vq17 rq19) (va_cwS 3 hts gX6_sets_X6_in rfl rfl rfl (by decide +kernel) ⟨Nat.le_of_ble_eq_true rfl, Nat.le_of_ble_eq_true rfl⟩) (pPreS) rfl rfl hl.1 rfl (lv_room (Nat.le_of_ble_eq_true rfl)) dX6_sets_22 ⟨Nat.le_of_ble_eq_true rfl, Nat.le_of_ble_eq_true rfl⟩) hP hS (fun rq22 H locs hp22 hP hS => ?_)
    refine lv_if_ne (tgt := 31) hx hb dX6_sets_25 (by decide) (fun cq25 => ?_) (fun cq25 => ?_)
    · skip
      refine lv_aload_n hx hb dX6_sets_31 rfl (lv_at hl 0 rfl) ?_
      refine m_v (K := K) (K2 := K) (a := a) (w := mW K a 0 um sm sA uA kA iA wA fA cA yA tA) (post := fun u => u.2.2.2.1 = sA) (va_runV (mc := 0) (ms := 0) (rm := rmX6_notes) (As := []) (rest := []) ⟨hx, hb, hml, hown, hts⟩ (k_X6_notes l (a := a) ⟨hMS, hMU, hMM, hMR, hMK, hMZ⟩ H.size ) (cwV 0 hts gX6_sets_X6_notes rfl rfl rfl (by decide +kernel) ⟨Nat.le_of_ble_eq_true rfl, Nat.le_of_ble_eq_true rfl⟩) (kPreV (m_rcv hK hP) hP hK hD hN) rfl rfl hl.1 rfl (lv_room (Nat.le_of_ble_eq_true rfl)) dX6_sets_32 ⟨Nat.le_of_ble_eq_true rfl, Nat.le_of_ble_eq_true rfl⟩) hD hS hA (fun uq32 H locs hp32 hM hP hD hS => ?_)
      obtain ⟨thN32, umN32, smN32, sN32, uN32, kN32, iN32, wN32, fN32, cN32, yN32, tN32⟩ := uq32
      have hP : va_P K.1 vwCl (mW K a thN32 umN32 smN32 sN32 uN32 kN32 iN32 wN32 fN32 cN32 yN32 tN32) H := hP
      have hD : va_D A (mW K a thN32 umN32 smN32 sN32 uN32 kN32 iN32 wN32 fN32 cN32 yN32 tN32) := hD
      have hMS : okS sN32 := hM.1
      have hMU : okU umN32 := hM.2.1
      have hMM : okM smN32 := hM.2.2.1
      have hMR : okR umN32 uN32 := hM.2.2.2.1
      have hMK : okK kN32 iN32 := hM.2.2.2.2.1
      have hMZ : okZ K smN32 wN32 fN32 := hM.2.2.2.2.2
      refine lv_aload_n hx hb dX6_sets_35 rfl (lv_at hl 0 rfl) ?_
      refine va_get (D := K.1) (ci := 6) (v := .ref (a 1)) (C := RX6) (T := TX6) (N := 12) hx hb hts hinX6 hown hK hP 0 rfl rfl 1 (by decide) (hts (.fieldLink RX6 7 "CodedWordsModel" "s" "[I") (by decide +kernel)) (fun _ h9 => h9) rfl dX6_sets_36 ?_
      refine lv_iconst (v := 2) hx hb dX6_sets_39 (by decide) ?_
      refine lv_iload_n hx hb dX6_sets_40 rfl (lv_at hl 1 rfl) ?_
      refine lv_iadd hx hb dX6_sets_41 ?_
      refine lv_topi (fun vq41 eq41 => ?_)
      refine lv_aload_n hx hb dX6_sets_42 rfl (lv_at hl 0 rfl) ?_
      refine va_get (D := K.1) (ci := 6) (v := .ref (a 1)) (C := RX6) (T := TX6) (N := 12) hx hb hts hinX6 hown hK hP 0 rfl rfl 1 (by decide) (hts (.fieldLink RX6 7 "CodedWordsModel" "s" "[I") (by decide +kernel)) (fun _ h9 => h9) rfl dX6_sets_43 ?_
      refine lv_iconst (v := 0) hx hb dX6_sets_46 (by decide) ?_
      refine va_iald hx hb hK hP 1 0 rfl rfl (iq_in (by decide) (by decide)) dX6_sets_47 ?_
      refine lv_topi (fun vq47 eq47 => ?_)
      refine lv_iload_n hx hb dX6_sets_48 rfl (lv_at hl 2 rfl) ?_
      refine lv_imul hx hb dX6_sets_49 ?_
      refine lv_topi (fun vq49 eq49 => ?_)
      refine va_iast hx hb hK hP hD hS 1 0 rfl rfl (iq_inreg (by decide) (by decide) (hp6.resolve_left cq9).2.1 (hp6.resolve_left cq9).2.2 eq41) dX6_sets_50 (fun H locs hP hD hS => ?_)
      have hP : va_P K.1 vwCl (mW K a thN32 umN32 smN32 (upd sN32 (vq41 : Int32).toNatClampNeg vq49) uN32 kN32 iN32 wN32 fN32 cN32 yN32 tN32) H := hP
      have hD : va_D A (mW K a thN32 umN32 smN32 (upd sN32 (vq41 : Int32).toNatClampNeg vq49) uN32 kN32 iN32 wN32 fN32 cN32 yN32 tN32) := hD
      generalize en50 : upd sN32 (vq41 : Int32).toNatClampNeg vq49 = sN50 at hP hD
      have hMS : okS sN50 := hMS.upr (by decide) (by decide) (hp6.resolve_left cq9).2.1 (hp6.resolve_left cq9).2.2 eq41 en50
      refine lv_aload_n hx hb dX6_sets_51 rfl (lv_at hl 0 rfl) ?_
      refine va_get (D := K.1) (ci := 6) (v := .ref (a 1)) (C := RX6) (T := TX6) (N := 12) hx hb hts hinX6 hown hK hP 0 rfl rfl 1 (by decide) (hts (.fieldLink RX6 7 "CodedWordsModel" "s" "[I") (by decide +kernel)) (fun _ h9 => h9) rfl dX6_sets_52 ?_
      refine lv_bipush (v := 6) hx hb dX6_sets_55 (by decide) ?_
      refine lv_iload_n hx hb dX6_sets_57 rfl (lv_at hl 1 rfl) ?_
      refine lv_iadd hx hb dX6_sets_58 ?_
      refine lv_topi (fun vq58 eq58 => ?_)
      refine lv_iload_n hx hb dX6_sets_59 rfl (lv_at hl 2 rfl) ?_
      refine lv_i2l (v := (pq2 : Int32).toInt64) hx hb dX6_sets_60 rfl ?_
      refine lv_topl (fun vq60 eq60 => ?_)
      refine lv_bipush (v := 15) hx hb dX6_sets_61 (by decide) ?_
      refine r_i (va_runS (As := [.long vq60, .int 15]) (rest := [.int vq58, .ref (a 1)]) ⟨hx, hb, hml, hown, hts⟩ (k_X6_rest l vq60 15 (by decide)) (va_cwS 2 hts gX6_sets_X6_rest rfl rfl rfl (by decide +kernel) ⟨Nat.le_of_ble_eq_true rfl, Nat.le_of_ble_eq_true rfl⟩) (pPreS) rfl rfl hl.1 rfl (lv_room (Nat.le_of_ble_eq_true rfl)) dX6_sets_63 ⟨Nat.le_of_ble_eq_true rfl, Nat.le_of_ble_eq_true rfl⟩) hP hS (fun rq63 H locs hp63 hP hS => ?_)
      refine va_iast hx hb hK hP hD hS 1 0 rfl rfl (iq_inreg (by decide) (by decide) (hp6.resolve_left cq9).2.1 (hp6.resolve_left cq9).2.2 eq58) dX6_sets_66 (fun H locs hP hD hS => ?_)
      have hP : va_P K.1 vwCl (mW K a thN32 umN32 smN32 (upd sN50 (vq58 : Int32).toNatClampNeg rq63) uN32 kN32 iN32 wN32 fN32 cN32 yN32 tN32) H := hP
      have hD : va_D A (mW K a thN32 umN32 smN32 (upd sN50 (vq58 : Int32).toNatClampNeg rq63) uN32 kN32 iN32 wN32 fN32 cN32 yN32 tN32) := hD
      generalize en66 : upd sN50 (vq58 : Int32).toNatClampNeg rq63 = sN66 at hP hD
      have hMS : okS sN66 := hMS.upr (by decide) (by decide) (hp6.resolve_left cq9).2.1 (hp6.resolve_left cq9).2.2 eq58 en66
      refine lv_aload_n hx hb dX6_sets_67 rfl (lv_at hl 0 rfl) ?_
      refine va_get (D := K.1) (ci := 6) (v := .ref (a 1)) (C := RX6) (T := TX6) (N := 12) hx hb hts hinX6 hown hK hP 0 rfl rfl 1 (by decide) (hts (.fieldLink RX6 7 "CodedWordsModel" "s" "[I") (by decide +kernel)) (fun _ h9 => h9) rfl dX6_sets_68 ?_
      refine lv_iconst (v := 2) hx hb dX6_sets_71 (by decide) ?_
      refine lv_iload_n hx hb dX6_sets_72 rfl (lv_at hl 1 rfl) ?_
      refine lv_iadd hx hb dX6_sets_73 ?_
      refine lv_topi (fun vq73 eq73 => ?_)
      refine va_iald hx hb hK hP 1 0 rfl rfl (iq_inreg (by decide) (by decide) (hp6.resolve_left cq9).2.1 (hp6.resolve_left cq9).2.2 eq73) dX6_sets_74 ?_
      refine lv_topi (fun vq74 eq74 => ?_)
      exact W.iret (v := vq74) hx hb hr (fun t ht hW => ⟨⟨vq74, (thN32, umN32, smN32, sN66, uN32, kN32, iN32, wN32, fN32, cN32, yN32, tN32), rfl, ⟨trivial, ⟨hMS, hMU, hMM, hMR, hMK, hMZ⟩⟩, by rw [ht]; exact hP, hD⟩, hS.F ht⟩) hS.2.2 dX6_sets_75
    · skip
      refine lv_ldc (v := (-1000001)) hx hb hown (hts (.constant RX6 71 (-1000001)) (by decide +kernel)) dX6_sets_28 ?_
      exact W.iret (v := (-1000001)) hx hb hr (fun t ht hW => ⟨⟨(-1000001), (0, um, sm, sA, uA, kA, iA, wA, fA, cA, yA, tA), rfl, ⟨trivial, ⟨hMS, hMU, hMM, hMR, hMK, hMZ⟩⟩, by rw [ht]; exact hP, hD⟩, hS.F ht⟩) hS.2.2 dX6_sets_30
abbrev rmX6_strikes : Room := { frames := 2, cells := 0, slots := 0, locals := 42 }
set_option maxHeartbeats 4000000 in
set_option maxRecDepth 100000 in
theorem k_X6_strikes (l : Launch) {K : Cx} {a : Nat → Nat} {th um sm : Int32} {sA uA kA iA wA fA cA : Nat → Int32} {yA tA : Nat → Int64} (hM : MI K (th, um, sm, sA, uA, kA, iA, wA, fA, cA, yA, tA)) (sz : Nat) (pq1 : Int32) (pq2 : Int32)  : Mi l K yX6_strikes wsX6_strikes rmX6_strikes [.ref (a 0), .int pq1, .int pq2] a (th, um, sm, sA, uA, kA, iA, wA, fA, cA, yA, tA) sz (fun _ _ => True) := by
  refine Met.ofW (cc := cX6_strikes) (maxL := 4) (ret := (some .int)) (by decide) rfl ?_
  intro p e s m args below meth c s₁ B hml hv
  obtain ⟨rfl, hsz, hP, hK, hD0, hN⟩ := hv
  have hx := B.exec
  have hb := B.bytes
  have hr := B.returns
  have hts := atoms_spec (ws := wsX6_strikes) B.pre
  have hown : s.vm.findClass RX6 = some m.cls := findClass_of_methodNamed B.named
  have hlocks := B.notSynchronized
  have hinX6 : ∀ w ∈ wsX60, w ∈ wsX6_strikes := by decide +kernel
  subst hsz
  have hD := hD0.self (sz := s.heap.size)
  generalize hAe : va_A (mZ K a (th, um, sm, sA, uA, kA, iA, wA, fA, cA, yA, tA)) s.heap.size = A at hD ⊢
  have hA : ∀ q : Nat, s.heap.size ≤ q → A q := fun q h => by rw [← hAe]; exact Or.inr h
  have hS : va_S A s.heap s.heap [] := va_S.rf
  have hP : va_P K.1 vwCl (mW K a th um sm sA uA kA iA wA fA cA yA tA) s.heap := hP
  have hD : va_D A (mW K a th um sm sA uA kA iA wA fA cA yA tA) := hD
  have hMS : okS sA := hM.1
  have hMU : okU um := hM.2.1
  have hMM : okM sm := hM.2.2.1
  have hMR : okR um uA := hM.2.2.2.1
  have hMK : okK kA iA := hM.2.2.2.2.1
  have hMZ : okZ K sm wA fA := hM.2.2.2.2.2
  have hl := lv_entry ([.ref (a 0), .int pq1, .int pq2]) (n := 4) (Nat.le_of_ble_eq_true rfl)
  rw [lg_entry_eq]
  generalize (lg_sl ([.ref (a 0), .int pq1, .int pq2]) ++ List.replicate (4 - (lg_sl ([.ref (a 0), .int pq1, .int pq2])).length) Slot.unset).toArray = ls at hl ⊢
  have hl : lv_has ls 4 [(0, .ref (a 0)), (1, .int pq1), (2, .int pq2)] := hl
  refine lv_aload_n hx hb dX6_strikes_0 rfl (lv_at hl 0 rfl) ?_
  refine lv_iconst (v := 0) hx hb dX6_strikes_1 (by decide) ?_
  refine va_put (D := K.1) (ci := 6) (v := .int 0) (ty := .int) (C := RX6) (T := TX6) (N := 12) hx hb hts hinX6 tyX6 tyX6_ok nmX6 hown hK hP hD hS 0 rfl rfl 0 (by decide) (hts (.fieldLink RX6 39 "CodedWordsModel" "thrown" "I") (by decide +kernel)) (fun _ h9 => h9) rfl (by decide +kernel) rfl rfl (Nat.le_of_ble_eq_true rfl) dX6_strikes_2 (fun H locs hP hD hS => ?_)
  have hP : va_P K.1 vwCl (mW K a 0 um sm sA uA kA iA wA fA cA yA tA) H := hP
  have hD : va_D A (mW K a 0 um sm sA uA kA iA wA fA cA yA tA) := hD
  refine lv_iload_n hx hb dX6_strikes_5 rfl (lv_at hl 1 rfl) ?_
  refine r_i (va_runS (As := [.int pq1]) (rest := []) ⟨hx, hb, hml, hown, hts⟩ (k_X6_isRegister l pq1) (va_cwS 1 hts gX6_strikes_X6_isRegister rfl rfl rfl (by decide +kernel) ⟨Nat.le_of_ble_eq_true rfl, Nat.le_of_ble_eq_true rfl⟩) (pPreS) rfl rfl hl.1 rfl (lv_room (Nat.le_of_ble_eq_true rfl)) dX6_strikes_6 ⟨Nat.le_of_ble_eq_true rfl, Nat.le_of_ble_eq_true rfl⟩) hP hS (fun rq6 H locs hp6 hP hS => ?_)
  refine lv_if_eq (tgt := 26) hx hb dX6_strikes_9 (by decide) (fun cq9 => ?_) (fun cq9 => ?_)
  · skip
    refine lv_ldc (v := (-1000001)) hx hb hown (hts (.constant RX6 71 (-1000001)) (by decide +kernel)) dX6_strikes_26 ?_
    exact W.iret (v := (-1000001)) hx hb hr (fun t ht hW => ⟨⟨(-1000001), (0, um, sm, sA, uA, kA, iA, wA, fA, cA, yA, tA), rfl, ⟨trivial, ⟨hMS, hMU, hMM, hMR, hMK, hMZ⟩⟩, by rw [ht]; exact hP, hD⟩, hS.F ht⟩) hS.2.2 dX6_strikes_28
  · skip
    refine lv_iload_n hx hb dX6_strikes_12 rfl (lv_at hl 2 rfl) ?_
    refine lv_iconst (v := 0) hx hb dX6_strikes_13 (by decide) ?_
    refine lv_aload_n hx hb dX6_strikes_14 rfl (lv_at hl 0 rfl) ?_
    refine r_i (K := K) (w := mW K a 0 um sm sA uA kA iA wA fA cA yA tA) (va_runV (As := []) (rest := [.int 0, .int pq2]) ⟨hx, hb, hml, hown, hts⟩ (k_X6_strikeMany l hMS) (cwV 0 hts gX6_strikes_X6_strikeMany rfl rfl rfl (by decide +kernel) ⟨Nat.le_of_ble_eq_true rfl, Nat.le_of_ble_eq_true rfl⟩) (rPreV (m_rcv hK hP) hP hK hD hN) rfl rfl hl.1 rfl (lv_room (Nat.le_of_ble_eq_true rfl)) dX6_strikes_15 ⟨Nat.le_of_ble_eq_true rfl, Nat.le_of_ble_eq_true rfl⟩) hP hS (fun rq15 H locs hp15 hP hS => ?_)
    refine lv_iconst (v := 1) hx hb dX6_strikes_18 (by decide) ?_
    refine lv_isub hx hb dX6_strikes_19 ?_
    refine lv_topi (fun vq19 eq19 => ?_)
    refine r_i (va_runS (As := [.int pq2, .int 0, .int vq19]) (rest := []) ⟨hx, hb, hml, hown, hts⟩ (k_X6_in l pq2 0 vq19) (va_cwS 3 hts gX6_strikes_X6_in rfl rfl rfl (by decide +kernel) ⟨Nat.le_of_ble_eq_true rfl, Nat.le_of_ble_eq_true rfl⟩) (pPreS) rfl rfl hl.1 rfl (lv_room (Nat.le_of_ble_eq_true rfl)) dX6_strikes_20 ⟨Nat.le_of_ble_eq_true rfl, Nat.le_of_ble_eq_true rfl⟩) hP hS (fun rq20 H locs hp20 hP hS => ?_)
    refine lv_if_ne (tgt := 29) hx hb dX6_strikes_23 (by decide) (fun cq23 => ?_) (fun cq23 => ?_)
    · skip
      refine lv_aload_n hx hb dX6_strikes_29 rfl (lv_at hl 0 rfl) ?_
      refine va_get (D := K.1) (ci := 6) (v := .ref (a 1)) (C := RX6) (T := TX6) (N := 12) hx hb hts hinX6 hown hK hP 0 rfl rfl 1 (by decide) (hts (.fieldLink RX6 7 "CodedWordsModel" "s" "[I") (by decide +kernel)) (fun _ h9 => h9) rfl dX6_strikes_30 ?_
      refine lv_iconst (v := 2) hx hb dX6_strikes_33 (by decide) ?_
      refine lv_iload_n hx hb dX6_strikes_34 rfl (lv_at hl 1 rfl) ?_
      refine lv_iadd hx hb dX6_strikes_35 ?_
      refine lv_topi (fun vq35 eq35 => ?_)
      refine va_iald hx hb hK hP 1 0 rfl rfl (iq_inreg (by decide) (by decide) (hp6.resolve_left cq9).2.1 (hp6.resolve_left cq9).2.2 eq35) dX6_strikes_36 ?_
      refine lv_topi (fun vq36 eq36 => ?_)
      refine lv_iload_n hx hb dX6_strikes_37 rfl (lv_at hl 2 rfl) ?_
      refine r_i (va_runS (As := [.int pq2]) (rest := [.int vq36]) ⟨hx, hb, hml, hown, hts⟩ (k_X6_by l pq2) (va_cwS 1 hts gX6_strikes_X6_by rfl rfl rfl (by decide +kernel) ⟨Nat.le_of_ble_eq_true rfl, Nat.le_of_ble_eq_true rfl⟩) (pPreS) rfl rfl hl.1 rfl (lv_room (Nat.le_of_ble_eq_true rfl)) dX6_strikes_38 ⟨Nat.le_of_ble_eq_true rfl, Nat.le_of_ble_eq_true rfl⟩) hP hS (fun rq38 H locs hp38 hP hS => ?_)
      refine lv_iadd hx hb dX6_strikes_41 ?_
      refine lv_topi (fun vq41 eq41 => ?_)
      refine lv_istore_n (lv' := [(3, .int vq41), (0, .ref (a 0)), (1, .int pq1), (2, .int pq2)]) hx hb dX6_strikes_42 rfl hl (by decide) rfl (fun ls hl => ?_)
      refine lv_iload_n hx hb dX6_strikes_43 rfl (lv_at hl 0 rfl) ?_
      refine lv_bipush (v := (-2)) hx hb dX6_strikes_44 (by decide) ?_
      refine lv_aload_n hx hb dX6_strikes_46 rfl (lv_at hl 1 rfl) ?_
      refine r_i (K := K) (w := mW K a 0 um sm sA uA kA iA wA fA cA yA tA) (va_runV (As := []) (rest := [.int (-2), .int vq41]) ⟨hx, hb, hml, hown, hts⟩ (k_X6_top l hMS) (cwV 0 hts gX6_strikes_X6_top rfl rfl rfl (by decide +kernel) ⟨Nat.le_of_ble_eq_true rfl, Nat.le_of_ble_eq_true rfl⟩) (rPreV (m_rcv hK hP) hP hK hD hN) rfl rfl hl.1 rfl (lv_room (Nat.le_of_ble_eq_true rfl)) dX6_strikes_47 ⟨Nat.le_of_ble_eq_true rfl, Nat.le_of_ble_eq_true rfl⟩) hP hS (fun rq47 H locs hp47 hP hS => ?_)
      refine lv_imul hx hb dX6_strikes_50 ?_
      refine lv_topi (fun vq50 eq50 => ?_)
      refine lv_iconst (v := 2) hx hb dX6_strikes_51 (by decide) ?_
      refine lv_aload_n hx hb dX6_strikes_52 rfl (lv_at hl 1 rfl) ?_
      refine r_i (K := K) (w := mW K a 0 um sm sA uA kA iA wA fA cA yA tA) (va_runV (As := []) (rest := [.int 2, .int vq50, .int vq41]) ⟨hx, hb, hml, hown, hts⟩ (k_X6_top l hMS) (cwV 0 hts gX6_strikes_X6_top rfl rfl rfl (by decide +kernel) ⟨Nat.le_of_ble_eq_true rfl, Nat.le_of_ble_eq_true rfl⟩) (rPreV (m_rcv hK hP) hP hK hD hN) rfl rfl hl.1 rfl (lv_room (Nat.le_of_ble_eq_true rfl)) dX6_strikes_53 ⟨Nat.le_of_ble_eq_true rfl, Nat.le_of_ble_eq_true rfl⟩) hP hS (fun rq53 H locs hp53 hP hS => ?_)
      refine lv_imul hx hb dX6_strikes_56 ?_
      refine lv_topi (fun vq56 eq56 => ?_)
      refine r_i (va_runS (As := [.int vq41, .int vq50, .int vq56]) (rest := []) ⟨hx, hb, hml, hown, hts⟩ (k_X6_in l vq41 vq50 vq56) (va_cwS 3 hts gX6_strikes_X6_in rfl rfl rfl (by decide +kernel) ⟨Nat.le_of_ble_eq_true rfl, Nat.le_of_ble_eq_true rfl⟩) (pPreS) rfl rfl hl.1 rfl (lv_room (Nat.le_of_ble_eq_true rfl)) dX6_strikes_57 ⟨Nat.le_of_ble_eq_true rfl, Nat.le_of_ble_eq_true rfl⟩) hP hS (fun rq57 H locs hp57 hP hS => ?_)
      refine lv_if_ne (tgt := 66) hx hb dX6_strikes_60 (by decide) (fun cq60 => ?_) (fun cq60 => ?_)
      · skip
        refine lv_aload_n hx hb dX6_strikes_66 rfl (lv_at hl 1 rfl) ?_
        refine m_v (K := K) (K2 := K) (a := a) (w := mW K a 0 um sm sA uA kA iA wA fA cA yA tA) (post := fun u => u.2.2.2.1 = sA) (va_runV (mc := 0) (ms := 0) (rm := rmX6_notes) (As := []) (rest := []) ⟨hx, hb, hml, hown, hts⟩ (k_X6_notes l (a := a) ⟨hMS, hMU, hMM, hMR, hMK, hMZ⟩ H.size ) (cwV 0 hts gX6_strikes_X6_notes rfl rfl rfl (by decide +kernel) ⟨Nat.le_of_ble_eq_true rfl, Nat.le_of_ble_eq_true rfl⟩) (kPreV (m_rcv hK hP) hP hK hD hN) rfl rfl hl.1 rfl (lv_room (Nat.le_of_ble_eq_true rfl)) dX6_strikes_67 ⟨Nat.le_of_ble_eq_true rfl, Nat.le_of_ble_eq_true rfl⟩) hD hS hA (fun uq67 H locs hp67 hM hP hD hS => ?_)
        obtain ⟨thN67, umN67, smN67, sN67, uN67, kN67, iN67, wN67, fN67, cN67, yN67, tN67⟩ := uq67
        have hP : va_P K.1 vwCl (mW K a thN67 umN67 smN67 sN67 uN67 kN67 iN67 wN67 fN67 cN67 yN67 tN67) H := hP
        have hD : va_D A (mW K a thN67 umN67 smN67 sN67 uN67 kN67 iN67 wN67 fN67 cN67 yN67 tN67) := hD
        have hMS : okS sN67 := hM.1
        have hMU : okU umN67 := hM.2.1
        have hMM : okM smN67 := hM.2.2.1
        have hMR : okR umN67 uN67 := hM.2.2.2.1
        have hMK : okK kN67 iN67 := hM.2.2.2.2.1
        have hMZ : okZ K smN67 wN67 fN67 := hM.2.2.2.2.2
        refine lv_aload_n hx hb dX6_strikes_70 rfl (lv_at hl 1 rfl) ?_
        refine va_get (D := K.1) (ci := 6) (v := .ref (a 1)) (C := RX6) (T := TX6) (N := 12) hx hb hts hinX6 hown hK hP 0 rfl rfl 1 (by decide) (hts (.fieldLink RX6 7 "CodedWordsModel" "s" "[I") (by decide +kernel)) (fun _ h9 => h9) rfl dX6_strikes_71 ?_
        refine lv_iconst (v := 2) hx hb dX6_strikes_74 (by decide) ?_
        refine lv_iload_n hx hb dX6_strikes_75 rfl (lv_at hl 2 rfl) ?_
        refine lv_iadd hx hb dX6_strikes_76 ?_
        refine lv_topi (fun vq76 eq76 => ?_)
        refine lv_iload_n hx hb dX6_strikes_77 rfl (lv_at hl 0 rfl) ?_
        refine va_iast hx hb hK hP hD hS 1 0 rfl rfl (iq_inreg (by decide) (by decide) (hp6.resolve_left cq9).2.1 (hp6.resolve_left cq9).2.2 eq76) dX6_strikes_78 (fun H locs hP hD hS => ?_)
        have hP : va_P K.1 vwCl (mW K a thN67 umN67 smN67 (upd sN67 (vq76 : Int32).toNatClampNeg vq41) uN67 kN67 iN67 wN67 fN67 cN67 yN67 tN67) H := hP
        have hD : va_D A (mW K a thN67 umN67 smN67 (upd sN67 (vq76 : Int32).toNatClampNeg vq41) uN67 kN67 iN67 wN67 fN67 cN67 yN67 tN67) := hD
        generalize en78 : upd sN67 (vq76 : Int32).toNatClampNeg vq41 = sN78 at hP hD
        have hMS : okS sN78 := hMS.upr (by decide) (by decide) (hp6.resolve_left cq9).2.1 (hp6.resolve_left cq9).2.2 eq76 en78
        refine lv_iload_n hx hb dX6_strikes_79 rfl (lv_at hl 0 rfl) ?_
        exact W.iret (v := vq41) hx hb hr (fun t ht hW => ⟨⟨vq41, (thN67, umN67, smN67, sN78, uN67, kN67, iN67, wN67, fN67, cN67, yN67, tN67), rfl, ⟨trivial, ⟨hMS, hMU, hMM, hMR, hMK, hMZ⟩⟩, by rw [ht]; exact hP, hD⟩, hS.F ht⟩) hS.2.2 dX6_strikes_80
      · skip
        refine lv_ldc (v := (-1000002)) hx hb hown (hts (.constant RX6 78 (-1000002)) (by decide +kernel)) dX6_strikes_63 ?_
        exact W.iret (v := (-1000002)) hx hb hr (fun t ht hW => ⟨⟨(-1000002), (0, um, sm, sA, uA, kA, iA, wA, fA, cA, yA, tA), rfl, ⟨trivial, ⟨hMS, hMU, hMM, hMR, hMK, hMZ⟩⟩, by rw [ht]; exact hP, hD⟩, hS.F ht⟩) hS.2.2 dX6_strikes_65
    · skip
      refine lv_ldc (v := (-1000001)) hx hb hown (hts (.constant RX6 71 (-1000001)) (by decide +kernel)) dX6_strikes_26 ?_
      exact W.iret (v := (-1000001)) hx hb hr (fun t ht hW => ⟨⟨(-1000001), (0, um, sm, sA, uA, kA, iA, wA, fA, cA, yA, tA), rfl, ⟨trivial, ⟨hMS, hMU, hMM, hMR, hMK, hMZ⟩⟩, by rw [ht]; exact hP, hD⟩, hS.F ht⟩) hS.2.2 dX6_strikes_28
abbrev rmX6_bends : Room := { frames := 2, cells := 0, slots := 0, locals := 42 }
set_option maxHeartbeats 4000000 in
set_option maxRecDepth 100000 in
theorem k_X6_bends (l : Launch) {K : Cx} {a : Nat → Nat} {th um sm : Int32} {sA uA kA iA wA fA cA : Nat → Int32} {yA tA : Nat → Int64} (hM : MI K (th, um, sm, sA, uA, kA, iA, wA, fA, cA, yA, tA)) (sz : Nat) (pq1 : Int32) (pq2 : Int32)  : Mi l K yX6_bends wsX6_bends rmX6_bends [.ref (a 0), .int pq1, .int pq2] a (th, um, sm, sA, uA, kA, iA, wA, fA, cA, yA, tA) sz (fun _ _ => True) := by
  refine Met.ofW (cc := cX6_bends) (maxL := 3) (ret := (some .int)) (by decide) rfl ?_
  intro p e s m args below meth c s₁ B hml hv
  obtain ⟨rfl, hsz, hP, hK, hD0, hN⟩ := hv
  have hx := B.exec
  have hb := B.bytes
  have hr := B.returns
  have hts := atoms_spec (ws := wsX6_bends) B.pre
  have hown : s.vm.findClass RX6 = some m.cls := findClass_of_methodNamed B.named
  have hlocks := B.notSynchronized
  have hinX6 : ∀ w ∈ wsX60, w ∈ wsX6_bends := by decide +kernel
  subst hsz
  have hD := hD0.self (sz := s.heap.size)
  generalize hAe : va_A (mZ K a (th, um, sm, sA, uA, kA, iA, wA, fA, cA, yA, tA)) s.heap.size = A at hD ⊢
  have hA : ∀ q : Nat, s.heap.size ≤ q → A q := fun q h => by rw [← hAe]; exact Or.inr h
  have hS : va_S A s.heap s.heap [] := va_S.rf
  have hP : va_P K.1 vwCl (mW K a th um sm sA uA kA iA wA fA cA yA tA) s.heap := hP
  have hD : va_D A (mW K a th um sm sA uA kA iA wA fA cA yA tA) := hD
  have hMS : okS sA := hM.1
  have hMU : okU um := hM.2.1
  have hMM : okM sm := hM.2.2.1
  have hMR : okR um uA := hM.2.2.2.1
  have hMK : okK kA iA := hM.2.2.2.2.1
  have hMZ : okZ K sm wA fA := hM.2.2.2.2.2
  have hl := lv_entry ([.ref (a 0), .int pq1, .int pq2]) (n := 3) (Nat.le_of_ble_eq_true rfl)
  rw [lg_entry_eq]
  generalize (lg_sl ([.ref (a 0), .int pq1, .int pq2]) ++ List.replicate (3 - (lg_sl ([.ref (a 0), .int pq1, .int pq2])).length) Slot.unset).toArray = ls at hl ⊢
  have hl : lv_has ls 3 [(0, .ref (a 0)), (1, .int pq1), (2, .int pq2)] := hl
  refine lv_aload_n hx hb dX6_bends_0 rfl (lv_at hl 0 rfl) ?_
  refine lv_iconst (v := 0) hx hb dX6_bends_1 (by decide) ?_
  refine va_put (D := K.1) (ci := 6) (v := .int 0) (ty := .int) (C := RX6) (T := TX6) (N := 12) hx hb hts hinX6 tyX6 tyX6_ok nmX6 hown hK hP hD hS 0 rfl rfl 0 (by decide) (hts (.fieldLink RX6 39 "CodedWordsModel" "thrown" "I") (by decide +kernel)) (fun _ h9 => h9) rfl (by decide +kernel) rfl rfl (Nat.le_of_ble_eq_true rfl) dX6_bends_2 (fun H locs hP hD hS => ?_)
  have hP : va_P K.1 vwCl (mW K a 0 um sm sA uA kA iA wA fA cA yA tA) H := hP
  have hD : va_D A (mW K a 0 um sm sA uA kA iA wA fA cA yA tA) := hD
  refine lv_iload_n hx hb dX6_bends_5 rfl (lv_at hl 1 rfl) ?_
  refine r_i (va_runS (As := [.int pq1]) (rest := []) ⟨hx, hb, hml, hown, hts⟩ (k_X6_isRegister l pq1) (va_cwS 1 hts gX6_bends_X6_isRegister rfl rfl rfl (by decide +kernel) ⟨Nat.le_of_ble_eq_true rfl, Nat.le_of_ble_eq_true rfl⟩) (pPreS) rfl rfl hl.1 rfl (lv_room (Nat.le_of_ble_eq_true rfl)) dX6_bends_6 ⟨Nat.le_of_ble_eq_true rfl, Nat.le_of_ble_eq_true rfl⟩) hP hS (fun rq6 H locs hp6 hP hS => ?_)
  refine lv_if_eq (tgt := 22) hx hb dX6_bends_9 (by decide) (fun cq9 => ?_) (fun cq9 => ?_)
  · skip
    refine lv_ldc (v := (-1000001)) hx hb hown (hts (.constant RX6 71 (-1000001)) (by decide +kernel)) dX6_bends_22 ?_
    exact W.iret (v := (-1000001)) hx hb hr (fun t ht hW => ⟨⟨(-1000001), (0, um, sm, sA, uA, kA, iA, wA, fA, cA, yA, tA), rfl, ⟨trivial, ⟨hMS, hMU, hMM, hMR, hMK, hMZ⟩⟩, by rw [ht]; exact hP, hD⟩, hS.F ht⟩) hS.2.2 dX6_bends_24
  · skip
    refine lv_iload_n hx hb dX6_bends_12 rfl (lv_at hl 2 rfl) ?_
    refine lv_iconst (v := 1) hx hb dX6_bends_13 (by decide) ?_
    refine lv_bipush (v := 14) hx hb dX6_bends_14 (by decide) ?_
    refine r_i (va_runS (As := [.int pq2, .int 1, .int 14]) (rest := []) ⟨hx, hb, hml, hown, hts⟩ (k_X6_in l pq2 1 14) (va_cwS 3 hts gX6_bends_X6_in rfl rfl rfl (by decide +kernel) ⟨Nat.le_of_ble_eq_true rfl, Nat.le_of_ble_eq_true rfl⟩) (pPreS) rfl rfl hl.1 rfl (lv_room (Nat.le_of_ble_eq_true rfl)) dX6_bends_16 ⟨Nat.le_of_ble_eq_true rfl, Nat.le_of_ble_eq_true rfl⟩) hP hS (fun rq16 H locs hp16 hP hS => ?_)
    refine lv_if_ne (tgt := 25) hx hb dX6_bends_19 (by decide) (fun cq19 => ?_) (fun cq19 => ?_)
    · skip
      refine lv_aload_n hx hb dX6_bends_25 rfl (lv_at hl 0 rfl) ?_
      refine m_v (K := K) (K2 := K) (a := a) (w := mW K a 0 um sm sA uA kA iA wA fA cA yA tA) (post := fun u => u.2.2.2.1 = sA) (va_runV (mc := 0) (ms := 0) (rm := rmX6_notes) (As := []) (rest := []) ⟨hx, hb, hml, hown, hts⟩ (k_X6_notes l (a := a) ⟨hMS, hMU, hMM, hMR, hMK, hMZ⟩ H.size ) (cwV 0 hts gX6_bends_X6_notes rfl rfl rfl (by decide +kernel) ⟨Nat.le_of_ble_eq_true rfl, Nat.le_of_ble_eq_true rfl⟩) (kPreV (m_rcv hK hP) hP hK hD hN) rfl rfl hl.1 rfl (lv_room (Nat.le_of_ble_eq_true rfl)) dX6_bends_26 ⟨Nat.le_of_ble_eq_true rfl, Nat.le_of_ble_eq_true rfl⟩) hD hS hA (fun uq26 H locs hp26 hM hP hD hS => ?_)
      obtain ⟨thN26, umN26, smN26, sN26, uN26, kN26, iN26, wN26, fN26, cN26, yN26, tN26⟩ := uq26
      have hP : va_P K.1 vwCl (mW K a thN26 umN26 smN26 sN26 uN26 kN26 iN26 wN26 fN26 cN26 yN26 tN26) H := hP
      have hD : va_D A (mW K a thN26 umN26 smN26 sN26 uN26 kN26 iN26 wN26 fN26 cN26 yN26 tN26) := hD
      have hMS : okS sN26 := hM.1
      have hMU : okU umN26 := hM.2.1
      have hMM : okM smN26 := hM.2.2.1
      have hMR : okR umN26 uN26 := hM.2.2.2.1
      have hMK : okK kN26 iN26 := hM.2.2.2.2.1
      have hMZ : okZ K smN26 wN26 fN26 := hM.2.2.2.2.2
      refine lv_aload_n hx hb dX6_bends_29 rfl (lv_at hl 0 rfl) ?_
      refine va_get (D := K.1) (ci := 6) (v := .ref (a 1)) (C := RX6) (T := TX6) (N := 12) hx hb hts hinX6 hown hK hP 0 rfl rfl 1 (by decide) (hts (.fieldLink RX6 7 "CodedWordsModel" "s" "[I") (by decide +kernel)) (fun _ h9 => h9) rfl dX6_bends_30 ?_
      refine lv_bipush (v := 6) hx hb dX6_bends_33 (by decide) ?_
      refine lv_iload_n hx hb dX6_bends_35 rfl (lv_at hl 1 rfl) ?_
      refine lv_iadd hx hb dX6_bends_36 ?_
      refine lv_topi (fun vq36 eq36 => ?_)
      refine lv_aload_n hx hb dX6_bends_37 rfl (lv_at hl 0 rfl) ?_
      refine va_get (D := K.1) (ci := 6) (v := .ref (a 1)) (C := RX6) (T := TX6) (N := 12) hx hb hts hinX6 hown hK hP 0 rfl rfl 1 (by decide) (hts (.fieldLink RX6 7 "CodedWordsModel" "s" "[I") (by decide +kernel)) (fun _ h9 => h9) rfl dX6_bends_38 ?_
      refine lv_bipush (v := 6) hx hb dX6_bends_41 (by decide) ?_
      refine lv_iload_n hx hb dX6_bends_43 rfl (lv_at hl 1 rfl) ?_
      refine lv_iadd hx hb dX6_bends_44 ?_
      refine lv_topi (fun vq44 eq44 => ?_)
      refine va_iald hx hb hK hP 1 0 rfl rfl (iq_inreg (by decide) (by decide) (hp6.resolve_left cq9).2.1 (hp6.resolve_left cq9).2.2 eq44) dX6_bends_45 ?_
      refine lv_topi (fun vq45 eq45 => ?_)
      refine lv_iload_n hx hb dX6_bends_46 rfl (lv_at hl 2 rfl) ?_
      refine lv_iadd hx hb dX6_bends_47 ?_
      refine lv_topi (fun vq47 eq47 => ?_)
      refine lv_bipush (v := 15) hx hb dX6_bends_48 (by decide) ?_
      refine lv_irem hx hb dX6_bends_50 (by decide) ?_
      refine lv_topi (fun vq50 eq50 => ?_)
      refine va_iast hx hb hK hP hD hS 1 0 rfl rfl (iq_inreg (by decide) (by decide) (hp6.resolve_left cq9).2.1 (hp6.resolve_left cq9).2.2 eq36) dX6_bends_51 (fun H locs hP hD hS => ?_)
      have hP : va_P K.1 vwCl (mW K a thN26 umN26 smN26 (upd sN26 (vq36 : Int32).toNatClampNeg vq50) uN26 kN26 iN26 wN26 fN26 cN26 yN26 tN26) H := hP
      have hD : va_D A (mW K a thN26 umN26 smN26 (upd sN26 (vq36 : Int32).toNatClampNeg vq50) uN26 kN26 iN26 wN26 fN26 cN26 yN26 tN26) := hD
      generalize en51 : upd sN26 (vq36 : Int32).toNatClampNeg vq50 = sN51 at hP hD
      have hMS : okS sN51 := hMS.upr (by decide) (by decide) (hp6.resolve_left cq9).2.1 (hp6.resolve_left cq9).2.2 eq36 en51
      refine lv_aload_n hx hb dX6_bends_52 rfl (lv_at hl 0 rfl) ?_
      refine va_get (D := K.1) (ci := 6) (v := .ref (a 1)) (C := RX6) (T := TX6) (N := 12) hx hb hts hinX6 hown hK hP 0 rfl rfl 1 (by decide) (hts (.fieldLink RX6 7 "CodedWordsModel" "s" "[I") (by decide +kernel)) (fun _ h9 => h9) rfl dX6_bends_53 ?_
      refine lv_bipush (v := 6) hx hb dX6_bends_56 (by decide) ?_
      refine lv_iload_n hx hb dX6_bends_58 rfl (lv_at hl 1 rfl) ?_
      refine lv_iadd hx hb dX6_bends_59 ?_
      refine lv_topi (fun vq59 eq59 => ?_)
      refine va_iald hx hb hK hP 1 0 rfl rfl (iq_inreg (by decide) (by decide) (hp6.resolve_left cq9).2.1 (hp6.resolve_left cq9).2.2 eq59) dX6_bends_60 ?_
      refine lv_topi (fun vq60 eq60 => ?_)
      exact W.iret (v := vq60) hx hb hr (fun t ht hW => ⟨⟨vq60, (thN26, umN26, smN26, sN51, uN26, kN26, iN26, wN26, fN26, cN26, yN26, tN26), rfl, ⟨trivial, ⟨hMS, hMU, hMM, hMR, hMK, hMZ⟩⟩, by rw [ht]; exact hP, hD⟩, hS.F ht⟩) hS.2.2 dX6_bends_61
    · skip
      refine lv_ldc (v := (-1000001)) hx hb hown (hts (.constant RX6 71 (-1000001)) (by decide +kernel)) dX6_bends_22 ?_
      exact W.iret (v := (-1000001)) hx hb hr (fun t ht hW => ⟨⟨(-1000001), (0, um, sm, sA, uA, kA, iA, wA, fA, cA, yA, tA), rfl, ⟨trivial, ⟨hMS, hMU, hMM, hMR, hMK, hMZ⟩⟩, by rw [ht]; exact hP, hD⟩, hS.F ht⟩) hS.2.2 dX6_bends_24
abbrev rmX6_weight : Room := { frames := 1, cells := 0, slots := 0, locals := 22 }
set_option maxHeartbeats 4000000 in
set_option maxRecDepth 100000 in
theorem k_X6_weight (l : Launch) {K : Cx} {a : Nat → Nat} {th um sm : Int32} {sA uA kA iA wA fA cA : Nat → Int32} {yA tA : Nat → Int64} (hM : MI K (th, um, sm, sA, uA, kA, iA, wA, fA, cA, yA, tA)) (sz : Nat) (pq1 : Int32)  : Mi l K yX6_weight wsX6_weight rmX6_weight [.ref (a 0), .int pq1] a (th, um, sm, sA, uA, kA, iA, wA, fA, cA, yA, tA) sz (fun (r : Int32) _ => r.toInt = wAns pq1) := by
  refine Met.ofW (cc := cX6_weight) (maxL := 2) (ret := (some .int)) (by decide) rfl ?_
  intro p e s m args below meth c s₁ B hml hv
  obtain ⟨rfl, hsz, hP, hK, hD0, hN⟩ := hv
  have hx := B.exec
  have hb := B.bytes
  have hr := B.returns
  have hts := atoms_spec (ws := wsX6_weight) B.pre
  have hown : s.vm.findClass RX6 = some m.cls := findClass_of_methodNamed B.named
  have hlocks := B.notSynchronized
  have hinX6 : ∀ w ∈ wsX60, w ∈ wsX6_weight := by decide +kernel
  subst hsz
  have hD := hD0.self (sz := s.heap.size)
  generalize hAe : va_A (mZ K a (th, um, sm, sA, uA, kA, iA, wA, fA, cA, yA, tA)) s.heap.size = A at hD ⊢
  have hA : ∀ q : Nat, s.heap.size ≤ q → A q := fun q h => by rw [← hAe]; exact Or.inr h
  have hS : va_S A s.heap s.heap [] := va_S.rf
  have hP : va_P K.1 vwCl (mW K a th um sm sA uA kA iA wA fA cA yA tA) s.heap := hP
  have hD : va_D A (mW K a th um sm sA uA kA iA wA fA cA yA tA) := hD
  have hMS : okS sA := hM.1
  have hMU : okU um := hM.2.1
  have hMM : okM sm := hM.2.2.1
  have hMR : okR um uA := hM.2.2.2.1
  have hMK : okK kA iA := hM.2.2.2.2.1
  have hMZ : okZ K sm wA fA := hM.2.2.2.2.2
  have hl := lv_entry ([.ref (a 0), .int pq1]) (n := 2) (Nat.le_of_ble_eq_true rfl)
  rw [lg_entry_eq]
  generalize (lg_sl ([.ref (a 0), .int pq1]) ++ List.replicate (2 - (lg_sl ([.ref (a 0), .int pq1])).length) Slot.unset).toArray = ls at hl ⊢
  have hl : lv_has ls 2 [(0, .ref (a 0)), (1, .int pq1)] := hl
  refine lv_aload_n hx hb dX6_weight_0 rfl (lv_at hl 0 rfl) ?_
  refine lv_iconst (v := 0) hx hb dX6_weight_1 (by decide) ?_
  refine va_put (D := K.1) (ci := 6) (v := .int 0) (ty := .int) (C := RX6) (T := TX6) (N := 12) hx hb hts hinX6 tyX6 tyX6_ok nmX6 hown hK hP hD hS 0 rfl rfl 0 (by decide) (hts (.fieldLink RX6 39 "CodedWordsModel" "thrown" "I") (by decide +kernel)) (fun _ h9 => h9) rfl (by decide +kernel) rfl rfl (Nat.le_of_ble_eq_true rfl) dX6_weight_2 (fun H locs hP hD hS => ?_)
  have hP : va_P K.1 vwCl (mW K a 0 um sm sA uA kA iA wA fA cA yA tA) H := hP
  have hD : va_D A (mW K a 0 um sm sA uA kA iA wA fA cA yA tA) := hD
  refine lv_iload_n hx hb dX6_weight_5 rfl (lv_at hl 1 rfl) ?_
  refine lv_ldc (v := (-99999)) hx hb hown (hts (.constant RX6 111 (-99999)) (by decide +kernel)) dX6_weight_6 ?_
  refine lv_ldc (v := 99999) hx hb hown (hts (.constant RX6 112 99999) (by decide +kernel)) dX6_weight_8 ?_
  refine r_i (va_runS (As := [.int pq1, .int (-99999), .int 99999]) (rest := []) ⟨hx, hb, hml, hown, hts⟩ (k_X6_in l pq1 ((-99999)) 99999) (va_cwS 3 hts gX6_weight_X6_in rfl rfl rfl (by decide +kernel) ⟨Nat.le_of_ble_eq_true rfl, Nat.le_of_ble_eq_true rfl⟩) (pPreS) rfl rfl hl.1 rfl (lv_room (Nat.le_of_ble_eq_true rfl)) dX6_weight_10 ⟨Nat.le_of_ble_eq_true rfl, Nat.le_of_ble_eq_true rfl⟩) hP hS (fun rq10 H locs hp10 hP hS => ?_)
  refine lv_if_eq (tgt := 23) hx hb dX6_weight_13 (by decide) (fun cq13 => ?_) (fun cq13 => ?_)
  · skip
    refine lv_ldc (v := (-1000001)) hx hb hown (hts (.constant RX6 71 (-1000001)) (by decide +kernel)) dX6_weight_23 ?_
    exact W.iret (v := (-1000001)) hx hb hr (fun t ht hW => ⟨⟨(-1000001), (0, um, sm, sA, uA, kA, iA, wA, fA, cA, yA, tA), rfl, ⟨by first | exact wAns_in (by have h := (hp10.resolve_left (fun q => cq13 q.1)).2.1; rw [iq_le] at h; exact h) (by have h := (hp10.resolve_left (fun q => cq13 q.1)).2.2; rw [iq_le] at h; exact h) hp17 | exact wAns_out (fun h => (hp10.resolve_right (fun q => by rw [q.1] at cq13; exact absurd cq13 (by decide))).2 ⟨by rw [iq_le]; exact h.1, by rw [iq_le]; exact h.2⟩), ⟨hMS, hMU, hMM, hMR, hMK, hMZ⟩⟩, by rw [ht]; exact hP, hD⟩, hS.F ht⟩) hS.2.2 dX6_weight_25
  · skip
    refine lv_iload_n hx hb dX6_weight_16 rfl (lv_at hl 1 rfl) ?_
    refine r_i (va_runS (As := [.int pq1]) (rest := []) ⟨hx, hb, hml, hown, hts⟩ (k_X6_weightOf l pq1 (by have h := (hp10.resolve_left (fun q => cq13 q.1)).2.1; rw [iq_le] at h; exact h) (by have h := (hp10.resolve_left (fun q => cq13 q.1)).2.2; rw [iq_le] at h; exact h)) (va_cwS 1 hts gX6_weight_X6_weightOf rfl rfl rfl (by decide +kernel) ⟨Nat.le_of_ble_eq_true rfl, Nat.le_of_ble_eq_true rfl⟩) (pPreS) rfl rfl hl.1 rfl (lv_room (Nat.le_of_ble_eq_true rfl)) dX6_weight_17 ⟨Nat.le_of_ble_eq_true rfl, Nat.le_of_ble_eq_true rfl⟩) hP hS (fun rq17 H locs hp17 hP hS => ?_)
    refine lv_goto (tgt := 25) hx hb dX6_weight_20 (by decide) ?_
    exact W.iret (v := rq17) hx hb hr (fun t ht hW => ⟨⟨rq17, (0, um, sm, sA, uA, kA, iA, wA, fA, cA, yA, tA), rfl, ⟨by first | exact wAns_in (by have h := (hp10.resolve_left (fun q => cq13 q.1)).2.1; rw [iq_le] at h; exact h) (by have h := (hp10.resolve_left (fun q => cq13 q.1)).2.2; rw [iq_le] at h; exact h) hp17 | exact wAns_out (fun h => (hp10.resolve_right (fun q => by rw [q.1] at cq13; exact absurd cq13 (by decide))).2 ⟨by rw [iq_le]; exact h.1, by rw [iq_le]; exact h.2⟩), ⟨hMS, hMU, hMM, hMR, hMK, hMZ⟩⟩, by rw [ht]; exact hP, hD⟩, hS.F ht⟩) hS.2.2 dX6_weight_25
abbrev rmX6_distance : Room := { frames := 2, cells := 0, slots := 0, locals := 46 }
set_option maxHeartbeats 4000000 in
set_option maxRecDepth 100000 in
theorem k_X6_distance (l : Launch) {K : Cx} {a : Nat → Nat} {th um sm : Int32} {sA uA kA iA wA fA cA : Nat → Int32} {yA tA : Nat → Int64} (hM : MI K (th, um, sm, sA, uA, kA, iA, wA, fA, cA, yA, tA)) (sz : Nat) (pq1 : Int32) (pq2 : Int32)  : Mi l K yX6_distance wsX6_distance rmX6_distance [.ref (a 0), .int pq1, .int pq2] a (th, um, sm, sA, uA, kA, iA, wA, fA, cA, yA, tA) sz (fun (r : Int32) _ => dA pq1 pq2 r) := by
  refine Met.ofW (cc := cX6_distance) (maxL := 3) (ret := (some .int)) (by decide) rfl ?_
  intro p e s m args below meth c s₁ B hml hv
  obtain ⟨rfl, hsz, hP, hK, hD0, hN⟩ := hv
  have hx := B.exec
  have hb := B.bytes
  have hr := B.returns
  have hts := atoms_spec (ws := wsX6_distance) B.pre
  have hown : s.vm.findClass RX6 = some m.cls := findClass_of_methodNamed B.named
  have hlocks := B.notSynchronized
  have hinX6 : ∀ w ∈ wsX60, w ∈ wsX6_distance := by decide +kernel
  subst hsz
  have hD := hD0.self (sz := s.heap.size)
  generalize hAe : va_A (mZ K a (th, um, sm, sA, uA, kA, iA, wA, fA, cA, yA, tA)) s.heap.size = A at hD ⊢
  have hA : ∀ q : Nat, s.heap.size ≤ q → A q := fun q h => by rw [← hAe]; exact Or.inr h
  have hS : va_S A s.heap s.heap [] := va_S.rf
  have hP : va_P K.1 vwCl (mW K a th um sm sA uA kA iA wA fA cA yA tA) s.heap := hP
  have hD : va_D A (mW K a th um sm sA uA kA iA wA fA cA yA tA) := hD
  have hMS : okS sA := hM.1
  have hMU : okU um := hM.2.1
  have hMM : okM sm := hM.2.2.1
  have hMR : okR um uA := hM.2.2.2.1
  have hMK : okK kA iA := hM.2.2.2.2.1
  have hMZ : okZ K sm wA fA := hM.2.2.2.2.2
  have hl := lv_entry ([.ref (a 0), .int pq1, .int pq2]) (n := 3) (Nat.le_of_ble_eq_true rfl)
  rw [lg_entry_eq]
  generalize (lg_sl ([.ref (a 0), .int pq1, .int pq2]) ++ List.replicate (3 - (lg_sl ([.ref (a 0), .int pq1, .int pq2])).length) Slot.unset).toArray = ls at hl ⊢
  have hl : lv_has ls 3 [(0, .ref (a 0)), (1, .int pq1), (2, .int pq2)] := hl
  refine lv_aload_n hx hb dX6_distance_0 rfl (lv_at hl 0 rfl) ?_
  refine lv_iconst (v := 0) hx hb dX6_distance_1 (by decide) ?_
  refine va_put (D := K.1) (ci := 6) (v := .int 0) (ty := .int) (C := RX6) (T := TX6) (N := 12) hx hb hts hinX6 tyX6 tyX6_ok nmX6 hown hK hP hD hS 0 rfl rfl 0 (by decide) (hts (.fieldLink RX6 39 "CodedWordsModel" "thrown" "I") (by decide +kernel)) (fun _ h9 => h9) rfl (by decide +kernel) rfl rfl (Nat.le_of_ble_eq_true rfl) dX6_distance_2 (fun H locs hP hD hS => ?_)
  have hP : va_P K.1 vwCl (mW K a 0 um sm sA uA kA iA wA fA cA yA tA) H := hP
  have hD : va_D A (mW K a 0 um sm sA uA kA iA wA fA cA yA tA) := hD
  refine lv_iload_n hx hb dX6_distance_5 rfl (lv_at hl 1 rfl) ?_
  refine r_i (va_runS (As := [.int pq1]) (rest := []) ⟨hx, hb, hml, hown, hts⟩ (k_X6_isConstant l pq1) (va_cwS 1 hts gX6_distance_X6_isConstant rfl rfl rfl (by decide +kernel) ⟨Nat.le_of_ble_eq_true rfl, Nat.le_of_ble_eq_true rfl⟩) (pPreS) rfl rfl hl.1 rfl (lv_room (Nat.le_of_ble_eq_true rfl)) dX6_distance_6 ⟨Nat.le_of_ble_eq_true rfl, Nat.le_of_ble_eq_true rfl⟩) hP hS (fun rq6 H locs hp6 hP hS => ?_)
  refine lv_if_eq (tgt := 30) hx hb dX6_distance_9 (by decide) (fun cq9 => ?_) (fun cq9 => ?_)
  · skip
    refine lv_ldc (v := (-1000001)) hx hb hown (hts (.constant RX6 71 (-1000001)) (by decide +kernel)) dX6_distance_30 ?_
    exact W.iret (v := (-1000001)) hx hb hr (fun t ht hW => ⟨⟨(-1000001), (0, um, sm, sA, uA, kA, iA, wA, fA, cA, yA, tA), rfl, ⟨by first | exact Or.inr ⟨(hp6.1.resolve_left cq9).2, ⟨(by have h := (hp16.resolve_left (fun q => cq19 q.1)).2.1; rw [iq_le] at h; exact h), (by have h := (hp16.resolve_left (fun q => cq19 q.1)).2.2; rw [iq_le] at h; exact h)⟩, hp24⟩ | exact Or.inl ⟨fun h => (hp16.resolve_right (fun q => by rw [q.1] at cq19; exact absurd cq19 (by decide))).2 ⟨by rw [iq_le]; exact h.2.1, by rw [iq_le]; exact h.2.2⟩, rfl⟩ | exact Or.inl ⟨fun h => hp6.2 cq9 h.1, rfl⟩, ⟨hMS, hMU, hMM, hMR, hMK, hMZ⟩⟩, by rw [ht]; exact hP, hD⟩, hS.F ht⟩) hS.2.2 dX6_distance_32
  · skip
    refine lv_iload_n hx hb dX6_distance_12 rfl (lv_at hl 2 rfl) ?_
    refine lv_iconst (v := 4) hx hb dX6_distance_13 (by decide) ?_
    refine lv_bipush (v := 16) hx hb dX6_distance_14 (by decide) ?_
    refine r_i (va_runS (As := [.int pq2, .int 4, .int 16]) (rest := []) ⟨hx, hb, hml, hown, hts⟩ (k_X6_in l pq2 4 16) (va_cwS 3 hts gX6_distance_X6_in rfl rfl rfl (by decide +kernel) ⟨Nat.le_of_ble_eq_true rfl, Nat.le_of_ble_eq_true rfl⟩) (pPreS) rfl rfl hl.1 rfl (lv_room (Nat.le_of_ble_eq_true rfl)) dX6_distance_16 ⟨Nat.le_of_ble_eq_true rfl, Nat.le_of_ble_eq_true rfl⟩) hP hS (fun rq16 H locs hp16 hP hS => ?_)
    refine lv_if_eq (tgt := 30) hx hb dX6_distance_19 (by decide) (fun cq19 => ?_) (fun cq19 => ?_)
    · skip
      refine lv_ldc (v := (-1000001)) hx hb hown (hts (.constant RX6 71 (-1000001)) (by decide +kernel)) dX6_distance_30 ?_
      exact W.iret (v := (-1000001)) hx hb hr (fun t ht hW => ⟨⟨(-1000001), (0, um, sm, sA, uA, kA, iA, wA, fA, cA, yA, tA), rfl, ⟨by first | exact Or.inr ⟨(hp6.1.resolve_left cq9).2, ⟨(by have h := (hp16.resolve_left (fun q => cq19 q.1)).2.1; rw [iq_le] at h; exact h), (by have h := (hp16.resolve_left (fun q => cq19 q.1)).2.2; rw [iq_le] at h; exact h)⟩, hp24⟩ | exact Or.inl ⟨fun h => (hp16.resolve_right (fun q => by rw [q.1] at cq19; exact absurd cq19 (by decide))).2 ⟨by rw [iq_le]; exact h.2.1, by rw [iq_le]; exact h.2.2⟩, rfl⟩ | exact Or.inl ⟨fun h => hp6.2 cq9 h.1, rfl⟩, ⟨hMS, hMU, hMM, hMR, hMK, hMZ⟩⟩, by rw [ht]; exact hP, hD⟩, hS.F ht⟩) hS.2.2 dX6_distance_32
    · skip
      refine lv_iload_n hx hb dX6_distance_22 rfl (lv_at hl 1 rfl) ?_
      refine lv_iload_n hx hb dX6_distance_23 rfl (lv_at hl 2 rfl) ?_
      refine r_i (va_runS (As := [.int pq1, .int pq2]) (rest := []) ⟨hx, hb, hml, hown, hts⟩ (k_X6_distanceOf l pq1 pq2 ((hp6.1.resolve_left cq9).2.1) ((hp6.1.resolve_left cq9).2.2.1) (by have h := (hp16.resolve_left (fun q => cq19 q.1)).2.1; rw [iq_le] at h; exact h) (by have h := (hp16.resolve_left (fun q => cq19 q.1)).2.2; rw [iq_le] at h; exact h)) (va_cwS 2 hts gX6_distance_X6_distanceOf rfl rfl rfl (by decide +kernel) ⟨Nat.le_of_ble_eq_true rfl, Nat.le_of_ble_eq_true rfl⟩) (pPreS) rfl rfl hl.1 rfl (lv_room (Nat.le_of_ble_eq_true rfl)) dX6_distance_24 ⟨Nat.le_of_ble_eq_true rfl, Nat.le_of_ble_eq_true rfl⟩) hP hS (fun rq24 H locs hp24 hP hS => ?_)
      refine lv_goto (tgt := 32) hx hb dX6_distance_27 (by decide) ?_
      exact W.iret (v := rq24) hx hb hr (fun t ht hW => ⟨⟨rq24, (0, um, sm, sA, uA, kA, iA, wA, fA, cA, yA, tA), rfl, ⟨by first | exact Or.inr ⟨(hp6.1.resolve_left cq9).2, ⟨(by have h := (hp16.resolve_left (fun q => cq19 q.1)).2.1; rw [iq_le] at h; exact h), (by have h := (hp16.resolve_left (fun q => cq19 q.1)).2.2; rw [iq_le] at h; exact h)⟩, hp24⟩ | exact Or.inl ⟨fun h => (hp16.resolve_right (fun q => by rw [q.1] at cq19; exact absurd cq19 (by decide))).2 ⟨by rw [iq_le]; exact h.2.1, by rw [iq_le]; exact h.2.2⟩, rfl⟩ | exact Or.inl ⟨fun h => hp6.2 cq9 h.1, rfl⟩, ⟨hMS, hMU, hMM, hMR, hMK, hMZ⟩⟩, by rw [ht]; exact hP, hD⟩, hS.F ht⟩) hS.2.2 dX6_distance_32
abbrev rmX6_least : Room := { frames := 2, cells := 0, slots := 0, locals := 46 }
set_option maxHeartbeats 4000000 in
set_option maxRecDepth 100000 in
theorem k_X6_least (l : Launch) {K : Cx} {a : Nat → Nat} {th um sm : Int32} {sA uA kA iA wA fA cA : Nat → Int32} {yA tA : Nat → Int64} (hM : MI K (th, um, sm, sA, uA, kA, iA, wA, fA, cA, yA, tA)) (sz : Nat) (pq1 : Int32) (pq2 : Int32)  : Mi l K yX6_least wsX6_least rmX6_least [.ref (a 0), .int pq1, .int pq2] a (th, um, sm, sA, uA, kA, iA, wA, fA, cA, yA, tA) sz (fun (r : Int32) _ => lA pq1 pq2 r) := by
  refine Met.ofW (cc := cX6_least) (maxL := 4) (ret := (some .int)) (by decide) rfl ?_
  intro p e s m args below meth c s₁ B hml hv
  obtain ⟨rfl, hsz, hP, hK, hD0, hN⟩ := hv
  have hx := B.exec
  have hb := B.bytes
  have hr := B.returns
  have hts := atoms_spec (ws := wsX6_least) B.pre
  have hown : s.vm.findClass RX6 = some m.cls := findClass_of_methodNamed B.named
  have hlocks := B.notSynchronized
  have hinX6 : ∀ w ∈ wsX60, w ∈ wsX6_least := by decide +kernel
  subst hsz
  have hD := hD0.self (sz := s.heap.size)
  generalize hAe : va_A (mZ K a (th, um, sm, sA, uA, kA, iA, wA, fA, cA, yA, tA)) s.heap.size = A at hD ⊢
  have hA : ∀ q : Nat, s.heap.size ≤ q → A q := fun q h => by rw [← hAe]; exact Or.inr h
  have hS : va_S A s.heap s.heap [] := va_S.rf
  have hP : va_P K.1 vwCl (mW K a th um sm sA uA kA iA wA fA cA yA tA) s.heap := hP
  have hD : va_D A (mW K a th um sm sA uA kA iA wA fA cA yA tA) := hD
  have hMS : okS sA := hM.1
  have hMU : okU um := hM.2.1
  have hMM : okM sm := hM.2.2.1
  have hMR : okR um uA := hM.2.2.2.1
  have hMK : okK kA iA := hM.2.2.2.2.1
  have hMZ : okZ K sm wA fA := hM.2.2.2.2.2
  have hl := lv_entry ([.ref (a 0), .int pq1, .int pq2]) (n := 4) (Nat.le_of_ble_eq_true rfl)
  rw [lg_entry_eq]
  generalize (lg_sl ([.ref (a 0), .int pq1, .int pq2]) ++ List.replicate (4 - (lg_sl ([.ref (a 0), .int pq1, .int pq2])).length) Slot.unset).toArray = ls at hl ⊢
  have hl : lv_has ls 4 [(0, .ref (a 0)), (1, .int pq1), (2, .int pq2)] := hl
  have hJ29 : ∀ (n29 : Nat) (thL : Int32) (umL : Int32) (smL : Int32) (sL : Nat → Int32) (uL : Nat → Int32) (kL : Nat → Int32) (iL : Nat → Int32) (wL : Nat → Int32) (fL : Nat → Int32) (cL : Nat → Int32) (yL : Nat → Int64) (tL : Nat → Int64) (H : Heap) (locs : List Loc) (zq3 : Int32), (va_P K.1 vwCl (mW K a thL umL smL sL uL kL iL wL fL cL yL tL) H) → (va_D A (mW K a thL umL smL sL uL kL iL wL fL cL yL tL)) → (va_S A s.heap H locs) → (okS sL) → (okU umL) → (okM smL) → (okR umL uL) → (okK kL iL) → (okZ K smL wL fL) → (3 ≤ zq3.toInt) → (4 ≤ pq2.toInt ∧ pq2.toInt ≤ 16) → (isDd pq1) → (zq3.toInt % 2 = 1) → (lsN (2 ^ pq2.toInt.toNat) pq1.toInt.toNat zq3.toInt.toNat) → ((2147483647 - zq3.toInt).toNat < n29) → ∀ (ls : Array Slot), lv_has ls 4 [(1, .int pq1), (2, .int pq2), (3, .int zq3)] → W p l e rmX6_least s m [.ref (a 0), .int pq1, .int pq2].toArray below meth c H locs 0 0 (MQ below (va_Qi (fun (r : Int32) (u : MZ) => (fun (r : Int32) _ => lA pq1 pq2 r) r u ∧ MI (K) u) (fun u t => va_P K.1 vwCl (mZ K a u) t.heap ∧ va_D A (mZ K a u)) A) [.ref (a 0), .int pq1, .int pq2].toArray s 0 0 A) (F0 m 29 ls []) := by
    intro n29
    induction n29 with
    | zero =>
      intro thL umL smL sL uL kL iL wL fL cL yL tL H locs zq3 hP hD hS hMS hMU hMM hMR hMK hMZ i29_0 i29_1 i29_2 i29_3 i29_4 hm29 ls hl
      exact absurd hm29 (Nat.not_lt_zero _)
    | succ n29 ih29 =>
      intro thL umL smL sL uL kL iL wL fL cL yL tL H locs zq3 hP hD hS hMS hMU hMM hMR hMK hMZ i29_0 i29_1 i29_2 i29_3 i29_4 hm29 ls hl
      refine lv_iload_n hx hb dX6_least_29 rfl (lv_at hl 2 rfl) ?_
      refine lv_sipush (v := 200) hx hb dX6_least_30 (by decide) ?_
      refine lv_icmp_ge (tgt := 53) hx hb dX6_least_33 (by decide) (fun cq33 => ?_) (fun cq33 => ?_)
      · skip
        refine lv_ldc (v := (-1000000)) hx hb hown (hts (.constant RX6 110 (-1000000)) (by decide +kernel)) dX6_least_53 ?_
        exact W.iret (v := (-1000000)) hx hb hr (fun t ht hW => ⟨⟨(-1000000), (thL, umL, smL, sL, uL, kL, iL, wL, fL, cL, yL, tL), rfl, ⟨Or.inr ⟨i29_2, i29_1, ls_none i29_4 (by rw [iq_le] at cq33; exact cq33)⟩, ⟨hMS, hMU, hMM, hMR, hMK, hMZ⟩⟩, by rw [ht]; exact hP, hD⟩, hS.F ht⟩) hS.2.2 dX6_least_55
      · skip
        refine lv_iload_n hx hb dX6_least_36 rfl (lv_at hl 2 rfl) ?_
        refine lv_iload_n hx hb dX6_least_37 rfl (lv_at hl 1 rfl) ?_
        refine r_i (va_runS (As := [.int zq3, .int pq2]) (rest := []) ⟨hx, hb, hml, hown, hts⟩ (k_X6_distanceOf l zq3 pq2 (i29_0) (by rw [iq_le] at cq33; have h9 : ¬ (200 : Int) ≤ zq3.toInt := cq33; omega) (i29_1.1) (i29_1.2)) (va_cwS 2 hts gX6_least_X6_distanceOf rfl rfl rfl (by decide +kernel) ⟨Nat.le_of_ble_eq_true rfl, Nat.le_of_ble_eq_true rfl⟩) (pPreS) rfl rfl hl.1 rfl (lv_room (Nat.le_of_ble_eq_true rfl)) dX6_least_38 ⟨Nat.le_of_ble_eq_true rfl, Nat.le_of_ble_eq_true rfl⟩) hP hS (fun rq38 H locs hp38 hP hS => ?_)
        have hd0 := i29_2.1
        have hiff := d_has (d := pq1.toInt.toNat) (by omega) hp38
        refine lv_iload_n hx hb dX6_least_41 rfl (lv_at hl 0 rfl) ?_
        refine lv_icmp_lt (tgt := 47) hx hb dX6_least_42 (by decide) (fun cq42 => ?_) (fun cq42 => ?_)
        · skip
          have hno : ¬ hasD (2 ^ pq2.toInt.toNat) pq1.toInt.toNat zq3.toInt.toNat := fun q => by have h9 := hiff.mpr q; rw [iq_lt] at cq42; omega
          obtain ⟨vq47, eq47⟩ : ∃ y : Int32, y = zq3 + 2 := ⟨_, rfl⟩
          refine lv_iinc (v := vq47) (lv' := [(3, .int vq47), (1, .int pq1), (2, .int pq2)]) hx hb dX6_least_47 hl (k := 2) rfl (by rw [eq47]; rfl) (by decide) rfl (fun ls hl => ?_)
          refine lv_goto (tgt := 29) hx hb dX6_least_50 (by decide) ?_
          exact ih29 thL umL smL sL uL kL iL wL fL cL yL tL _ _ vq47 hP hD hS hMS hMU hMM hMR hMK hMZ (by first | (have h := iq_add2 eq47 (by rw [iq_le] at cq33; have h9 : ¬ (200 : Int) ≤ zq3.toInt := cq33; omega); omega) | decide) (by first | exact i29_1 | exact ⟨(by have h := (hp18.resolve_left (fun q => cq21 q.1)).2.1; rw [iq_le] at h; exact h), (by have h := (hp18.resolve_left (fun q => cq21 q.1)).2.2; rw [iq_le] at h; exact h)⟩) (by first | exact i29_2 | exact ⟨(by have h := (hp8.resolve_left (fun q => cq11 q.1)).2.1; rw [iq_le] at h; exact h), (by have h := (hp8.resolve_left (fun q => cq11 q.1)).2.2; rw [iq_le] at h; exact h)⟩) (by first | (have h := iq_add2 eq47 (by rw [iq_le] at cq33; have h9 : ¬ (200 : Int) ≤ zq3.toInt := cq33; omega); omega) | decide) (by first | exact lsN_0 | exact lsN_next i29_4 i29_0 i29_3 hno (iq_add2 eq47 (by rw [iq_le] at cq33; have h9 : ¬ (200 : Int) ≤ zq3.toInt := cq33; omega))) (iq_upg2 hm29 cq33 (by decide) eq47) _ (lv_sub hl [1, 2, 0] rfl)
        · skip
          refine lv_iload_n hx hb dX6_least_45 rfl (lv_at hl 2 rfl) ?_
          exact W.iret (v := zq3) hx hb hr (fun t ht hW => ⟨⟨zq3, (thL, umL, smL, sL, uL, kL, iL, wL, fL, cL, yL, tL), rfl, ⟨Or.inr ⟨i29_2, i29_1, ls_some i29_4 i29_0 (by rw [iq_le] at cq33; have h9 : ¬ (200 : Int) ≤ zq3.toInt := cq33; omega) i29_3 (hiff.mp (by rw [iq_lt] at cq42; omega))⟩, ⟨hMS, hMU, hMM, hMR, hMK, hMZ⟩⟩, by rw [ht]; exact hP, hD⟩, hS.F ht⟩) hS.2.2 dX6_least_46
  refine lv_aload_n hx hb dX6_least_0 rfl (lv_at hl 0 rfl) ?_
  refine lv_iconst (v := 0) hx hb dX6_least_1 (by decide) ?_
  refine va_put (D := K.1) (ci := 6) (v := .int 0) (ty := .int) (C := RX6) (T := TX6) (N := 12) hx hb hts hinX6 tyX6 tyX6_ok nmX6 hown hK hP hD hS 0 rfl rfl 0 (by decide) (hts (.fieldLink RX6 39 "CodedWordsModel" "thrown" "I") (by decide +kernel)) (fun _ h9 => h9) rfl (by decide +kernel) rfl rfl (Nat.le_of_ble_eq_true rfl) dX6_least_2 (fun H locs hP hD hS => ?_)
  have hP : va_P K.1 vwCl (mW K a 0 um sm sA uA kA iA wA fA cA yA tA) H := hP
  have hD : va_D A (mW K a 0 um sm sA uA kA iA wA fA cA yA tA) := hD
  refine lv_iload_n hx hb dX6_least_5 rfl (lv_at hl 1 rfl) ?_
  refine lv_iconst (v := 1) hx hb dX6_least_6 (by decide) ?_
  refine lv_iconst (v := 5) hx hb dX6_least_7 (by decide) ?_
  refine r_i (va_runS (As := [.int pq1, .int 1, .int 5]) (rest := []) ⟨hx, hb, hml, hown, hts⟩ (k_X6_in l pq1 1 5) (va_cwS 3 hts gX6_least_X6_in rfl rfl rfl (by decide +kernel) ⟨Nat.le_of_ble_eq_true rfl, Nat.le_of_ble_eq_true rfl⟩) (pPreS) rfl rfl hl.1 rfl (lv_room (Nat.le_of_ble_eq_true rfl)) dX6_least_8 ⟨Nat.le_of_ble_eq_true rfl, Nat.le_of_ble_eq_true rfl⟩) hP hS (fun rq8 H locs hp8 hP hS => ?_)
  refine lv_if_eq (tgt := 24) hx hb dX6_least_11 (by decide) (fun cq11 => ?_) (fun cq11 => ?_)
  · skip
    refine lv_ldc (v := (-1000001)) hx hb hown (hts (.constant RX6 71 (-1000001)) (by decide +kernel)) dX6_least_24 ?_
    exact W.iret (v := (-1000001)) hx hb hr (fun t ht hW => ⟨⟨(-1000001), (0, um, sm, sA, uA, kA, iA, wA, fA, cA, yA, tA), rfl, ⟨by first | exact Or.inl ⟨fun h => (hp18.resolve_right (fun q => by rw [q.1] at cq21; exact absurd cq21 (by decide))).2 ⟨by rw [iq_le]; exact h.2.1, by rw [iq_le]; exact h.2.2⟩, rfl⟩ | exact Or.inl ⟨fun h => (hp8.resolve_right (fun q => by rw [q.1] at cq11; exact absurd cq11 (by decide))).2 ⟨by rw [iq_le]; exact h.1.1, by rw [iq_le]; exact h.1.2⟩, rfl⟩, ⟨hMS, hMU, hMM, hMR, hMK, hMZ⟩⟩, by rw [ht]; exact hP, hD⟩, hS.F ht⟩) hS.2.2 dX6_least_26
  · skip
    refine lv_iload_n hx hb dX6_least_14 rfl (lv_at hl 2 rfl) ?_
    refine lv_iconst (v := 4) hx hb dX6_least_15 (by decide) ?_
    refine lv_bipush (v := 16) hx hb dX6_least_16 (by decide) ?_
    refine r_i (va_runS (As := [.int pq2, .int 4, .int 16]) (rest := []) ⟨hx, hb, hml, hown, hts⟩ (k_X6_in l pq2 4 16) (va_cwS 3 hts gX6_least_X6_in rfl rfl rfl (by decide +kernel) ⟨Nat.le_of_ble_eq_true rfl, Nat.le_of_ble_eq_true rfl⟩) (pPreS) rfl rfl hl.1 rfl (lv_room (Nat.le_of_ble_eq_true rfl)) dX6_least_18 ⟨Nat.le_of_ble_eq_true rfl, Nat.le_of_ble_eq_true rfl⟩) hP hS (fun rq18 H locs hp18 hP hS => ?_)
    refine lv_if_ne (tgt := 27) hx hb dX6_least_21 (by decide) (fun cq21 => ?_) (fun cq21 => ?_)
    · skip
      refine lv_iconst (v := 3) hx hb dX6_least_27 (by decide) ?_
      refine lv_istore_n (lv' := [(3, .int 3), (0, .ref (a 0)), (1, .int pq1), (2, .int pq2)]) hx hb dX6_least_28 rfl hl (by decide) rfl (fun ls hl => ?_)
      exact hJ29 ((2147483647 - (3 : Int32).toInt).toNat + 1) 0 um sm sA uA kA iA wA fA cA yA tA _ _ 3 hP hD hS hMS hMU hMM hMR hMK hMZ (by first | (have h := iq_add2 eq47 (by rw [iq_le] at cq33; have h9 : ¬ (200 : Int) ≤ zq3.toInt := cq33; omega); omega) | decide) (by first | exact i29_1 | exact ⟨(by have h := (hp18.resolve_left (fun q => cq21 q.1)).2.1; rw [iq_le] at h; exact h), (by have h := (hp18.resolve_left (fun q => cq21 q.1)).2.2; rw [iq_le] at h; exact h)⟩) (by first | exact i29_2 | exact ⟨(by have h := (hp8.resolve_left (fun q => cq11 q.1)).2.1; rw [iq_le] at h; exact h), (by have h := (hp8.resolve_left (fun q => cq11 q.1)).2.2; rw [iq_le] at h; exact h)⟩) (by first | (have h := iq_add2 eq47 (by rw [iq_le] at cq33; have h9 : ¬ (200 : Int) ≤ zq3.toInt := cq33; omega); omega) | decide) (by first | exact lsN_0 | exact lsN_next i29_4 i29_0 i29_3 hno (iq_add2 eq47 (by rw [iq_le] at cq33; have h9 : ¬ (200 : Int) ≤ zq3.toInt := cq33; omega))) (Nat.lt_succ_self _) _ (lv_sub hl [2, 3, 0] rfl)
    · skip
      refine lv_ldc (v := (-1000001)) hx hb hown (hts (.constant RX6 71 (-1000001)) (by decide +kernel)) dX6_least_24 ?_
      exact W.iret (v := (-1000001)) hx hb hr (fun t ht hW => ⟨⟨(-1000001), (0, um, sm, sA, uA, kA, iA, wA, fA, cA, yA, tA), rfl, ⟨by first | exact Or.inl ⟨fun h => (hp18.resolve_right (fun q => by rw [q.1] at cq21; exact absurd cq21 (by decide))).2 ⟨by rw [iq_le]; exact h.2.1, by rw [iq_le]; exact h.2.2⟩, rfl⟩ | exact Or.inl ⟨fun h => (hp8.resolve_right (fun q => by rw [q.1] at cq11; exact absurd cq11 (by decide))).2 ⟨by rw [iq_le]; exact h.1.1, by rw [iq_le]; exact h.1.2⟩, rfl⟩, ⟨hMS, hMU, hMM, hMR, hMK, hMZ⟩⟩, by rw [ht]; exact hP, hD⟩, hS.F ht⟩) hS.2.2 dX6_least_26
abbrev rmX6_sees : Room := { frames := 1, cells := 0, slots := 0, locals := 22 }
set_option maxHeartbeats 4000000 in
set_option maxRecDepth 100000 in
theorem k_X6_sees (l : Launch) {K : Cx} {a : Nat → Nat} {th um sm : Int32} {sA uA kA iA wA fA cA : Nat → Int32} {yA tA : Nat → Int64} (hM : MI K (th, um, sm, sA, uA, kA, iA, wA, fA, cA, yA, tA)) (sz : Nat) (pq1 : Int32) (pq2 : Int32)  : MiK l K (Kw K (seN (snK K) pq1 pq2)) yX6_sees wsX6_sees rmX6_sees [.ref (a 0), .int pq1, .int pq2] a (th, um, sm, sA, uA, kA, iA, wA, fA, cA, yA, tA) sz (fun (r : Int32) _ => seA (snK K) pq1 pq2 r) := by
  refine Met.ofW (cc := cX6_sees) (maxL := 3) (ret := (some .int)) (by decide) rfl ?_
  intro p e s m args below meth c s₁ B hml hv
  obtain ⟨rfl, hsz, hP, hK, hD0, hN⟩ := hv
  have hx := B.exec
  have hb := B.bytes
  have hr := B.returns
  have hts := atoms_spec (ws := wsX6_sees) B.pre
  have hown : s.vm.findClass RX6 = some m.cls := findClass_of_methodNamed B.named
  have hlocks := B.notSynchronized
  have hinX6 : ∀ w ∈ wsX60, w ∈ wsX6_sees := by decide +kernel
  subst hsz
  have hD := hD0.self (sz := s.heap.size)
  generalize hAe : va_A (mZ K a (th, um, sm, sA, uA, kA, iA, wA, fA, cA, yA, tA)) s.heap.size = A at hD ⊢
  have hA : ∀ q : Nat, s.heap.size ≤ q → A q := fun q h => by rw [← hAe]; exact Or.inr h
  have hS : va_S A s.heap s.heap [] := va_S.rf
  have hP : va_P K.1 vwCl (mW K a th um sm sA uA kA iA wA fA cA yA tA) s.heap := hP
  have hD : va_D A (mW K a th um sm sA uA kA iA wA fA cA yA tA) := hD
  have hMS : okS sA := hM.1
  have hMU : okU um := hM.2.1
  have hMM : okM sm := hM.2.2.1
  have hMR : okR um uA := hM.2.2.2.1
  have hMK : okK kA iA := hM.2.2.2.2.1
  have hMZ : okZ K sm wA fA := hM.2.2.2.2.2
  have hl := lv_entry ([.ref (a 0), .int pq1, .int pq2]) (n := 3) (Nat.le_of_ble_eq_true rfl)
  rw [lg_entry_eq]
  generalize (lg_sl ([.ref (a 0), .int pq1, .int pq2]) ++ List.replicate (3 - (lg_sl ([.ref (a 0), .int pq1, .int pq2])).length) Slot.unset).toArray = ls at hl ⊢
  have hl : lv_has ls 3 [(0, .ref (a 0)), (1, .int pq1), (2, .int pq2)] := hl
  refine lv_aload_n hx hb dX6_sees_0 rfl (lv_at hl 0 rfl) ?_
  refine lv_iconst (v := 0) hx hb dX6_sees_1 (by decide) ?_
  refine va_put (D := K.1) (ci := 6) (v := .int 0) (ty := .int) (C := RX6) (T := TX6) (N := 12) hx hb hts hinX6 tyX6 tyX6_ok nmX6 hown hK hP hD hS 0 rfl rfl 0 (by decide) (hts (.fieldLink RX6 39 "CodedWordsModel" "thrown" "I") (by decide +kernel)) (fun _ h9 => h9) rfl (by decide +kernel) rfl rfl (Nat.le_of_ble_eq_true rfl) dX6_sees_2 (fun H locs hP hD hS => ?_)
  have hP : va_P K.1 vwCl (mW K a 0 um sm sA uA kA iA wA fA cA yA tA) H := hP
  have hD : va_D A (mW K a 0 um sm sA uA kA iA wA fA cA yA tA) := hD
  refine lv_iload_n hx hb dX6_sees_5 rfl (lv_at hl 1 rfl) ?_
  refine lv_iconst (v := 1) hx hb dX6_sees_6 (by decide) ?_
  refine lv_sipush (v := 9999) hx hb dX6_sees_7 (by decide) ?_
  refine r_i (va_runS (As := [.int pq1, .int 1, .int 9999]) (rest := []) ⟨hx, hb, hml, hown, hts⟩ (k_X6_in l pq1 1 9999) (va_cwS 3 hts gX6_sees_X6_in rfl rfl rfl (by decide +kernel) ⟨Nat.le_of_ble_eq_true rfl, Nat.le_of_ble_eq_true rfl⟩) (pPreS) rfl rfl hl.1 rfl (lv_room (Nat.le_of_ble_eq_true rfl)) dX6_sees_10 ⟨Nat.le_of_ble_eq_true rfl, Nat.le_of_ble_eq_true rfl⟩) hP hS (fun rq10 H locs hp10 hP hS => ?_)
  refine lv_if_eq (tgt := 25) hx hb dX6_sees_13 (by decide) (fun cq13 => ?_) (fun cq13 => ?_)
  · skip
    refine lv_ldc (v := (-1000001)) hx hb hown (hts (.constant RX6 71 (-1000001)) (by decide +kernel)) dX6_sees_25 ?_
    exact W.iret (v := (-1000001)) hx hb hr (fun t ht hW => ⟨⟨(-1000001), (0, um, sm, sA, uA, kA, iA, wA, fA, cA, yA, tA), rfl, ⟨Or.inl ⟨by first | exact (fun h => (hp10.resolve_right (fun q => by rw [q.1] at cq13; exact absurd cq13 (by decide))).2 ⟨by rw [iq_le]; exact h.1.1, by rw [iq_le]; exact h.1.2⟩) | exact (fun h => (hp19.resolve_right (fun q => by rw [q.1] at cq22; exact absurd cq22 (by decide))).2 ⟨by rw [iq_le]; exact h.2.1, by rw [iq_le]; exact h.2.2⟩), rfl⟩, ⟨hMS, hMU, hMM, hMR, hMK, (okZ.bad hMZ (by first | exact (fun h => (hp10.resolve_right (fun q => by rw [q.1] at cq13; exact absurd cq13 (by decide))).2 ⟨by rw [iq_le]; exact h.1.1, by rw [iq_le]; exact h.1.2⟩) | exact (fun h => (hp19.resolve_right (fun q => by rw [q.1] at cq22; exact absurd cq22 (by decide))).2 ⟨by rw [iq_le]; exact h.2.1, by rw [iq_le]; exact h.2.2⟩)))⟩⟩, by rw [ht]; exact hP, hD⟩, hS.F ht⟩) hS.2.2 dX6_sees_27
  · skip
    refine lv_iload_n hx hb dX6_sees_16 rfl (lv_at hl 2 rfl) ?_
    refine lv_iconst (v := 0) hx hb dX6_sees_17 (by decide) ?_
    refine lv_iconst (v := 1) hx hb dX6_sees_18 (by decide) ?_
    refine r_i (va_runS (As := [.int pq2, .int 0, .int 1]) (rest := []) ⟨hx, hb, hml, hown, hts⟩ (k_X6_in l pq2 0 1) (va_cwS 3 hts gX6_sees_X6_in rfl rfl rfl (by decide +kernel) ⟨Nat.le_of_ble_eq_true rfl, Nat.le_of_ble_eq_true rfl⟩) (pPreS) rfl rfl hl.1 rfl (lv_room (Nat.le_of_ble_eq_true rfl)) dX6_sees_19 ⟨Nat.le_of_ble_eq_true rfl, Nat.le_of_ble_eq_true rfl⟩) hP hS (fun rq19 H locs hp19 hP hS => ?_)
    refine lv_if_ne (tgt := 28) hx hb dX6_sees_22 (by decide) (fun cq22 => ?_) (fun cq22 => ?_)
    · skip
      have hse := (⟨⟨by have h := (hp10.resolve_left (fun q => cq13 q.1)).2.1; rw [iq_le] at h; exact h, by have h := (hp10.resolve_left (fun q => cq13 q.1)).2.2; rw [iq_le] at h; exact h⟩, by have h := (hp19.resolve_left (fun q => cq22 q.1)).2.1; rw [iq_le] at h; exact h, by have h := (hp19.resolve_left (fun q => cq22 q.1)).2.2; rw [iq_le] at h; exact h⟩ : isSe pq1 pq2)
      refine lv_aload_n hx hb dX6_sees_28 rfl (lv_at hl 0 rfl) ?_
      refine va_get (D := K.1) (ci := 6) (v := .int sm) (C := RX6) (T := TX6) (N := 12) hx hb hts hinX6 hown hK hP 0 rfl rfl 8 (by decide) (hts (.fieldLink RX6 124 "CodedWordsModel" "seenMany" "I") (by decide +kernel)) (fun _ h9 => h9) rfl dX6_sees_29 ?_
      refine lv_bipush (v := 6) hx hb dX6_sees_32 (by decide) ?_
      refine lv_icmp_ne (tgt := 40) hx hb dX6_sees_34 (by decide) (fun cq34 => ?_) (fun cq34 => ?_)
      · skip
        have hlt : (snK K).1.toInt < 6 := by have h := hMM.2; have h2 : sm.toInt ≠ 6 := (fun q => cq34 (iq_eq.mpr q)); rw [← hMZ.1]; omega
        have hM0 := hMZ
        refine lv_aload_n hx hb dX6_sees_40 rfl (lv_at hl 0 rfl) ?_
        refine va_get (D := K.1) (ci := 6) (v := .ref (a 5)) (C := RX6) (T := TX6) (N := 12) hx hb hts hinX6 hown hK hP 0 rfl rfl 6 (by decide) (hts (.fieldLink RX6 23 "CodedWordsModel" "seenWord" "[I") (by decide +kernel)) (fun _ h9 => h9) rfl dX6_sees_41 ?_
        refine lv_aload_n hx hb dX6_sees_44 rfl (lv_at hl 0 rfl) ?_
        refine va_get (D := K.1) (ci := 6) (v := .int sm) (C := RX6) (T := TX6) (N := 12) hx hb hts hinX6 hown hK hP 0 rfl rfl 8 (by decide) (hts (.fieldLink RX6 124 "CodedWordsModel" "seenMany" "I") (by decide +kernel)) (fun _ h9 => h9) rfl dX6_sees_45 ?_
        refine lv_iload_n hx hb dX6_sees_48 rfl (lv_at hl 1 rfl) ?_
        refine va_iast hx hb hK hP hD hS 5 0 rfl rfl (iq_in hMM.1 (by have h := hMM.2; have h2 : sm.toInt ≠ 6 := (fun q => cq34 (iq_eq.mpr q)); omega)) dX6_sees_49 (fun H locs hP hD hS => ?_)
        have hP : va_P K.1 vwCl (mW K a 0 um sm sA uA kA iA (upd wA (sm : Int32).toNatClampNeg pq1) fA cA yA tA) H := hP
        have hD : va_D A (mW K a 0 um sm sA uA kA iA (upd wA (sm : Int32).toNatClampNeg pq1) fA cA yA tA) := hD
        generalize en49 : upd wA (sm : Int32).toNatClampNeg pq1 = wN49 at hP hD
        refine lv_aload_n hx hb dX6_sees_50 rfl (lv_at hl 0 rfl) ?_
        refine va_get (D := K.1) (ci := 6) (v := .ref (a 6)) (C := RX6) (T := TX6) (N := 12) hx hb hts hinX6 hown hK hP 0 rfl rfl 7 (by decide) (hts (.fieldLink RX6 26 "CodedWordsModel" "seenFits" "[I") (by decide +kernel)) (fun _ h9 => h9) rfl dX6_sees_51 ?_
        refine lv_aload_n hx hb dX6_sees_54 rfl (lv_at hl 0 rfl) ?_
        refine va_get (D := K.1) (ci := 6) (v := .int sm) (C := RX6) (T := TX6) (N := 12) hx hb hts hinX6 hown hK hP 0 rfl rfl 8 (by decide) (hts (.fieldLink RX6 124 "CodedWordsModel" "seenMany" "I") (by decide +kernel)) (fun _ h9 => h9) rfl dX6_sees_55 ?_
        refine lv_iload_n hx hb dX6_sees_58 rfl (lv_at hl 2 rfl) ?_
        refine va_iast hx hb hK hP hD hS 6 0 rfl rfl (iq_in hMM.1 (by have h := hMM.2; have h2 : sm.toInt ≠ 6 := (fun q => cq34 (iq_eq.mpr q)); omega)) dX6_sees_59 (fun H locs hP hD hS => ?_)
        have hP : va_P K.1 vwCl (mW K a 0 um sm sA uA kA iA wN49 (upd fA (sm : Int32).toNatClampNeg pq2) cA yA tA) H := hP
        have hD : va_D A (mW K a 0 um sm sA uA kA iA wN49 (upd fA (sm : Int32).toNatClampNeg pq2) cA yA tA) := hD
        generalize en59 : upd fA (sm : Int32).toNatClampNeg pq2 = fN59 at hP hD
        refine lv_aload_n hx hb dX6_sees_60 rfl (lv_at hl 0 rfl) ?_
        refine lv_dup hx hb dX6_sees_61 rfl ?_
        refine va_get (D := K.1) (ci := 6) (v := .int sm) (C := RX6) (T := TX6) (N := 12) hx hb hts hinX6 hown hK hP 0 rfl rfl 8 (by decide) (hts (.fieldLink RX6 124 "CodedWordsModel" "seenMany" "I") (by decide +kernel)) (fun _ h9 => h9) rfl dX6_sees_62 ?_
        refine lv_iconst (v := 1) hx hb dX6_sees_65 (by decide) ?_
        refine lv_iadd hx hb dX6_sees_66 ?_
        refine lv_topi (fun vq66 eq66 => ?_)
        refine va_put (D := K.1) (ci := 6) (v := .int vq66) (ty := .int) (C := RX6) (T := TX6) (N := 12) hx hb hts hinX6 tyX6 tyX6_ok nmX6 hown hK hP hD hS 0 rfl rfl 8 (by decide) (hts (.fieldLink RX6 124 "CodedWordsModel" "seenMany" "I") (by decide +kernel)) (fun _ h9 => h9) rfl (by decide +kernel) rfl rfl (Nat.le_of_ble_eq_true rfl) dX6_sees_67 (fun H locs hP hD hS => ?_)
        have hP : va_P K.1 vwCl (mW K a 0 um vq66 sA uA kA iA wN49 fN59 cA yA tA) H := hP
        have hD : va_D A (mW K a 0 um vq66 sA uA kA iA wN49 fN59 cA yA tA) := hD
        have hMM : okM vq66 := ⟨by have h3 := hMM.1; have h := hMM.2; have h2 := iq_add1 eq66 (by omega); omega, by have h := hMM.2; have h2 : sm.toInt ≠ 6 := (fun q => cq34 (iq_eq.mpr q)); have h3 := iq_add1 eq66 (by omega); omega⟩
        refine lv_aload_n hx hb dX6_sees_70 rfl (lv_at hl 0 rfl) ?_
        refine va_get (D := K.1) (ci := 6) (v := .int vq66) (C := RX6) (T := TX6) (N := 12) hx hb hts hinX6 hown hK hP 0 rfl rfl 8 (by decide) (hts (.fieldLink RX6 124 "CodedWordsModel" "seenMany" "I") (by decide +kernel)) (fun _ h9 => h9) rfl dX6_sees_71 ?_
        exact W.iret (v := vq66) hx hb hr (fun t ht hW => ⟨⟨vq66, (0, um, vq66, sA, uA, kA, iA, wN49, fN59, cA, yA, tA), rfl, ⟨Or.inr (Or.inl ⟨hse, hlt, by rw [eq66, hM0.1]⟩), ⟨hMS, hMU, hMM, hMR, hMK, (okZ.more hM0 hse hlt en49 en59 eq66)⟩⟩, by rw [ht]; exact hP, hD⟩, hS.F ht⟩) hS.2.2 dX6_sees_74
      · skip
        refine lv_ldc (v := (-1000003)) hx hb hown (hts (.constant RX6 127 (-1000003)) (by decide +kernel)) dX6_sees_37 ?_
        exact W.iret (v := (-1000003)) hx hb hr (fun t ht hW => ⟨⟨(-1000003), (0, um, sm, sA, uA, kA, iA, wA, fA, cA, yA, tA), rfl, ⟨Or.inr (Or.inr ⟨hse, by rw [← hMZ.1, cq34]; decide, rfl⟩), ⟨hMS, hMU, hMM, hMR, hMK, (okZ.full hMZ hse (by rw [← hMZ.1, cq34]; decide))⟩⟩, by rw [ht]; exact hP, hD⟩, hS.F ht⟩) hS.2.2 dX6_sees_39
    · skip
      refine lv_ldc (v := (-1000001)) hx hb hown (hts (.constant RX6 71 (-1000001)) (by decide +kernel)) dX6_sees_25 ?_
      exact W.iret (v := (-1000001)) hx hb hr (fun t ht hW => ⟨⟨(-1000001), (0, um, sm, sA, uA, kA, iA, wA, fA, cA, yA, tA), rfl, ⟨Or.inl ⟨by first | exact (fun h => (hp10.resolve_right (fun q => by rw [q.1] at cq13; exact absurd cq13 (by decide))).2 ⟨by rw [iq_le]; exact h.1.1, by rw [iq_le]; exact h.1.2⟩) | exact (fun h => (hp19.resolve_right (fun q => by rw [q.1] at cq22; exact absurd cq22 (by decide))).2 ⟨by rw [iq_le]; exact h.2.1, by rw [iq_le]; exact h.2.2⟩), rfl⟩, ⟨hMS, hMU, hMM, hMR, hMK, (okZ.bad hMZ (by first | exact (fun h => (hp10.resolve_right (fun q => by rw [q.1] at cq13; exact absurd cq13 (by decide))).2 ⟨by rw [iq_le]; exact h.1.1, by rw [iq_le]; exact h.1.2⟩) | exact (fun h => (hp19.resolve_right (fun q => by rw [q.1] at cq22; exact absurd cq22 (by decide))).2 ⟨by rw [iq_le]; exact h.2.1, by rw [iq_le]; exact h.2.2⟩)))⟩⟩, by rw [ht]; exact hP, hD⟩, hS.F ht⟩) hS.2.2 dX6_sees_27
abbrev rmX6_forget : Room := { frames := 0, cells := 0, slots := 0, locals := 0 }
set_option maxHeartbeats 4000000 in
set_option maxRecDepth 100000 in
theorem k_X6_forget (l : Launch) {K : Cx} {a : Nat → Nat} {th um sm : Int32} {sA uA kA iA wA fA cA : Nat → Int32} {yA tA : Nat → Int64} (hM : MI K (th, um, sm, sA, uA, kA, iA, wA, fA, cA, yA, tA)) (sz : Nat)   : MiK l K (Kw K (0, (snK K).2.1, (snK K).2.2)) yX6_forget wsX6_forget rmX6_forget [.ref (a 0)] a (th, um, sm, sA, uA, kA, iA, wA, fA, cA, yA, tA) sz (fun (r : Int32) _ => r = (snK K).1) := by
  refine Met.ofW (cc := cX6_forget) (maxL := 2) (ret := (some .int)) (by decide) rfl ?_
  intro p e s m args below meth c s₁ B hml hv
  obtain ⟨rfl, hsz, hP, hK, hD0, hN⟩ := hv
  have hx := B.exec
  have hb := B.bytes
  have hr := B.returns
  have hts := atoms_spec (ws := wsX6_forget) B.pre
  have hown : s.vm.findClass RX6 = some m.cls := findClass_of_methodNamed B.named
  have hlocks := B.notSynchronized
  have hinX6 : ∀ w ∈ wsX60, w ∈ wsX6_forget := by decide +kernel
  subst hsz
  have hD := hD0.self (sz := s.heap.size)
  generalize hAe : va_A (mZ K a (th, um, sm, sA, uA, kA, iA, wA, fA, cA, yA, tA)) s.heap.size = A at hD ⊢
  have hA : ∀ q : Nat, s.heap.size ≤ q → A q := fun q h => by rw [← hAe]; exact Or.inr h
  have hS : va_S A s.heap s.heap [] := va_S.rf
  have hP : va_P K.1 vwCl (mW K a th um sm sA uA kA iA wA fA cA yA tA) s.heap := hP
  have hD : va_D A (mW K a th um sm sA uA kA iA wA fA cA yA tA) := hD
  have hMS : okS sA := hM.1
  have hMU : okU um := hM.2.1
  have hMM : okM sm := hM.2.2.1
  have hMR : okR um uA := hM.2.2.2.1
  have hMK : okK kA iA := hM.2.2.2.2.1
  have hMZ : okZ K sm wA fA := hM.2.2.2.2.2
  have hl := lv_entry ([.ref (a 0)]) (n := 2) (Nat.le_of_ble_eq_true rfl)
  rw [lg_entry_eq]
  generalize (lg_sl ([.ref (a 0)]) ++ List.replicate (2 - (lg_sl ([.ref (a 0)])).length) Slot.unset).toArray = ls at hl ⊢
  have hl : lv_has ls 2 [(0, .ref (a 0))] := hl
  refine lv_aload_n hx hb dX6_forget_0 rfl (lv_at hl 0 rfl) ?_
  refine lv_iconst (v := 0) hx hb dX6_forget_1 (by decide) ?_
  refine va_put (D := K.1) (ci := 6) (v := .int 0) (ty := .int) (C := RX6) (T := TX6) (N := 12) hx hb hts hinX6 tyX6 tyX6_ok nmX6 hown hK hP hD hS 0 rfl rfl 0 (by decide) (hts (.fieldLink RX6 39 "CodedWordsModel" "thrown" "I") (by decide +kernel)) (fun _ h9 => h9) rfl (by decide +kernel) rfl rfl (Nat.le_of_ble_eq_true rfl) dX6_forget_2 (fun H locs hP hD hS => ?_)
  have hP : va_P K.1 vwCl (mW K a 0 um sm sA uA kA iA wA fA cA yA tA) H := hP
  have hD : va_D A (mW K a 0 um sm sA uA kA iA wA fA cA yA tA) := hD
  refine lv_aload_n hx hb dX6_forget_5 rfl (lv_at hl 0 rfl) ?_
  refine va_get (D := K.1) (ci := 6) (v := .int sm) (C := RX6) (T := TX6) (N := 12) hx hb hts hinX6 hown hK hP 0 rfl rfl 8 (by decide) (hts (.fieldLink RX6 124 "CodedWordsModel" "seenMany" "I") (by decide +kernel)) (fun _ h9 => h9) rfl dX6_forget_6 ?_
  have hM0 := hMZ
  refine lv_istore_n (lv' := [(1, .int sm), (0, .ref (a 0))]) hx hb dX6_forget_9 rfl hl (by decide) rfl (fun ls hl => ?_)
  refine lv_aload_n hx hb dX6_forget_10 rfl (lv_at hl 1 rfl) ?_
  refine lv_iconst (v := 0) hx hb dX6_forget_11 (by decide) ?_
  refine va_put (D := K.1) (ci := 6) (v := .int 0) (ty := .int) (C := RX6) (T := TX6) (N := 12) hx hb hts hinX6 tyX6 tyX6_ok nmX6 hown hK hP hD hS 0 rfl rfl 8 (by decide) (hts (.fieldLink RX6 124 "CodedWordsModel" "seenMany" "I") (by decide +kernel)) (fun _ h9 => h9) rfl (by decide +kernel) rfl rfl (Nat.le_of_ble_eq_true rfl) dX6_forget_12 (fun H locs hP hD hS => ?_)
  have hP : va_P K.1 vwCl (mW K a 0 um 0 sA uA kA iA wA fA cA yA tA) H := hP
  have hD : va_D A (mW K a 0 um 0 sA uA kA iA wA fA cA yA tA) := hD
  have hMM : okM 0 := ⟨by decide, by decide⟩
  refine lv_iload_n hx hb dX6_forget_15 rfl (lv_at hl 0 rfl) ?_
  exact W.iret (v := sm) hx hb hr (fun t ht hW => ⟨⟨sm, (0, um, 0, sA, uA, kA, iA, wA, fA, cA, yA, tA), rfl, ⟨hM0.1, ⟨hMS, hMU, hMM, hMR, hMK, (⟨rfl, hM0.2.1, hM0.2.2.1, okN.fg hM0.2.2.2⟩)⟩⟩, by rw [ht]; exact hP, hD⟩, hS.F ht⟩) hS.2.2 dX6_forget_16
abbrev rmX6_count : Room := { frames := 5, cells := 0, slots := 0, locals := 105 }
set_option maxHeartbeats 4000000 in
set_option maxRecDepth 100000 in
theorem k_X6_count (l : Launch) {K : Cx} {a : Nat → Nat} {th um sm : Int32} {sA uA kA iA wA fA cA : Nat → Int32} {yA tA : Nat → Int64} (hM : MI K (th, um, sm, sA, uA, kA, iA, wA, fA, cA, yA, tA)) (sz : Nat) (pq1 : Int32)  : Mi l K yX6_count wsX6_count rmX6_count [.ref (a 0), .int pq1] a (th, um, sm, sA, uA, kA, iA, wA, fA, cA, yA, tA) sz (fun _ _ => True) := by
  refine Met.ofW (cc := cX6_count) (maxL := 2) (ret := (some .int)) (by decide) rfl ?_
  intro p e s m args below meth c s₁ B hml hv
  obtain ⟨rfl, hsz, hP, hK, hD0, hN⟩ := hv
  have hx := B.exec
  have hb := B.bytes
  have hr := B.returns
  have hts := atoms_spec (ws := wsX6_count) B.pre
  have hown : s.vm.findClass RX6 = some m.cls := findClass_of_methodNamed B.named
  have hlocks := B.notSynchronized
  have hinX6 : ∀ w ∈ wsX60, w ∈ wsX6_count := by decide +kernel
  subst hsz
  have hD := hD0.self (sz := s.heap.size)
  generalize hAe : va_A (mZ K a (th, um, sm, sA, uA, kA, iA, wA, fA, cA, yA, tA)) s.heap.size = A at hD ⊢
  have hA : ∀ q : Nat, s.heap.size ≤ q → A q := fun q h => by rw [← hAe]; exact Or.inr h
  have hS : va_S A s.heap s.heap [] := va_S.rf
  have hP : va_P K.1 vwCl (mW K a th um sm sA uA kA iA wA fA cA yA tA) s.heap := hP
  have hD : va_D A (mW K a th um sm sA uA kA iA wA fA cA yA tA) := hD
  have hMS : okS sA := hM.1
  have hMU : okU um := hM.2.1
  have hMM : okM sm := hM.2.2.1
  have hMR : okR um uA := hM.2.2.2.1
  have hMK : okK kA iA := hM.2.2.2.2.1
  have hMZ : okZ K sm wA fA := hM.2.2.2.2.2
  have hl := lv_entry ([.ref (a 0), .int pq1]) (n := 2) (Nat.le_of_ble_eq_true rfl)
  rw [lg_entry_eq]
  generalize (lg_sl ([.ref (a 0), .int pq1]) ++ List.replicate (2 - (lg_sl ([.ref (a 0), .int pq1])).length) Slot.unset).toArray = ls at hl ⊢
  have hl : lv_has ls 2 [(0, .ref (a 0)), (1, .int pq1)] := hl
  refine lv_aload_n hx hb dX6_count_0 rfl (lv_at hl 0 rfl) ?_
  refine lv_iconst (v := 0) hx hb dX6_count_1 (by decide) ?_
  refine va_put (D := K.1) (ci := 6) (v := .int 0) (ty := .int) (C := RX6) (T := TX6) (N := 12) hx hb hts hinX6 tyX6 tyX6_ok nmX6 hown hK hP hD hS 0 rfl rfl 0 (by decide) (hts (.fieldLink RX6 39 "CodedWordsModel" "thrown" "I") (by decide +kernel)) (fun _ h9 => h9) rfl (by decide +kernel) rfl rfl (Nat.le_of_ble_eq_true rfl) dX6_count_2 (fun H locs hP hD hS => ?_)
  have hP : va_P K.1 vwCl (mW K a 0 um sm sA uA kA iA wA fA cA yA tA) H := hP
  have hD : va_D A (mW K a 0 um sm sA uA kA iA wA fA cA yA tA) := hD
  refine lv_iload_n hx hb dX6_count_5 rfl (lv_at hl 1 rfl) ?_
  refine lv_iconst (v := 0) hx hb dX6_count_6 (by decide) ?_
  refine lv_bipush (v := 6) hx hb dX6_count_7 (by decide) ?_
  refine r_i (va_runS (As := [.int pq1, .int 0, .int 6]) (rest := []) ⟨hx, hb, hml, hown, hts⟩ (k_X6_in l pq1 0 6) (va_cwS 3 hts gX6_count_X6_in rfl rfl rfl (by decide +kernel) ⟨Nat.le_of_ble_eq_true rfl, Nat.le_of_ble_eq_true rfl⟩) (pPreS) rfl rfl hl.1 rfl (lv_room (Nat.le_of_ble_eq_true rfl)) dX6_count_9 ⟨Nat.le_of_ble_eq_true rfl, Nat.le_of_ble_eq_true rfl⟩) hP hS (fun rq9 H locs hp9 hP hS => ?_)
  refine lv_if_ne (tgt := 18) hx hb dX6_count_12 (by decide) (fun cq12 => ?_) (fun cq12 => ?_)
  · skip
    refine lv_iload_n hx hb dX6_count_18 rfl (lv_at hl 1 rfl) ?_
    refine lv_iconst (v := 4) hx hb dX6_count_19 (by decide) ?_
    refine lv_icmp_ge (tgt := 67) hx hb dX6_count_20 (by decide) (fun cq20 => ?_) (fun cq20 => ?_)
    · skip
      refine lv_iload_n hx hb dX6_count_67 rfl (lv_at hl 1 rfl) ?_
      refine lv_iconst (v := 4) hx hb dX6_count_68 (by decide) ?_
      refine lv_icmp_ne (tgt := 79) hx hb dX6_count_69 (by decide) (fun cq69 => ?_) (fun cq69 => ?_)
      · skip
        refine lv_iload_n hx hb dX6_count_79 rfl (lv_at hl 1 rfl) ?_
        refine lv_iconst (v := 5) hx hb dX6_count_80 (by decide) ?_
        refine lv_icmp_ne (tgt := 91) hx hb dX6_count_81 (by decide) (fun cq81 => ?_) (fun cq81 => ?_)
        · skip
          refine lv_aload_n hx hb dX6_count_91 rfl (lv_at hl 0 rfl) ?_
          refine va_get (D := K.1) (ci := 6) (v := .int um) (C := RX6) (T := TX6) (N := 12) hx hb hts hinX6 hown hK hP 0 rfl rfl 3 (by decide) (hts (.fieldLink RX6 65 "CodedWordsModel" "undoMany" "I") (by decide +kernel)) (fun _ h9 => h9) rfl dX6_count_92 ?_
          exact W.iret (v := um) hx hb hr (fun t ht hW => ⟨⟨um, (0, um, sm, sA, uA, kA, iA, wA, fA, cA, yA, tA), rfl, ⟨trivial, ⟨hMS, hMU, hMM, hMR, hMK, hMZ⟩⟩, by rw [ht]; exact hP, hD⟩, hS.F ht⟩) hS.2.2 dX6_count_95
        · skip
          refine lv_aload_n hx hb dX6_count_84 rfl (lv_at hl 0 rfl) ?_
          refine va_get (D := K.1) (ci := 6) (v := .int sm) (C := RX6) (T := TX6) (N := 12) hx hb hts hinX6 hown hK hP 0 rfl rfl 8 (by decide) (hts (.fieldLink RX6 124 "CodedWordsModel" "seenMany" "I") (by decide +kernel)) (fun _ h9 => h9) rfl dX6_count_85 ?_
          refine lv_goto (tgt := 95) hx hb dX6_count_88 (by decide) ?_
          exact W.iret (v := sm) hx hb hr (fun t ht hW => ⟨⟨sm, (0, um, sm, sA, uA, kA, iA, wA, fA, cA, yA, tA), rfl, ⟨trivial, ⟨hMS, hMU, hMM, hMR, hMK, hMZ⟩⟩, by rw [ht]; exact hP, hD⟩, hS.F ht⟩) hS.2.2 dX6_count_95
      · skip
        refine lv_aload_n hx hb dX6_count_72 rfl (lv_at hl 0 rfl) ?_
        refine r_i (K := K) (w := mW K a 0 um sm sA uA kA iA wA fA cA yA tA) (va_runV (As := []) (rest := []) ⟨hx, hb, hml, hown, hts⟩ (k_X6_rightMany l hMS) (cwV 0 hts gX6_count_X6_rightMany rfl rfl rfl (by decide +kernel) ⟨Nat.le_of_ble_eq_true rfl, Nat.le_of_ble_eq_true rfl⟩) (rPreV (m_rcv hK hP) hP hK hD hN) rfl rfl hl.1 rfl (lv_room (Nat.le_of_ble_eq_true rfl)) dX6_count_73 ⟨Nat.le_of_ble_eq_true rfl, Nat.le_of_ble_eq_true rfl⟩) hP hS (fun rq73 H locs hp73 hP hS => ?_)
        refine lv_goto (tgt := 95) hx hb dX6_count_76 (by decide) ?_
        exact W.iret (v := rq73) hx hb hr (fun t ht hW => ⟨⟨rq73, (0, um, sm, sA, uA, kA, iA, wA, fA, cA, yA, tA), rfl, ⟨trivial, ⟨hMS, hMU, hMM, hMR, hMK, hMZ⟩⟩, by rw [ht]; exact hP, hD⟩, hS.F ht⟩) hS.2.2 dX6_count_95
    · skip
      refine lv_iload_n hx hb dX6_count_23 rfl (lv_at hl 1 rfl) ?_
      refine lv_if_ne (tgt := 36) hx hb dX6_count_24 (by decide) (fun cq24 => ?_) (fun cq24 => ?_)
      · skip
        refine lv_iload_n hx hb dX6_count_36 rfl (lv_at hl 1 rfl) ?_
        refine lv_iconst (v := 1) hx hb dX6_count_37 (by decide) ?_
        refine lv_icmp_ne (tgt := 50) hx hb dX6_count_38 (by decide) (fun cq38 => ?_) (fun cq38 => ?_)
        · skip
          refine lv_iload_n hx hb dX6_count_50 rfl (lv_at hl 1 rfl) ?_
          refine lv_iconst (v := 2) hx hb dX6_count_51 (by decide) ?_
          refine lv_icmp_ne (tgt := 62) hx hb dX6_count_52 (by decide) (fun cq52 => ?_) (fun cq52 => ?_)
          · skip
            refine lv_aload_n hx hb dX6_count_62 rfl (lv_at hl 0 rfl) ?_
            refine r_i (K := K) (w := mW K a 0 um sm sA uA kA iA wA fA cA yA tA) (va_runV (As := []) (rest := []) ⟨hx, hb, hml, hown, hts⟩ (k_X6_reach l hMS) (cwV 0 hts gX6_count_X6_reach rfl rfl rfl (by decide +kernel) ⟨Nat.le_of_ble_eq_true rfl, Nat.le_of_ble_eq_true rfl⟩) (rPreV (m_rcv hK hP) hP hK hD hN) rfl rfl hl.1 rfl (lv_room (Nat.le_of_ble_eq_true rfl)) dX6_count_63 ⟨Nat.le_of_ble_eq_true rfl, Nat.le_of_ble_eq_true rfl⟩) hP hS (fun rq63 H locs hp63 hP hS => ?_)
            exact W.iret (v := rq63) hx hb hr (fun t ht hW => ⟨⟨rq63, (0, um, sm, sA, uA, kA, iA, wA, fA, cA, yA, tA), rfl, ⟨trivial, ⟨hMS, hMU, hMM, hMR, hMK, hMZ⟩⟩, by rw [ht]; exact hP, hD⟩, hS.F ht⟩) hS.2.2 dX6_count_66
          · skip
            refine lv_aload_n hx hb dX6_count_55 rfl (lv_at hl 0 rfl) ?_
            refine r_i (K := K) (w := mW K a 0 um sm sA uA kA iA wA fA cA yA tA) (va_runV (As := []) (rest := []) ⟨hx, hb, hml, hown, hts⟩ (k_X6_top l hMS) (cwV 0 hts gX6_count_X6_top rfl rfl rfl (by decide +kernel) ⟨Nat.le_of_ble_eq_true rfl, Nat.le_of_ble_eq_true rfl⟩) (rPreV (m_rcv hK hP) hP hK hD hN) rfl rfl hl.1 rfl (lv_room (Nat.le_of_ble_eq_true rfl)) dX6_count_56 ⟨Nat.le_of_ble_eq_true rfl, Nat.le_of_ble_eq_true rfl⟩) hP hS (fun rq56 H locs hp56 hP hS => ?_)
            refine lv_goto (tgt := 66) hx hb dX6_count_59 (by decide) ?_
            exact W.iret (v := rq56) hx hb hr (fun t ht hW => ⟨⟨rq56, (0, um, sm, sA, uA, kA, iA, wA, fA, cA, yA, tA), rfl, ⟨trivial, ⟨hMS, hMU, hMM, hMR, hMK, hMZ⟩⟩, by rw [ht]; exact hP, hD⟩, hS.F ht⟩) hS.2.2 dX6_count_66
        · skip
          refine lv_aload_n hx hb dX6_count_41 rfl (lv_at hl 0 rfl) ?_
          refine va_get (D := K.1) (ci := 6) (v := .ref (a 1)) (C := RX6) (T := TX6) (N := 12) hx hb hts hinX6 hown hK hP 0 rfl rfl 1 (by decide) (hts (.fieldLink RX6 7 "CodedWordsModel" "s" "[I") (by decide +kernel)) (fun _ h9 => h9) rfl dX6_count_42 ?_
          refine lv_iconst (v := 1) hx hb dX6_count_45 (by decide) ?_
          refine va_iald hx hb hK hP 1 0 rfl rfl (iq_in (by decide) (by decide)) dX6_count_46 ?_
          refine lv_topi (fun vq46 eq46 => ?_)
          refine lv_goto (tgt := 66) hx hb dX6_count_47 (by decide) ?_
          exact W.iret (v := vq46) hx hb hr (fun t ht hW => ⟨⟨vq46, (0, um, sm, sA, uA, kA, iA, wA, fA, cA, yA, tA), rfl, ⟨trivial, ⟨hMS, hMU, hMM, hMR, hMK, hMZ⟩⟩, by rw [ht]; exact hP, hD⟩, hS.F ht⟩) hS.2.2 dX6_count_66
      · skip
        refine lv_aload_n hx hb dX6_count_27 rfl (lv_at hl 0 rfl) ?_
        refine va_get (D := K.1) (ci := 6) (v := .ref (a 1)) (C := RX6) (T := TX6) (N := 12) hx hb hts hinX6 hown hK hP 0 rfl rfl 1 (by decide) (hts (.fieldLink RX6 7 "CodedWordsModel" "s" "[I") (by decide +kernel)) (fun _ h9 => h9) rfl dX6_count_28 ?_
        refine lv_iconst (v := 0) hx hb dX6_count_31 (by decide) ?_
        refine va_iald hx hb hK hP 1 0 rfl rfl (iq_in (by decide) (by decide)) dX6_count_32 ?_
        refine lv_topi (fun vq32 eq32 => ?_)
        refine lv_goto (tgt := 66) hx hb dX6_count_33 (by decide) ?_
        exact W.iret (v := vq32) hx hb hr (fun t ht hW => ⟨⟨vq32, (0, um, sm, sA, uA, kA, iA, wA, fA, cA, yA, tA), rfl, ⟨trivial, ⟨hMS, hMU, hMM, hMR, hMK, hMZ⟩⟩, by rw [ht]; exact hP, hD⟩, hS.F ht⟩) hS.2.2 dX6_count_66
  · skip
    refine lv_ldc (v := (-1000001)) hx hb hown (hts (.constant RX6 71 (-1000001)) (by decide +kernel)) dX6_count_15 ?_
    exact W.iret (v := (-1000001)) hx hb hr (fun t ht hW => ⟨⟨(-1000001), (0, um, sm, sA, uA, kA, iA, wA, fA, cA, yA, tA), rfl, ⟨trivial, ⟨hMS, hMU, hMM, hMR, hMK, hMZ⟩⟩, by rw [ht]; exact hP, hD⟩, hS.F ht⟩) hS.2.2 dX6_count_17
abbrev rmX6_missed : Room := { frames := 1, cells := 0, slots := 0, locals := 21 }
set_option maxHeartbeats 4000000 in
set_option maxRecDepth 100000 in
theorem k_X6_missed (l : Launch) {K : Cx} {a : Nat → Nat} {th um sm : Int32} {sA uA kA iA wA fA cA : Nat → Int32} {yA tA : Nat → Int64} (hM : MI K (th, um, sm, sA, uA, kA, iA, wA, fA, cA, yA, tA)) (sz : Nat)   : Mi l K yX6_missed wsX6_missed rmX6_missed [.ref (a 0)] a (th, um, sm, sA, uA, kA, iA, wA, fA, cA, yA, tA) sz (fun _ _ => True) := by
  refine Met.ofW (cc := cX6_missed) (maxL := 4) (ret := (some .int)) (by decide) rfl ?_
  intro p e s m args below meth c s₁ B hml hv
  obtain ⟨rfl, hsz, hP, hK, hD0, hN⟩ := hv
  have hx := B.exec
  have hb := B.bytes
  have hr := B.returns
  have hts := atoms_spec (ws := wsX6_missed) B.pre
  have hown : s.vm.findClass RX6 = some m.cls := findClass_of_methodNamed B.named
  have hlocks := B.notSynchronized
  have hinX6 : ∀ w ∈ wsX60, w ∈ wsX6_missed := by decide +kernel
  subst hsz
  have hD := hD0.self (sz := s.heap.size)
  generalize hAe : va_A (mZ K a (th, um, sm, sA, uA, kA, iA, wA, fA, cA, yA, tA)) s.heap.size = A at hD ⊢
  have hA : ∀ q : Nat, s.heap.size ≤ q → A q := fun q h => by rw [← hAe]; exact Or.inr h
  have hS : va_S A s.heap s.heap [] := va_S.rf
  have hP : va_P K.1 vwCl (mW K a th um sm sA uA kA iA wA fA cA yA tA) s.heap := hP
  have hD : va_D A (mW K a th um sm sA uA kA iA wA fA cA yA tA) := hD
  have hMS : okS sA := hM.1
  have hMU : okU um := hM.2.1
  have hMM : okM sm := hM.2.2.1
  have hMR : okR um uA := hM.2.2.2.1
  have hMK : okK kA iA := hM.2.2.2.2.1
  have hMZ : okZ K sm wA fA := hM.2.2.2.2.2
  have hl := lv_entry ([.ref (a 0)]) (n := 4) (Nat.le_of_ble_eq_true rfl)
  rw [lg_entry_eq]
  generalize (lg_sl ([.ref (a 0)]) ++ List.replicate (4 - (lg_sl ([.ref (a 0)])).length) Slot.unset).toArray = ls at hl ⊢
  have hl : lv_has ls 4 [(0, .ref (a 0))] := hl
  have hJ9 : ∀ (n9 : Nat) (thL : Int32) (umL : Int32) (smL : Int32) (sL : Nat → Int32) (uL : Nat → Int32) (kL : Nat → Int32) (iL : Nat → Int32) (wL : Nat → Int32) (fL : Nat → Int32) (cL : Nat → Int32) (yL : Nat → Int64) (tL : Nat → Int64) (H : Heap) (locs : List Loc) (zq1 : Int32) (zq2 : Int32), (va_P K.1 vwCl (mW K a thL umL smL sL uL kL iL wL fL cL yL tL) H) → (va_D A (mW K a thL umL smL sL uL kL iL wL fL cL yL tL)) → (va_S A s.heap H locs) → (okS sL) → (okU umL) → (okM smL) → (okR umL uL) → (okK kL iL) → (okZ K smL wL fL) → ((2147483647 - zq2.toInt).toNat < n9) → ∀ (ls : Array Slot), lv_has ls 4 [(0, .ref (a 0)), (1, .int zq1), (2, .int zq2)] → W p l e rmX6_missed s m [.ref (a 0)].toArray below meth c H locs 0 0 (MQ below (va_Qi (fun (r : Int32) (u : MZ) => (fun _ _ => True) r u ∧ MI (K) u) (fun u t => va_P K.1 vwCl (mZ K a u) t.heap ∧ va_D A (mZ K a u)) A) [.ref (a 0)].toArray s 0 0 A) (F0 m 9 ls []) := by
    intro n9
    induction n9 with
    | zero =>
      intro thL umL smL sL uL kL iL wL fL cL yL tL H locs zq1 zq2 hP hD hS hMS hMU hMM hMR hMK hMZ hm9 ls hl
      exact absurd hm9 (Nat.not_lt_zero _)
    | succ n9 ih9 =>
      intro thL umL smL sL uL kL iL wL fL cL yL tL H locs zq1 zq2 hP hD hS hMS hMU hMM hMR hMK hMZ hm9 ls hl
      have hJ21 : ∀ (n21 : Nat) (thL : Int32) (umL : Int32) (smL : Int32) (sL : Nat → Int32) (uL : Nat → Int32) (kL : Nat → Int32) (iL : Nat → Int32) (wL : Nat → Int32) (fL : Nat → Int32) (cL : Nat → Int32) (yL : Nat → Int64) (tL : Nat → Int64) (H : Heap) (locs : List Loc) (zq1 : Int32) (zq3 : Int32), (va_P K.1 vwCl (mW K a thL umL smL sL uL kL iL wL fL cL yL tL) H) → (va_D A (mW K a thL umL smL sL uL kL iL wL fL cL yL tL)) → (va_S A s.heap H locs) → (okS sL) → (okU umL) → (okM smL) → (okR umL uL) → (okK kL iL) → (okZ K smL wL fL) → (zq2.toInt < 2147483647) → ((2147483647 - zq3.toInt).toNat < n21) → ∀ (ls : Array Slot), lv_has ls 4 [(0, .ref (a 0)), (1, .int zq1), (2, .int zq2), (3, .int zq3)] → W p l e rmX6_missed s m [.ref (a 0)].toArray below meth c H locs 0 0 (MQ below (va_Qi (fun (r : Int32) (u : MZ) => (fun _ _ => True) r u ∧ MI (K) u) (fun u t => va_P K.1 vwCl (mZ K a u) t.heap ∧ va_D A (mZ K a u)) A) [.ref (a 0)].toArray s 0 0 A) (F0 m 21 ls []) := by
        intro n21
        induction n21 with
        | zero =>
          intro thL umL smL sL uL kL iL wL fL cL yL tL H locs zq1 zq3 hP hD hS hMS hMU hMM hMR hMK hMZ i21_0 hm21 ls hl
          exact absurd hm21 (Nat.not_lt_zero _)
        | succ n21 ih21 =>
          intro thL umL smL sL uL kL iL wL fL cL yL tL H locs zq1 zq3 hP hD hS hMS hMU hMM hMR hMK hMZ i21_0 hm21 ls hl
          refine lv_iload_n hx hb dX6_missed_21 rfl (lv_at hl 3 rfl) ?_
          refine lv_aload_n hx hb dX6_missed_22 rfl (lv_at hl 0 rfl) ?_
          refine r_i (K := K) (w := mW K a thL umL smL sL uL kL iL wL fL cL yL tL) (va_runV (As := []) (rest := [.int zq3]) ⟨hx, hb, hml, hown, hts⟩ (k_X6_strikeMany l hMS) (cwV 0 hts gX6_missed_X6_strikeMany rfl rfl rfl (by decide +kernel) ⟨Nat.le_of_ble_eq_true rfl, Nat.le_of_ble_eq_true rfl⟩) (rPreV (m_rcv hK hP) hP hK hD hN) rfl rfl hl.1 rfl (lv_room (Nat.le_of_ble_eq_true rfl)) dX6_missed_23 ⟨Nat.le_of_ble_eq_true rfl, Nat.le_of_ble_eq_true rfl⟩) hP hS (fun rq23 H locs hp23 hP hS => ?_)
          refine lv_icmp_ge (tgt := 68) hx hb dX6_missed_26 (by decide) (fun cq26 => ?_) (fun cq26 => ?_)
          · skip
            obtain ⟨vq68, eq68⟩ : ∃ y : Int32, y = zq2 + 1 := ⟨_, rfl⟩
            refine lv_iinc (v := vq68) (lv' := [(2, .int vq68), (0, .ref (a 0)), (1, .int zq1), (3, .int zq3)]) hx hb dX6_missed_68 hl (k := 2) rfl (by rw [eq68]; rfl) (by decide) rfl (fun ls hl => ?_)
            refine lv_goto (tgt := 9) hx hb dX6_missed_71 (by decide) ?_
            exact ih9 thL umL smL sL uL kL iL wL fL cL yL tL _ _ zq1 vq68 hP hD hS hMS hMU hMM hMR hMK hMZ (iq_upm hm9 i21_0 eq68) _ (lv_sub hl [1, 2, 0] rfl)
          · skip
            refine lv_iload_n hx hb dX6_missed_29 rfl (lv_at hl 1 rfl) ?_
            refine lv_iload_n hx hb dX6_missed_30 rfl (lv_at hl 2 rfl) ?_
            refine lv_iconst (v := 2) hx hb dX6_missed_31 (by decide) ?_
            refine lv_idiv hx hb dX6_missed_32 (by decide) ?_
            refine lv_topi (fun vq32 eq32 => ?_)
            refine lv_iload_n hx hb dX6_missed_33 rfl (lv_at hl 3 rfl) ?_
            refine lv_iconst (v := 2) hx hb dX6_missed_34 (by decide) ?_
            refine lv_idiv hx hb dX6_missed_35 (by decide) ?_
            refine lv_topi (fun vq35 eq35 => ?_)
            refine lv_icmp_eq (tgt := 59) hx hb dX6_missed_36 (by decide) (fun cq36 => ?_) (fun cq36 => ?_)
            · skip
              refine lv_iconst (v := 0) hx hb dX6_missed_59 (by decide) ?_
              refine lv_iadd hx hb dX6_missed_60 ?_
              refine lv_topi (fun vq60 eq60 => ?_)
              refine lv_istore_n (lv' := [(1, .int vq60), (0, .ref (a 0)), (2, .int zq2), (3, .int zq3)]) hx hb dX6_missed_61 rfl hl (by decide) rfl (fun ls hl => ?_)
              obtain ⟨vq62, eq62⟩ : ∃ y : Int32, y = zq3 + 1 := ⟨_, rfl⟩
              refine lv_iinc (v := vq62) (lv' := [(3, .int vq62), (1, .int vq60), (0, .ref (a 0)), (2, .int zq2)]) hx hb dX6_missed_62 hl (k := 3) rfl (by rw [eq62]; rfl) (by decide) rfl (fun ls hl => ?_)
              refine lv_goto (tgt := 21) hx hb dX6_missed_65 (by decide) ?_
              exact ih21 thL umL smL sL uL kL iL wL fL cL yL tL _ _ vq60 vq62 hP hD hS hMS hMU hMM hMR hMK hMZ (by first | exact i21_0 | exact iq_below cq14) (iq_up hm21 cq26 eq62) _ (lv_sub hl [2, 1, 3, 0] rfl)
            · skip
              refine lv_aload_n hx hb dX6_missed_39 rfl (lv_at hl 0 rfl) ?_
              refine lv_iload_n hx hb dX6_missed_40 rfl (lv_at hl 2 rfl) ?_
              refine r_i (va_runS (As := [.int zq2]) (rest := [.ref (a 0), .int zq1]) ⟨hx, hb, hml, hown, hts⟩ (k_X6_by l zq2) (va_cwS 1 hts gX6_missed_X6_by rfl rfl rfl (by decide +kernel) ⟨Nat.le_of_ble_eq_true rfl, Nat.le_of_ble_eq_true rfl⟩) (pPreS) rfl rfl hl.1 rfl (lv_room (Nat.le_of_ble_eq_true rfl)) dX6_missed_41 ⟨Nat.le_of_ble_eq_true rfl, Nat.le_of_ble_eq_true rfl⟩) hP hS (fun rq41 H locs hp41 hP hS => ?_)
              refine lv_iload_n hx hb dX6_missed_44 rfl (lv_at hl 3 rfl) ?_
              refine r_i (va_runS (As := [.int zq3]) (rest := [.int rq41, .ref (a 0), .int zq1]) ⟨hx, hb, hml, hown, hts⟩ (k_X6_by l zq3) (va_cwS 1 hts gX6_missed_X6_by rfl rfl rfl (by decide +kernel) ⟨Nat.le_of_ble_eq_true rfl, Nat.le_of_ble_eq_true rfl⟩) (pPreS) rfl rfl hl.1 rfl (lv_room (Nat.le_of_ble_eq_true rfl)) dX6_missed_45 ⟨Nat.le_of_ble_eq_true rfl, Nat.le_of_ble_eq_true rfl⟩) hP hS (fun rq45 H locs hp45 hP hS => ?_)
              refine lv_iadd hx hb dX6_missed_48 ?_
              refine lv_topi (fun vq48 eq48 => ?_)
              refine r_i (K := K) (w := mW K a thL umL smL sL uL kL iL wL fL cL yL tL) (va_runV (As := [.int vq48]) (rest := [.int zq1]) ⟨hx, hb, hml, hown, hts⟩ (k_X6_fits l hMS vq48) (cwV 1 hts gX6_missed_X6_fits rfl rfl rfl (by decide +kernel) ⟨Nat.le_of_ble_eq_true rfl, Nat.le_of_ble_eq_true rfl⟩) (rPreV (m_rcv hK hP) hP hK hD hN) rfl rfl hl.1 rfl (lv_room (Nat.le_of_ble_eq_true rfl)) dX6_missed_49 ⟨Nat.le_of_ble_eq_true rfl, Nat.le_of_ble_eq_true rfl⟩) hP hS (fun rq49 H locs hp49 hP hS => ?_)
              refine lv_if_eq (tgt := 59) hx hb dX6_missed_52 (by decide) (fun cq52 => ?_) (fun cq52 => ?_)
              · skip
                refine lv_iconst (v := 0) hx hb dX6_missed_59 (by decide) ?_
                refine lv_iadd hx hb dX6_missed_60 ?_
                refine lv_topi (fun vq60 eq60 => ?_)
                refine lv_istore_n (lv' := [(1, .int vq60), (0, .ref (a 0)), (2, .int zq2), (3, .int zq3)]) hx hb dX6_missed_61 rfl hl (by decide) rfl (fun ls hl => ?_)
                obtain ⟨vq62, eq62⟩ : ∃ y : Int32, y = zq3 + 1 := ⟨_, rfl⟩
                refine lv_iinc (v := vq62) (lv' := [(3, .int vq62), (1, .int vq60), (0, .ref (a 0)), (2, .int zq2)]) hx hb dX6_missed_62 hl (k := 3) rfl (by rw [eq62]; rfl) (by decide) rfl (fun ls hl => ?_)
                refine lv_goto (tgt := 21) hx hb dX6_missed_65 (by decide) ?_
                exact ih21 thL umL smL sL uL kL iL wL fL cL yL tL _ _ vq60 vq62 hP hD hS hMS hMU hMM hMR hMK hMZ (by first | exact i21_0 | exact iq_below cq14) (iq_up hm21 cq26 eq62) _ (lv_sub hl [2, 1, 3, 0] rfl)
              · skip
                refine lv_iconst (v := 1) hx hb dX6_missed_55 (by decide) ?_
                refine lv_goto (tgt := 60) hx hb dX6_missed_56 (by decide) ?_
                refine lv_iadd hx hb dX6_missed_60 ?_
                refine lv_topi (fun vq60 eq60 => ?_)
                refine lv_istore_n (lv' := [(1, .int vq60), (0, .ref (a 0)), (2, .int zq2), (3, .int zq3)]) hx hb dX6_missed_61 rfl hl (by decide) rfl (fun ls hl => ?_)
                obtain ⟨vq62, eq62⟩ : ∃ y : Int32, y = zq3 + 1 := ⟨_, rfl⟩
                refine lv_iinc (v := vq62) (lv' := [(3, .int vq62), (1, .int vq60), (0, .ref (a 0)), (2, .int zq2)]) hx hb dX6_missed_62 hl (k := 3) rfl (by rw [eq62]; rfl) (by decide) rfl (fun ls hl => ?_)
                refine lv_goto (tgt := 21) hx hb dX6_missed_65 (by decide) ?_
                exact ih21 thL umL smL sL uL kL iL wL fL cL yL tL _ _ vq60 vq62 hP hD hS hMS hMU hMM hMR hMK hMZ (by first | exact i21_0 | exact iq_below cq14) (iq_up hm21 cq26 eq62) _ (lv_sub hl [2, 1, 3, 0] rfl)
      refine lv_iload_n hx hb dX6_missed_9 rfl (lv_at hl 2 rfl) ?_
      refine lv_aload_n hx hb dX6_missed_10 rfl (lv_at hl 0 rfl) ?_
      refine r_i (K := K) (w := mW K a thL umL smL sL uL kL iL wL fL cL yL tL) (va_runV (As := []) (rest := [.int zq2]) ⟨hx, hb, hml, hown, hts⟩ (k_X6_strikeMany l hMS) (cwV 0 hts gX6_missed_X6_strikeMany rfl rfl rfl (by decide +kernel) ⟨Nat.le_of_ble_eq_true rfl, Nat.le_of_ble_eq_true rfl⟩) (rPreV (m_rcv hK hP) hP hK hD hN) rfl rfl hl.1 rfl (lv_room (Nat.le_of_ble_eq_true rfl)) dX6_missed_11 ⟨Nat.le_of_ble_eq_true rfl, Nat.le_of_ble_eq_true rfl⟩) hP hS (fun rq11 H locs hp11 hP hS => ?_)
      refine lv_icmp_ge (tgt := 74) hx hb dX6_missed_14 (by decide) (fun cq14 => ?_) (fun cq14 => ?_)
      · skip
        refine lv_iload_n hx hb dX6_missed_74 rfl (lv_at hl 1 rfl) ?_
        exact W.iret (v := zq1) hx hb hr (fun t ht hW => ⟨⟨zq1, (thL, umL, smL, sL, uL, kL, iL, wL, fL, cL, yL, tL), rfl, ⟨trivial, ⟨hMS, hMU, hMM, hMR, hMK, hMZ⟩⟩, by rw [ht]; exact hP, hD⟩, hS.F ht⟩) hS.2.2 dX6_missed_75
      · skip
        refine lv_iload_n hx hb dX6_missed_17 rfl (lv_at hl 2 rfl) ?_
        refine lv_iconst (v := 1) hx hb dX6_missed_18 (by decide) ?_
        refine lv_iadd hx hb dX6_missed_19 ?_
        refine lv_topi (fun vq19 eq19 => ?_)
        refine lv_istore_n (lv' := [(3, .int vq19), (0, .ref (a 0)), (1, .int zq1), (2, .int zq2)]) hx hb dX6_missed_20 rfl hl (by decide) rfl (fun ls hl => ?_)
        exact hJ21 ((2147483647 - vq19.toInt).toNat + 1) thL umL smL sL uL kL iL wL fL cL yL tL _ _ zq1 vq19 hP hD hS hMS hMU hMM hMR hMK hMZ (by first | exact i21_0 | exact iq_below cq14) (Nat.lt_succ_self _) _ (lv_sub hl [1, 2, 3, 0] rfl)
  refine lv_aload_n hx hb dX6_missed_0 rfl (lv_at hl 0 rfl) ?_
  refine lv_iconst (v := 0) hx hb dX6_missed_1 (by decide) ?_
  refine va_put (D := K.1) (ci := 6) (v := .int 0) (ty := .int) (C := RX6) (T := TX6) (N := 12) hx hb hts hinX6 tyX6 tyX6_ok nmX6 hown hK hP hD hS 0 rfl rfl 0 (by decide) (hts (.fieldLink RX6 39 "CodedWordsModel" "thrown" "I") (by decide +kernel)) (fun _ h9 => h9) rfl (by decide +kernel) rfl rfl (Nat.le_of_ble_eq_true rfl) dX6_missed_2 (fun H locs hP hD hS => ?_)
  have hP : va_P K.1 vwCl (mW K a 0 um sm sA uA kA iA wA fA cA yA tA) H := hP
  have hD : va_D A (mW K a 0 um sm sA uA kA iA wA fA cA yA tA) := hD
  refine lv_iconst (v := 0) hx hb dX6_missed_5 (by decide) ?_
  refine lv_istore_n (lv' := [(1, .int 0), (0, .ref (a 0))]) hx hb dX6_missed_6 rfl hl (by decide) rfl (fun ls hl => ?_)
  refine lv_iconst (v := 0) hx hb dX6_missed_7 (by decide) ?_
  refine lv_istore_n (lv' := [(2, .int 0), (1, .int 0), (0, .ref (a 0))]) hx hb dX6_missed_8 rfl hl (by decide) rfl (fun ls hl => ?_)
  exact hJ9 ((2147483647 - (0 : Int32).toInt).toNat + 1) 0 um sm sA uA kA iA wA fA cA yA tA _ _ 0 0 hP hD hS hMS hMU hMM hMR hMK hMZ (Nat.lt_succ_self _) _ (lv_sub hl [2, 1, 0] rfl)
abbrev rmX6_same : Room := { frames := 1, cells := 0, slots := 0, locals := 23 }
set_option maxHeartbeats 4000000 in
set_option maxRecDepth 100000 in
theorem k_X6_same (l : Launch) {K : Cx} {a : Nat → Nat} {th um sm : Int32} {sA uA kA iA wA fA cA : Nat → Int32} {yA tA : Nat → Int64} (hM : MI K (th, um, sm, sA, uA, kA, iA, wA, fA, cA, yA, tA)) (sz : Nat) (pq1 : Int32) (pq2 : Int32)  : Mi l K yX6_same wsX6_same rmX6_same [.ref (a 0), .int pq1, .int pq2] a (th, um, sm, sA, uA, kA, iA, wA, fA, cA, yA, tA) sz (fun _ _ => True) := by
  refine Met.ofW (cc := cX6_same) (maxL := 6) (ret := (some .int)) (by decide) rfl ?_
  intro p e s m args below meth c s₁ B hml hv
  obtain ⟨rfl, hsz, hP, hK, hD0, hN⟩ := hv
  have hx := B.exec
  have hb := B.bytes
  have hr := B.returns
  have hts := atoms_spec (ws := wsX6_same) B.pre
  have hown : s.vm.findClass RX6 = some m.cls := findClass_of_methodNamed B.named
  have hlocks := B.notSynchronized
  have hinX6 : ∀ w ∈ wsX60, w ∈ wsX6_same := by decide +kernel
  subst hsz
  have hD := hD0.self (sz := s.heap.size)
  generalize hAe : va_A (mZ K a (th, um, sm, sA, uA, kA, iA, wA, fA, cA, yA, tA)) s.heap.size = A at hD ⊢
  have hA : ∀ q : Nat, s.heap.size ≤ q → A q := fun q h => by rw [← hAe]; exact Or.inr h
  have hS : va_S A s.heap s.heap [] := va_S.rf
  have hP : va_P K.1 vwCl (mW K a th um sm sA uA kA iA wA fA cA yA tA) s.heap := hP
  have hD : va_D A (mW K a th um sm sA uA kA iA wA fA cA yA tA) := hD
  have hMS : okS sA := hM.1
  have hMU : okU um := hM.2.1
  have hMM : okM sm := hM.2.2.1
  have hMR : okR um uA := hM.2.2.2.1
  have hMK : okK kA iA := hM.2.2.2.2.1
  have hMZ : okZ K sm wA fA := hM.2.2.2.2.2
  have hl := lv_entry ([.ref (a 0), .int pq1, .int pq2]) (n := 6) (Nat.le_of_ble_eq_true rfl)
  rw [lg_entry_eq]
  generalize (lg_sl ([.ref (a 0), .int pq1, .int pq2]) ++ List.replicate (6 - (lg_sl ([.ref (a 0), .int pq1, .int pq2])).length) Slot.unset).toArray = ls at hl ⊢
  have hl : lv_has ls 6 [(0, .ref (a 0)), (1, .int pq1), (2, .int pq2)] := hl
  have hJ47 : ∀ (n47 : Nat) (thL : Int32) (umL : Int32) (smL : Int32) (sL : Nat → Int32) (uL : Nat → Int32) (kL : Nat → Int32) (iL : Nat → Int32) (wL : Nat → Int32) (fL : Nat → Int32) (cL : Nat → Int32) (yL : Nat → Int64) (tL : Nat → Int64) (H : Heap) (locs : List Loc) (zq3 : Int32) (zq4 : Int32) (zq5 : Int32), (va_P K.1 vwCl (mW K a thL umL smL sL uL kL iL wL fL cL yL tL) H) → (va_D A (mW K a thL umL smL sL uL kL iL wL fL cL yL tL)) → (va_S A s.heap H locs) → (okS sL) → (okU umL) → (okM smL) → (okR umL uL) → (okK kL iL) → (okZ K smL wL fL) → ((zq5.toInt + 1).toNat < n47) → ∀ (ls : Array Slot), lv_has ls 6 [(0, .ref (a 0)), (1, .int pq1), (2, .int pq2), (3, .int zq3), (4, .int zq4), (5, .int zq5)] → W p l e rmX6_same s m [.ref (a 0), .int pq1, .int pq2].toArray below meth c H locs 0 0 (MQ below (va_Qi (fun (r : Int32) (u : MZ) => (fun _ _ => True) r u ∧ MI (K) u) (fun u t => va_P K.1 vwCl (mZ K a u) t.heap ∧ va_D A (mZ K a u)) A) [.ref (a 0), .int pq1, .int pq2].toArray s 0 0 A) (F0 m 47 ls []) := by
    intro n47
    induction n47 with
    | zero =>
      intro thL umL smL sL uL kL iL wL fL cL yL tL H locs zq3 zq4 zq5 hP hD hS hMS hMU hMM hMR hMK hMZ hm47 ls hl
      exact absurd hm47 (Nat.not_lt_zero _)
    | succ n47 ih47 =>
      intro thL umL smL sL uL kL iL wL fL cL yL tL H locs zq3 zq4 zq5 hP hD hS hMS hMU hMM hMR hMK hMZ hm47 ls hl
      refine lv_iload hx hb dX6_same_47 (lv_at hl 5 rfl) ?_
      refine lv_if_lt (tgt := 84) hx hb dX6_same_49 (by decide) (fun cq49 => ?_) (fun cq49 => ?_)
      · skip
        refine lv_iload_n hx hb dX6_same_84 rfl (lv_at hl 2 rfl) ?_
        refine lv_if_ne (tgt := 92) hx hb dX6_same_85 (by decide) (fun cq85 => ?_) (fun cq85 => ?_)
        · skip
          refine lv_iload hx hb dX6_same_92 (lv_at hl 4 rfl) ?_
          exact W.iret (v := zq4) hx hb hr (fun t ht hW => ⟨⟨zq4, (thL, umL, smL, sL, uL, kL, iL, wL, fL, cL, yL, tL), rfl, ⟨trivial, ⟨hMS, hMU, hMM, hMR, hMK, hMZ⟩⟩, by rw [ht]; exact hP, hD⟩, hS.F ht⟩) hS.2.2 dX6_same_94
        · skip
          refine lv_iload_n hx hb dX6_same_88 rfl (lv_at hl 3 rfl) ?_
          refine lv_goto (tgt := 94) hx hb dX6_same_89 (by decide) ?_
          exact W.iret (v := zq3) hx hb hr (fun t ht hW => ⟨⟨zq3, (thL, umL, smL, sL, uL, kL, iL, wL, fL, cL, yL, tL), rfl, ⟨trivial, ⟨hMS, hMU, hMM, hMR, hMK, hMZ⟩⟩, by rw [ht]; exact hP, hD⟩, hS.F ht⟩) hS.2.2 dX6_same_94
      · skip
        refine lv_iload hx hb dX6_same_52 (lv_at hl 5 rfl) ?_
        refine r_i (va_runS (As := [.int zq5]) (rest := []) ⟨hx, hb, hml, hown, hts⟩ (k_X6_by l zq5) (va_cwS 1 hts gX6_same_X6_by rfl rfl rfl (by decide +kernel) ⟨Nat.le_of_ble_eq_true rfl, Nat.le_of_ble_eq_true rfl⟩) (pPreS) rfl rfl hl.1 rfl (lv_room (Nat.le_of_ble_eq_true rfl)) dX6_same_54 ⟨Nat.le_of_ble_eq_true rfl, Nat.le_of_ble_eq_true rfl⟩) hP hS (fun rq54 H locs hp54 hP hS => ?_)
        refine lv_i2l (v := (rq54 : Int32).toInt64) hx hb dX6_same_57 rfl ?_
        refine lv_topl (fun vq57 eq57 => ?_)
        refine lv_aload_n hx hb dX6_same_58 rfl (lv_at hl 0 rfl) ?_
        refine va_get (D := K.1) (ci := 6) (v := .ref (a 1)) (C := RX6) (T := TX6) (N := 12) hx hb hts hinX6 hown hK hP 0 rfl rfl 1 (by decide) (hts (.fieldLink RX6 7 "CodedWordsModel" "s" "[I") (by decide +kernel)) (fun _ h9 => h9) rfl dX6_same_59 ?_
        refine lv_iconst (v := 0) hx hb dX6_same_62 (by decide) ?_
        refine va_iald hx hb hK hP 1 0 rfl rfl (iq_in (by decide) (by decide)) dX6_same_63 ?_
        refine lv_topi (fun vq63 eq63 => ?_)
        refine r_i (va_runS (As := [.long vq57, .int vq63]) (rest := []) ⟨hx, hb, hml, hown, hts⟩ (k_X6_rest l vq57 vq63 (hMS.pos eq63)) (va_cwS 2 hts gX6_same_X6_rest rfl rfl rfl (by decide +kernel) ⟨Nat.le_of_ble_eq_true rfl, Nat.le_of_ble_eq_true rfl⟩) (pPreS) rfl rfl hl.1 rfl (lv_room (Nat.le_of_ble_eq_true rfl)) dX6_same_64 ⟨Nat.le_of_ble_eq_true rfl, Nat.le_of_ble_eq_true rfl⟩) hP hS (fun rq64 H locs hp64 hP hS => ?_)
        refine lv_iload_n hx hb dX6_same_67 rfl (lv_at hl 1 rfl) ?_
        refine lv_icmp_ne (tgt := 78) hx hb dX6_same_68 (by decide) (fun cq68 => ?_) (fun cq68 => ?_)
        · skip
          obtain ⟨vq78, eq78⟩ : ∃ y : Int32, y = zq5 + (-1) := ⟨_, rfl⟩
          refine lv_iinc (v := vq78) (lv' := [(5, .int vq78), (0, .ref (a 0)), (1, .int pq1), (2, .int pq2), (3, .int zq3), (4, .int zq4)]) hx hb dX6_same_78 hl (k := 5) rfl (by rw [eq78]; rfl) (by decide) rfl (fun ls hl => ?_)
          refine lv_goto (tgt := 47) hx hb dX6_same_81 (by decide) ?_
          exact ih47 thL umL smL sL uL kL iL wL fL cL yL tL _ _ zq3 zq4 vq78 hP hD hS hMS hMU hMM hMR hMK hMZ (by rw [iq_lt] at cq49; have h9 : ¬ zq5.toInt < 0 := cq49; have h : vq78.toInt = zq5.toInt + (-1) := (by rw [eq78, iq_add (by show _ ≤ zq5.toInt + (-1); omega) (by show zq5.toInt + (-1) < _; have h8 := iq_hi zq5; omega)]; rfl); omega) _ (lv_sub hl [1, 2, 3, 4, 5, 0] rfl)
        · skip
          obtain ⟨vq71, eq71⟩ : ∃ y : Int32, y = zq3 + 1 := ⟨_, rfl⟩
          refine lv_iinc (v := vq71) (lv' := [(3, .int vq71), (0, .ref (a 0)), (1, .int pq1), (2, .int pq2), (4, .int zq4), (5, .int zq5)]) hx hb dX6_same_71 hl (k := 3) rfl (by rw [eq71]; rfl) (by decide) rfl (fun ls hl => ?_)
          refine lv_iload hx hb dX6_same_74 (lv_at hl 5 rfl) ?_
          refine lv_istore (lv' := [(4, .int zq5), (3, .int vq71), (0, .ref (a 0)), (1, .int pq1), (2, .int pq2), (5, .int zq5)]) hx hb dX6_same_76 hl (by decide) rfl (fun ls hl => ?_)
          obtain ⟨vq78, eq78⟩ : ∃ y : Int32, y = zq5 + (-1) := ⟨_, rfl⟩
          refine lv_iinc (v := vq78) (lv' := [(5, .int vq78), (4, .int zq5), (3, .int vq71), (0, .ref (a 0)), (1, .int pq1), (2, .int pq2)]) hx hb dX6_same_78 hl (k := 5) rfl (by rw [eq78]; rfl) (by decide) rfl (fun ls hl => ?_)
          refine lv_goto (tgt := 47) hx hb dX6_same_81 (by decide) ?_
          exact ih47 thL umL smL sL uL kL iL wL fL cL yL tL _ _ vq71 zq5 vq78 hP hD hS hMS hMU hMM hMR hMK hMZ (by rw [iq_lt] at cq49; have h9 : ¬ zq5.toInt < 0 := cq49; have h : vq78.toInt = zq5.toInt + (-1) := (by rw [eq78, iq_add (by show _ ≤ zq5.toInt + (-1); omega) (by show zq5.toInt + (-1) < _; have h8 := iq_hi zq5; omega)]; rfl); omega) _ (lv_sub hl [3, 4, 5, 2, 1, 0] rfl)
  refine lv_aload_n hx hb dX6_same_0 rfl (lv_at hl 0 rfl) ?_
  refine lv_iconst (v := 0) hx hb dX6_same_1 (by decide) ?_
  refine va_put (D := K.1) (ci := 6) (v := .int 0) (ty := .int) (C := RX6) (T := TX6) (N := 12) hx hb hts hinX6 tyX6 tyX6_ok nmX6 hown hK hP hD hS 0 rfl rfl 0 (by decide) (hts (.fieldLink RX6 39 "CodedWordsModel" "thrown" "I") (by decide +kernel)) (fun _ h9 => h9) rfl (by decide +kernel) rfl rfl (Nat.le_of_ble_eq_true rfl) dX6_same_2 (fun H locs hP hD hS => ?_)
  have hP : va_P K.1 vwCl (mW K a 0 um sm sA uA kA iA wA fA cA yA tA) H := hP
  have hD : va_D A (mW K a 0 um sm sA uA kA iA wA fA cA yA tA) := hD
  refine lv_iload_n hx hb dX6_same_5 rfl (lv_at hl 1 rfl) ?_
  refine lv_iconst (v := 0) hx hb dX6_same_6 (by decide) ?_
  refine lv_aload_n hx hb dX6_same_7 rfl (lv_at hl 0 rfl) ?_
  refine va_get (D := K.1) (ci := 6) (v := .ref (a 1)) (C := RX6) (T := TX6) (N := 12) hx hb hts hinX6 hown hK hP 0 rfl rfl 1 (by decide) (hts (.fieldLink RX6 7 "CodedWordsModel" "s" "[I") (by decide +kernel)) (fun _ h9 => h9) rfl dX6_same_8 ?_
  refine lv_iconst (v := 0) hx hb dX6_same_11 (by decide) ?_
  refine va_iald hx hb hK hP 1 0 rfl rfl (iq_in (by decide) (by decide)) dX6_same_12 ?_
  refine lv_topi (fun vq12 eq12 => ?_)
  refine lv_iconst (v := 1) hx hb dX6_same_13 (by decide) ?_
  refine lv_isub hx hb dX6_same_14 ?_
  refine lv_topi (fun vq14 eq14 => ?_)
  refine r_i (va_runS (As := [.int pq1, .int 0, .int vq14]) (rest := []) ⟨hx, hb, hml, hown, hts⟩ (k_X6_in l pq1 0 vq14) (va_cwS 3 hts gX6_same_X6_in rfl rfl rfl (by decide +kernel) ⟨Nat.le_of_ble_eq_true rfl, Nat.le_of_ble_eq_true rfl⟩) (pPreS) rfl rfl hl.1 rfl (lv_room (Nat.le_of_ble_eq_true rfl)) dX6_same_15 ⟨Nat.le_of_ble_eq_true rfl, Nat.le_of_ble_eq_true rfl⟩) hP hS (fun rq15 H locs hp15 hP hS => ?_)
  refine lv_if_eq (tgt := 30) hx hb dX6_same_18 (by decide) (fun cq18 => ?_) (fun cq18 => ?_)
  · skip
    refine lv_ldc (v := (-1000001)) hx hb hown (hts (.constant RX6 71 (-1000001)) (by decide +kernel)) dX6_same_30 ?_
    exact W.iret (v := (-1000001)) hx hb hr (fun t ht hW => ⟨⟨(-1000001), (0, um, sm, sA, uA, kA, iA, wA, fA, cA, yA, tA), rfl, ⟨trivial, ⟨hMS, hMU, hMM, hMR, hMK, hMZ⟩⟩, by rw [ht]; exact hP, hD⟩, hS.F ht⟩) hS.2.2 dX6_same_32
  · skip
    refine lv_iload_n hx hb dX6_same_21 rfl (lv_at hl 2 rfl) ?_
    refine lv_iconst (v := 0) hx hb dX6_same_22 (by decide) ?_
    refine lv_iconst (v := 1) hx hb dX6_same_23 (by decide) ?_
    refine r_i (va_runS (As := [.int pq2, .int 0, .int 1]) (rest := []) ⟨hx, hb, hml, hown, hts⟩ (k_X6_in l pq2 0 1) (va_cwS 3 hts gX6_same_X6_in rfl rfl rfl (by decide +kernel) ⟨Nat.le_of_ble_eq_true rfl, Nat.le_of_ble_eq_true rfl⟩) (pPreS) rfl rfl hl.1 rfl (lv_room (Nat.le_of_ble_eq_true rfl)) dX6_same_24 ⟨Nat.le_of_ble_eq_true rfl, Nat.le_of_ble_eq_true rfl⟩) hP hS (fun rq24 H locs hp24 hP hS => ?_)
    refine lv_if_ne (tgt := 33) hx hb dX6_same_27 (by decide) (fun cq27 => ?_) (fun cq27 => ?_)
    · skip
      refine lv_iconst (v := 0) hx hb dX6_same_33 (by decide) ?_
      refine lv_istore_n (lv' := [(3, .int 0), (0, .ref (a 0)), (1, .int pq1), (2, .int pq2)]) hx hb dX6_same_34 rfl hl (by decide) rfl (fun ls hl => ?_)
      refine lv_ldc (v := (-1000000)) hx hb hown (hts (.constant RX6 110 (-1000000)) (by decide +kernel)) dX6_same_35 ?_
      refine lv_istore (lv' := [(4, .int (-1000000)), (3, .int 0), (0, .ref (a 0)), (1, .int pq1), (2, .int pq2)]) hx hb dX6_same_37 hl (by decide) rfl (fun ls hl => ?_)
      refine lv_aload_n hx hb dX6_same_39 rfl (lv_at hl 2 rfl) ?_
      refine r_i (K := K) (w := mW K a 0 um sm sA uA kA iA wA fA cA yA tA) (va_runV (As := []) (rest := []) ⟨hx, hb, hml, hown, hts⟩ (k_X6_strikeMany l hMS) (cwV 0 hts gX6_same_X6_strikeMany rfl rfl rfl (by decide +kernel) ⟨Nat.le_of_ble_eq_true rfl, Nat.le_of_ble_eq_true rfl⟩) (rPreV (m_rcv hK hP) hP hK hD hN) rfl rfl hl.1 rfl (lv_room (Nat.le_of_ble_eq_true rfl)) dX6_same_40 ⟨Nat.le_of_ble_eq_true rfl, Nat.le_of_ble_eq_true rfl⟩) hP hS (fun rq40 H locs hp40 hP hS => ?_)
      refine lv_iconst (v := 1) hx hb dX6_same_43 (by decide) ?_
      refine lv_isub hx hb dX6_same_44 ?_
      refine lv_topi (fun vq44 eq44 => ?_)
      refine lv_istore (lv' := [(5, .int vq44), (4, .int (-1000000)), (3, .int 0), (0, .ref (a 0)), (1, .int pq1), (2, .int pq2)]) hx hb dX6_same_45 hl (by decide) rfl (fun ls hl => ?_)
      exact hJ47 ((vq44.toInt + 1).toNat + 1) 0 um sm sA uA kA iA wA fA cA yA tA _ _ 0 ((-1000000)) vq44 hP hD hS hMS hMU hMM hMR hMK hMZ (Nat.lt_succ_self _) _ (lv_sub hl [3, 4, 5, 2, 1, 0] rfl)
    · skip
      refine lv_ldc (v := (-1000001)) hx hb hown (hts (.constant RX6 71 (-1000001)) (by decide +kernel)) dX6_same_30 ?_
      exact W.iret (v := (-1000001)) hx hb hr (fun t ht hW => ⟨⟨(-1000001), (0, um, sm, sA, uA, kA, iA, wA, fA, cA, yA, tA), rfl, ⟨trivial, ⟨hMS, hMU, hMM, hMR, hMK, hMZ⟩⟩, by rw [ht]; exact hP, hD⟩, hS.F ht⟩) hS.2.2 dX6_same_32
abbrev rmX6_plain : Room := { frames := 2, cells := 0, slots := 0, locals := 42 }
set_option maxHeartbeats 4000000 in
set_option maxRecDepth 100000 in
theorem k_X6_plain (l : Launch) {K : Cx} {a : Nat → Nat} {th um sm : Int32} {sA uA kA iA wA fA cA : Nat → Int32} {yA tA : Nat → Int64} (hM : MI K (th, um, sm, sA, uA, kA, iA, wA, fA, cA, yA, tA)) (sz : Nat) (pq1 : Int32) (pq2 : Int32)  : Mi l K yX6_plain wsX6_plain rmX6_plain [.ref (a 0), .int pq1, .int pq2] a (th, um, sm, sA, uA, kA, iA, wA, fA, cA, yA, tA) sz (fun (r : Int32) _ => pA pq1 pq2 r) := by
  refine Met.ofW (cc := cX6_plain) (maxL := 6) (ret := (some .int)) (by decide) rfl ?_
  intro p e s m args below meth c s₁ B hml hv
  obtain ⟨rfl, hsz, hP, hK, hD0, hN⟩ := hv
  have hx := B.exec
  have hb := B.bytes
  have hr := B.returns
  have hts := atoms_spec (ws := wsX6_plain) B.pre
  have hown : s.vm.findClass RX6 = some m.cls := findClass_of_methodNamed B.named
  have hlocks := B.notSynchronized
  have hinX6 : ∀ w ∈ wsX60, w ∈ wsX6_plain := by decide +kernel
  subst hsz
  have hD := hD0.self (sz := s.heap.size)
  generalize hAe : va_A (mZ K a (th, um, sm, sA, uA, kA, iA, wA, fA, cA, yA, tA)) s.heap.size = A at hD ⊢
  have hA : ∀ q : Nat, s.heap.size ≤ q → A q := fun q h => by rw [← hAe]; exact Or.inr h
  have hS : va_S A s.heap s.heap [] := va_S.rf
  have hP : va_P K.1 vwCl (mW K a th um sm sA uA kA iA wA fA cA yA tA) s.heap := hP
  have hD : va_D A (mW K a th um sm sA uA kA iA wA fA cA yA tA) := hD
  have hMS : okS sA := hM.1
  have hMU : okU um := hM.2.1
  have hMM : okM sm := hM.2.2.1
  have hMR : okR um uA := hM.2.2.2.1
  have hMK : okK kA iA := hM.2.2.2.2.1
  have hMZ : okZ K sm wA fA := hM.2.2.2.2.2
  have hl := lv_entry ([.ref (a 0), .int pq1, .int pq2]) (n := 6) (Nat.le_of_ble_eq_true rfl)
  rw [lg_entry_eq]
  generalize (lg_sl ([.ref (a 0), .int pq1, .int pq2]) ++ List.replicate (6 - (lg_sl ([.ref (a 0), .int pq1, .int pq2])).length) Slot.unset).toArray = ls at hl ⊢
  have hl : lv_has ls 6 [(0, .ref (a 0)), (1, .int pq1), (2, .int pq2)] := hl
  have hJ30 : ∀ (n30 : Nat) (thL : Int32) (umL : Int32) (smL : Int32) (sL : Nat → Int32) (uL : Nat → Int32) (kL : Nat → Int32) (iL : Nat → Int32) (wL : Nat → Int32) (fL : Nat → Int32) (cL : Nat → Int32) (yL : Nat → Int64) (tL : Nat → Int64) (H : Heap) (locs : List Loc) (zq3 : Int32) (zq4 : Int32), (va_P K.1 vwCl (mW K a thL umL smL sL uL kL iL wL fL cL yL tL) H) → (va_D A (mW K a thL umL smL sL uL kL iL wL fL cL yL tL)) → (va_S A s.heap H locs) → (okS sL) → (okU umL) → (okM smL) → (okR umL uL) → (okK kL iL) → (okZ K smL wL fL) → (isC pq1) → (isWd pq2) → (0 ≤ zq4.toInt) → (b01 zq3 (plP pq1 zq4.toInt.toNat)) → (zq4.toInt ≤ 2 * pq2.toInt) → ((2147483647 - zq4.toInt).toNat < n30) → ∀ (ls : Array Slot), lv_has ls 6 [(1, .int pq1), (2, .int pq2), (3, .int zq3), (4, .int zq4)] → W p l e rmX6_plain s m [.ref (a 0), .int pq1, .int pq2].toArray below meth c H locs 0 0 (MQ below (va_Qi (fun (r : Int32) (u : MZ) => (fun (r : Int32) _ => pA pq1 pq2 r) r u ∧ MI (K) u) (fun u t => va_P K.1 vwCl (mZ K a u) t.heap ∧ va_D A (mZ K a u)) A) [.ref (a 0), .int pq1, .int pq2].toArray s 0 0 A) (F0 m 30 ls []) := by
    intro n30
    induction n30 with
    | zero =>
      intro thL umL smL sL uL kL iL wL fL cL yL tL H locs zq3 zq4 hP hD hS hMS hMU hMM hMR hMK hMZ i30_0 i30_1 i30_2 i30_3 i30_4 hm30 ls hl
      exact absurd hm30 (Nat.not_lt_zero _)
    | succ n30 ih30 =>
      intro thL umL smL sL uL kL iL wL fL cL yL tL H locs zq3 zq4 hP hD hS hMS hMU hMM hMR hMK hMZ i30_0 i30_1 i30_2 i30_3 i30_4 hm30 ls hl
      have hJ64 : ∀ (n64 : Nat) (thL : Int32) (umL : Int32) (smL : Int32) (sL : Nat → Int32) (uL : Nat → Int32) (kL : Nat → Int32) (iL : Nat → Int32) (wL : Nat → Int32) (fL : Nat → Int32) (cL : Nat → Int32) (yL : Nat → Int64) (tL : Nat → Int64) (H : Heap) (locs : List Loc) (zq3 : Int32) (zq5 : Int32), (va_P K.1 vwCl (mW K a thL umL smL sL uL kL iL wL fL cL yL tL) H) → (va_D A (mW K a thL umL smL sL uL kL iL wL fL cL yL tL)) → (va_S A s.heap H locs) → (okS sL) → (okU umL) → (okM smL) → (okR umL uL) → (okK kL iL) → (okZ K smL wL fL) → (zq4.toInt < 2147483647 ∧ zq4.toInt < 2 * pq2.toInt) → (0 ≤ zq5.toInt ∧ zq5.toInt ≤ zq4.toInt) → (b01 zq3 (plQ pq1 zq4.toInt.toNat zq5.toInt.toNat)) → ((2147483647 - zq5.toInt).toNat < n64) → ∀ (ls : Array Slot), lv_has ls 6 [(1, .int pq1), (2, .int pq2), (3, .int zq3), (4, .int zq4), (5, .int zq5)] → W p l e rmX6_plain s m [.ref (a 0), .int pq1, .int pq2].toArray below meth c H locs 0 0 (MQ below (va_Qi (fun (r : Int32) (u : MZ) => (fun (r : Int32) _ => pA pq1 pq2 r) r u ∧ MI (K) u) (fun u t => va_P K.1 vwCl (mZ K a u) t.heap ∧ va_D A (mZ K a u)) A) [.ref (a 0), .int pq1, .int pq2].toArray s 0 0 A) (F0 m 64 ls []) := by
        intro n64
        induction n64 with
        | zero =>
          intro thL umL smL sL uL kL iL wL fL cL yL tL H locs zq3 zq5 hP hD hS hMS hMU hMM hMR hMK hMZ i64_0 i64_1 i64_2 hm64 ls hl
          exact absurd hm64 (Nat.not_lt_zero _)
        | succ n64 ih64 =>
          intro thL umL smL sL uL kL iL wL fL cL yL tL H locs zq3 zq5 hP hD hS hMS hMU hMM hMR hMK hMZ i64_0 i64_1 i64_2 hm64 ls hl
          refine lv_iload hx hb dX6_plain_64 (lv_at hl 4 rfl) ?_
          refine lv_iload hx hb dX6_plain_66 (lv_at hl 3 rfl) ?_
          refine lv_icmp_ge (tgt := 110) hx hb dX6_plain_68 (by decide) (fun cq68 => ?_) (fun cq68 => ?_)
          · skip
            obtain ⟨vq110, eq110⟩ : ∃ y : Int32, y = zq4 + 1 := ⟨_, rfl⟩
            refine lv_iinc (v := vq110) (lv' := [(4, .int vq110), (1, .int pq1), (2, .int pq2), (3, .int zq3), (5, .int zq5)]) hx hb dX6_plain_110 hl (k := 3) rfl (by rw [eq110]; rfl) (by decide) rfl (fun ls hl => ?_)
            refine lv_goto (tgt := 30) hx hb dX6_plain_113 (by decide) ?_
            exact ih30 thL umL smL sL uL kL iL wL fL cL yL tL _ _ zq3 vq110 hP hD hS hMS hMU hMM hMR hMK hMZ (by first | exact i30_0 | exact (hp6.1.resolve_left cq9).2) (by first | exact i30_1 | exact ⟨(by have h := (hp16.resolve_left (fun q => cq19 q.1)).2.1; rw [iq_le] at h; exact h), (by have h := (hp16.resolve_left (fun q => cq19 q.1)).2.2; rw [iq_le] at h; exact h)⟩) (by first | (have h9 := iq_add1 eq110 (by omega); omega) | decide) (by first | exact plP_0 | exact plQ_end (n := zq4.toInt.toNat) (by have h9 : zq5.toInt.toNat = zq4.toInt.toNat := (by rw [iq_le] at cq68; omega); rw [h9] at i64_2; exact i64_2) (by have h9 := iq_add1 eq110 (by omega); omega)) (by first | (have h9 := iq_add1 eq110 (by omega); omega) | (have h9 : 4 ≤ pq2.toInt := (by have h := (hp16.resolve_left (fun q => cq19 q.1)).2.1; rw [iq_le] at h; exact h); show (0 : Int) ≤ _; omega)) (iq_upm hm30 i64_0.1 eq110) _ (lv_sub hl [1, 2, 3, 0] rfl)
          · skip
            refine lv_iload_n hx hb dX6_plain_71 rfl (lv_at hl 2 rfl) ?_
            refine lv_if_eq (tgt := 102) hx hb dX6_plain_72 (by decide) (fun cq72 => ?_) (fun cq72 => ?_)
            · skip
              refine lv_iconst (v := 0) hx hb dX6_plain_102 (by decide) ?_
              refine lv_istore_n (lv' := [(3, .int 0), (1, .int pq1), (2, .int pq2), (4, .int zq4), (5, .int zq5)]) hx hb dX6_plain_103 rfl hl (by decide) rfl (fun ls hl => ?_)
              obtain ⟨vq104, eq104⟩ : ∃ y : Int32, y = zq5 + 1 := ⟨_, rfl⟩
              refine lv_iinc (v := vq104) (lv' := [(5, .int vq104), (3, .int 0), (1, .int pq1), (2, .int pq2), (4, .int zq4)]) hx hb dX6_plain_104 hl (k := 4) rfl (by rw [eq104]; rfl) (by decide) rfl (fun ls hl => ?_)
              refine lv_goto (tgt := 64) hx hb dX6_plain_107 (by decide) ?_
              exact ih64 thL umL smL sL uL kL iL wL fL cL yL tL _ _ 0 vq104 hP hD hS hMS hMU hMM hMR hMK hMZ (by first | exact i64_0 | exact ⟨iq_below cq35, by have h9 := iq_mul2 (by have h8 := i30_1.1; omega) (by have h8 := i30_1.2; omega) eq34; rw [iq_le] at cq35; omega⟩) (by first | (rw [iq_le] at cq68; have h9 := iq_add1 eq104 (by omega); exact ⟨by omega, by omega⟩) | exact ⟨by decide, by show (0 : Int) ≤ _; omega⟩) (by first | exact plQ_a i30_3 cq39 | exact plQ_b (mr_f (by have h8 := i30_0.1; omega) i30_2 hp44 eq47 hp49) cq52 | exact plQ_c i30_3 cq39 (mr_f (by have h8 := i30_0.1; omega) i30_2 hp44 eq47 hp49) cq52 | exact plQ_d i64_2 cq72 (by rw [iq_le] at cq68; have h9 := iq_add1 eq104 (by omega); omega) | exact plQ_e (mr_f (by have h8 := i30_0.1; omega) i30_2 hp77 eq80 hp82) (mr_f (by have h8 := i30_0.1; omega) i64_1.1 hp87 eq90 hp92) cq95 (by rw [iq_le] at cq68; have h9 := iq_add1 eq104 (by omega); omega) | exact plQ_f i64_2 cq72 (mr_f (by have h8 := i30_0.1; omega) i30_2 hp77 eq80 hp82) (mr_f (by have h8 := i30_0.1; omega) i64_1.1 hp87 eq90 hp92) cq95 (by rw [iq_le] at cq68; have h9 := iq_add1 eq104 (by omega); omega)) (iq_up hm64 cq68 eq104) _ (lv_sub hl [2, 3, 1, 4, 0] rfl)
            · skip
              refine lv_iload hx hb dX6_plain_75 (lv_at hl 3 rfl) ?_
              refine r_i (va_runS (As := [.int zq4]) (rest := []) ⟨hx, hb, hml, hown, hts⟩ (k_X6_by l zq4) (va_cwS 1 hts gX6_plain_X6_by rfl rfl rfl (by decide +kernel) ⟨Nat.le_of_ble_eq_true rfl, Nat.le_of_ble_eq_true rfl⟩) (pPreS) rfl rfl hl.1 rfl (lv_room (Nat.le_of_ble_eq_true rfl)) dX6_plain_77 ⟨Nat.le_of_ble_eq_true rfl, Nat.le_of_ble_eq_true rfl⟩) hP hS (fun rq77 H locs hp77 hP hS => ?_)
              refine lv_i2l (v := (rq77 : Int32).toInt64) hx hb dX6_plain_80 rfl ?_
              refine lv_topl (fun vq80 eq80 => ?_)
              refine lv_iload_n hx hb dX6_plain_81 rfl (lv_at hl 0 rfl) ?_
              refine r_i (va_runS (As := [.long vq80, .int pq1]) (rest := []) ⟨hx, hb, hml, hown, hts⟩ (k_X6_rest l vq80 pq1 ((by have h8 := i30_0.1; omega))) (va_cwS 2 hts gX6_plain_X6_rest rfl rfl rfl (by decide +kernel) ⟨Nat.le_of_ble_eq_true rfl, Nat.le_of_ble_eq_true rfl⟩) (pPreS) rfl rfl hl.1 rfl (lv_room (Nat.le_of_ble_eq_true rfl)) dX6_plain_82 ⟨Nat.le_of_ble_eq_true rfl, Nat.le_of_ble_eq_true rfl⟩) hP hS (fun rq82 H locs hp82 hP hS => ?_)
              refine lv_iload hx hb dX6_plain_85 (lv_at hl 4 rfl) ?_
              refine r_i (va_runS (As := [.int zq5]) (rest := [.int rq82]) ⟨hx, hb, hml, hown, hts⟩ (k_X6_by l zq5) (va_cwS 1 hts gX6_plain_X6_by rfl rfl rfl (by decide +kernel) ⟨Nat.le_of_ble_eq_true rfl, Nat.le_of_ble_eq_true rfl⟩) (pPreS) rfl rfl hl.1 rfl (lv_room (Nat.le_of_ble_eq_true rfl)) dX6_plain_87 ⟨Nat.le_of_ble_eq_true rfl, Nat.le_of_ble_eq_true rfl⟩) hP hS (fun rq87 H locs hp87 hP hS => ?_)
              refine lv_i2l (v := (rq87 : Int32).toInt64) hx hb dX6_plain_90 rfl ?_
              refine lv_topl (fun vq90 eq90 => ?_)
              refine lv_iload_n hx hb dX6_plain_91 rfl (lv_at hl 0 rfl) ?_
              refine r_i (va_runS (As := [.long vq90, .int pq1]) (rest := [.int rq82]) ⟨hx, hb, hml, hown, hts⟩ (k_X6_rest l vq90 pq1 ((by have h8 := i30_0.1; omega))) (va_cwS 2 hts gX6_plain_X6_rest rfl rfl rfl (by decide +kernel) ⟨Nat.le_of_ble_eq_true rfl, Nat.le_of_ble_eq_true rfl⟩) (pPreS) rfl rfl hl.1 rfl (lv_room (Nat.le_of_ble_eq_true rfl)) dX6_plain_92 ⟨Nat.le_of_ble_eq_true rfl, Nat.le_of_ble_eq_true rfl⟩) hP hS (fun rq92 H locs hp92 hP hS => ?_)
              refine lv_icmp_eq (tgt := 102) hx hb dX6_plain_95 (by decide) (fun cq95 => ?_) (fun cq95 => ?_)
              · skip
                refine lv_iconst (v := 0) hx hb dX6_plain_102 (by decide) ?_
                refine lv_istore_n (lv' := [(3, .int 0), (1, .int pq1), (2, .int pq2), (4, .int zq4), (5, .int zq5)]) hx hb dX6_plain_103 rfl hl (by decide) rfl (fun ls hl => ?_)
                obtain ⟨vq104, eq104⟩ : ∃ y : Int32, y = zq5 + 1 := ⟨_, rfl⟩
                refine lv_iinc (v := vq104) (lv' := [(5, .int vq104), (3, .int 0), (1, .int pq1), (2, .int pq2), (4, .int zq4)]) hx hb dX6_plain_104 hl (k := 4) rfl (by rw [eq104]; rfl) (by decide) rfl (fun ls hl => ?_)
                refine lv_goto (tgt := 64) hx hb dX6_plain_107 (by decide) ?_
                exact ih64 thL umL smL sL uL kL iL wL fL cL yL tL _ _ 0 vq104 hP hD hS hMS hMU hMM hMR hMK hMZ (by first | exact i64_0 | exact ⟨iq_below cq35, by have h9 := iq_mul2 (by have h8 := i30_1.1; omega) (by have h8 := i30_1.2; omega) eq34; rw [iq_le] at cq35; omega⟩) (by first | (rw [iq_le] at cq68; have h9 := iq_add1 eq104 (by omega); exact ⟨by omega, by omega⟩) | exact ⟨by decide, by show (0 : Int) ≤ _; omega⟩) (by first | exact plQ_a i30_3 cq39 | exact plQ_b (mr_f (by have h8 := i30_0.1; omega) i30_2 hp44 eq47 hp49) cq52 | exact plQ_c i30_3 cq39 (mr_f (by have h8 := i30_0.1; omega) i30_2 hp44 eq47 hp49) cq52 | exact plQ_d i64_2 cq72 (by rw [iq_le] at cq68; have h9 := iq_add1 eq104 (by omega); omega) | exact plQ_e (mr_f (by have h8 := i30_0.1; omega) i30_2 hp77 eq80 hp82) (mr_f (by have h8 := i30_0.1; omega) i64_1.1 hp87 eq90 hp92) cq95 (by rw [iq_le] at cq68; have h9 := iq_add1 eq104 (by omega); omega) | exact plQ_f i64_2 cq72 (mr_f (by have h8 := i30_0.1; omega) i30_2 hp77 eq80 hp82) (mr_f (by have h8 := i30_0.1; omega) i64_1.1 hp87 eq90 hp92) cq95 (by rw [iq_le] at cq68; have h9 := iq_add1 eq104 (by omega); omega)) (iq_up hm64 cq68 eq104) _ (lv_sub hl [2, 3, 1, 4, 0] rfl)
              · skip
                refine lv_iconst (v := 1) hx hb dX6_plain_98 (by decide) ?_
                refine lv_goto (tgt := 103) hx hb dX6_plain_99 (by decide) ?_
                refine lv_istore_n (lv' := [(3, .int 1), (1, .int pq1), (2, .int pq2), (4, .int zq4), (5, .int zq5)]) hx hb dX6_plain_103 rfl hl (by decide) rfl (fun ls hl => ?_)
                obtain ⟨vq104, eq104⟩ : ∃ y : Int32, y = zq5 + 1 := ⟨_, rfl⟩
                refine lv_iinc (v := vq104) (lv' := [(5, .int vq104), (3, .int 1), (1, .int pq1), (2, .int pq2), (4, .int zq4)]) hx hb dX6_plain_104 hl (k := 4) rfl (by rw [eq104]; rfl) (by decide) rfl (fun ls hl => ?_)
                refine lv_goto (tgt := 64) hx hb dX6_plain_107 (by decide) ?_
                exact ih64 thL umL smL sL uL kL iL wL fL cL yL tL _ _ 1 vq104 hP hD hS hMS hMU hMM hMR hMK hMZ (by first | exact i64_0 | exact ⟨iq_below cq35, by have h9 := iq_mul2 (by have h8 := i30_1.1; omega) (by have h8 := i30_1.2; omega) eq34; rw [iq_le] at cq35; omega⟩) (by first | (rw [iq_le] at cq68; have h9 := iq_add1 eq104 (by omega); exact ⟨by omega, by omega⟩) | exact ⟨by decide, by show (0 : Int) ≤ _; omega⟩) (by first | exact plQ_a i30_3 cq39 | exact plQ_b (mr_f (by have h8 := i30_0.1; omega) i30_2 hp44 eq47 hp49) cq52 | exact plQ_c i30_3 cq39 (mr_f (by have h8 := i30_0.1; omega) i30_2 hp44 eq47 hp49) cq52 | exact plQ_d i64_2 cq72 (by rw [iq_le] at cq68; have h9 := iq_add1 eq104 (by omega); omega) | exact plQ_e (mr_f (by have h8 := i30_0.1; omega) i30_2 hp77 eq80 hp82) (mr_f (by have h8 := i30_0.1; omega) i64_1.1 hp87 eq90 hp92) cq95 (by rw [iq_le] at cq68; have h9 := iq_add1 eq104 (by omega); omega) | exact plQ_f i64_2 cq72 (mr_f (by have h8 := i30_0.1; omega) i30_2 hp77 eq80 hp82) (mr_f (by have h8 := i30_0.1; omega) i64_1.1 hp87 eq90 hp92) cq95 (by rw [iq_le] at cq68; have h9 := iq_add1 eq104 (by omega); omega)) (iq_up hm64 cq68 eq104) _ (lv_sub hl [2, 3, 1, 4, 0] rfl)
      refine lv_iload hx hb dX6_plain_30 (lv_at hl 3 rfl) ?_
      refine lv_iconst (v := 2) hx hb dX6_plain_32 (by decide) ?_
      refine lv_iload_n hx hb dX6_plain_33 rfl (lv_at hl 1 rfl) ?_
      refine lv_imul hx hb dX6_plain_34 ?_
      refine lv_topi (fun vq34 eq34 => ?_)
      refine lv_icmp_ge (tgt := 116) hx hb dX6_plain_35 (by decide) (fun cq35 => ?_) (fun cq35 => ?_)
      · skip
        have hz4 : 2 * pq2.toInt ≤ zq4.toInt := by have h9 := iq_mul2 (by have h8 := i30_1.1; omega) (by have h8 := i30_1.2; omega) eq34; rw [iq_le] at cq35; omega
        refine lv_iload_n hx hb dX6_plain_116 rfl (lv_at hl 2 rfl) ?_
        refine lv_if_eq (tgt := 124) hx hb dX6_plain_117 (by decide) (fun cq117 => ?_) (fun cq117 => ?_)
        · skip
          refine lv_iconst (v := 0) hx hb dX6_plain_124 (by decide) ?_
          exact W.iret (v := 0) hx hb hr (fun t ht hW => ⟨⟨0, (thL, umL, smL, sL, uL, kL, iL, wL, fL, cL, yL, tL), rfl, ⟨Or.inr ⟨i30_0, i30_1, by first | exact pl_fin1 i30_3 cq117 i30_4 hz4 | exact pl_fin0 i30_3 cq117 i30_4 hz4⟩, ⟨hMS, hMU, hMM, hMR, hMK, hMZ⟩⟩, by rw [ht]; exact hP, hD⟩, hS.F ht⟩) hS.2.2 dX6_plain_125
        · skip
          refine lv_iconst (v := 1) hx hb dX6_plain_120 (by decide) ?_
          refine lv_goto (tgt := 125) hx hb dX6_plain_121 (by decide) ?_
          exact W.iret (v := 1) hx hb hr (fun t ht hW => ⟨⟨1, (thL, umL, smL, sL, uL, kL, iL, wL, fL, cL, yL, tL), rfl, ⟨Or.inr ⟨i30_0, i30_1, by first | exact pl_fin1 i30_3 cq117 i30_4 hz4 | exact pl_fin0 i30_3 cq117 i30_4 hz4⟩, ⟨hMS, hMU, hMM, hMR, hMK, hMZ⟩⟩, by rw [ht]; exact hP, hD⟩, hS.F ht⟩) hS.2.2 dX6_plain_125
      · skip
        refine lv_iload_n hx hb dX6_plain_38 rfl (lv_at hl 2 rfl) ?_
        refine lv_if_eq (tgt := 59) hx hb dX6_plain_39 (by decide) (fun cq39 => ?_) (fun cq39 => ?_)
        · skip
          refine lv_iconst (v := 0) hx hb dX6_plain_59 (by decide) ?_
          refine lv_istore_n (lv' := [(3, .int 0), (1, .int pq1), (2, .int pq2), (4, .int zq4)]) hx hb dX6_plain_60 rfl hl (by decide) rfl (fun ls hl => ?_)
          refine lv_iconst (v := 0) hx hb dX6_plain_61 (by decide) ?_
          refine lv_istore (lv' := [(5, .int 0), (3, .int 0), (1, .int pq1), (2, .int pq2), (4, .int zq4)]) hx hb dX6_plain_62 hl (by decide) rfl (fun ls hl => ?_)
          exact hJ64 ((2147483647 - (0 : Int32).toInt).toNat + 1) thL umL smL sL uL kL iL wL fL cL yL tL _ _ 0 0 hP hD hS hMS hMU hMM hMR hMK hMZ (by first | exact i64_0 | exact ⟨iq_below cq35, by have h9 := iq_mul2 (by have h8 := i30_1.1; omega) (by have h8 := i30_1.2; omega) eq34; rw [iq_le] at cq35; omega⟩) (by first | (rw [iq_le] at cq68; have h9 := iq_add1 eq104 (by omega); exact ⟨by omega, by omega⟩) | exact ⟨by decide, by show (0 : Int) ≤ _; omega⟩) (by first | exact plQ_a i30_3 cq39 | exact plQ_b (mr_f (by have h8 := i30_0.1; omega) i30_2 hp44 eq47 hp49) cq52 | exact plQ_c i30_3 cq39 (mr_f (by have h8 := i30_0.1; omega) i30_2 hp44 eq47 hp49) cq52 | exact plQ_d i64_2 cq72 (by rw [iq_le] at cq68; have h9 := iq_add1 eq104 (by omega); omega) | exact plQ_e (mr_f (by have h8 := i30_0.1; omega) i30_2 hp77 eq80 hp82) (mr_f (by have h8 := i30_0.1; omega) i64_1.1 hp87 eq90 hp92) cq95 (by rw [iq_le] at cq68; have h9 := iq_add1 eq104 (by omega); omega) | exact plQ_f i64_2 cq72 (mr_f (by have h8 := i30_0.1; omega) i30_2 hp77 eq80 hp82) (mr_f (by have h8 := i30_0.1; omega) i64_1.1 hp87 eq90 hp92) cq95 (by rw [iq_le] at cq68; have h9 := iq_add1 eq104 (by omega); omega)) (Nat.lt_succ_self _) _ (lv_sub hl [2, 3, 1, 4, 0] rfl)
        · skip
          refine lv_iload hx hb dX6_plain_42 (lv_at hl 3 rfl) ?_
          refine r_i (va_runS (As := [.int zq4]) (rest := []) ⟨hx, hb, hml, hown, hts⟩ (k_X6_by l zq4) (va_cwS 1 hts gX6_plain_X6_by rfl rfl rfl (by decide +kernel) ⟨Nat.le_of_ble_eq_true rfl, Nat.le_of_ble_eq_true rfl⟩) (pPreS) rfl rfl hl.1 rfl (lv_room (Nat.le_of_ble_eq_true rfl)) dX6_plain_44 ⟨Nat.le_of_ble_eq_true rfl, Nat.le_of_ble_eq_true rfl⟩) hP hS (fun rq44 H locs hp44 hP hS => ?_)
          refine lv_i2l (v := (rq44 : Int32).toInt64) hx hb dX6_plain_47 rfl ?_
          refine lv_topl (fun vq47 eq47 => ?_)
          refine lv_iload_n hx hb dX6_plain_48 rfl (lv_at hl 0 rfl) ?_
          refine r_i (va_runS (As := [.long vq47, .int pq1]) (rest := []) ⟨hx, hb, hml, hown, hts⟩ (k_X6_rest l vq47 pq1 ((by have h8 := i30_0.1; omega))) (va_cwS 2 hts gX6_plain_X6_rest rfl rfl rfl (by decide +kernel) ⟨Nat.le_of_ble_eq_true rfl, Nat.le_of_ble_eq_true rfl⟩) (pPreS) rfl rfl hl.1 rfl (lv_room (Nat.le_of_ble_eq_true rfl)) dX6_plain_49 ⟨Nat.le_of_ble_eq_true rfl, Nat.le_of_ble_eq_true rfl⟩) hP hS (fun rq49 H locs hp49 hP hS => ?_)
          refine lv_if_eq (tgt := 59) hx hb dX6_plain_52 (by decide) (fun cq52 => ?_) (fun cq52 => ?_)
          · skip
            refine lv_iconst (v := 0) hx hb dX6_plain_59 (by decide) ?_
            refine lv_istore_n (lv' := [(3, .int 0), (1, .int pq1), (2, .int pq2), (4, .int zq4)]) hx hb dX6_plain_60 rfl hl (by decide) rfl (fun ls hl => ?_)
            refine lv_iconst (v := 0) hx hb dX6_plain_61 (by decide) ?_
            refine lv_istore (lv' := [(5, .int 0), (3, .int 0), (1, .int pq1), (2, .int pq2), (4, .int zq4)]) hx hb dX6_plain_62 hl (by decide) rfl (fun ls hl => ?_)
            exact hJ64 ((2147483647 - (0 : Int32).toInt).toNat + 1) thL umL smL sL uL kL iL wL fL cL yL tL _ _ 0 0 hP hD hS hMS hMU hMM hMR hMK hMZ (by first | exact i64_0 | exact ⟨iq_below cq35, by have h9 := iq_mul2 (by have h8 := i30_1.1; omega) (by have h8 := i30_1.2; omega) eq34; rw [iq_le] at cq35; omega⟩) (by first | (rw [iq_le] at cq68; have h9 := iq_add1 eq104 (by omega); exact ⟨by omega, by omega⟩) | exact ⟨by decide, by show (0 : Int) ≤ _; omega⟩) (by first | exact plQ_a i30_3 cq39 | exact plQ_b (mr_f (by have h8 := i30_0.1; omega) i30_2 hp44 eq47 hp49) cq52 | exact plQ_c i30_3 cq39 (mr_f (by have h8 := i30_0.1; omega) i30_2 hp44 eq47 hp49) cq52 | exact plQ_d i64_2 cq72 (by rw [iq_le] at cq68; have h9 := iq_add1 eq104 (by omega); omega) | exact plQ_e (mr_f (by have h8 := i30_0.1; omega) i30_2 hp77 eq80 hp82) (mr_f (by have h8 := i30_0.1; omega) i64_1.1 hp87 eq90 hp92) cq95 (by rw [iq_le] at cq68; have h9 := iq_add1 eq104 (by omega); omega) | exact plQ_f i64_2 cq72 (mr_f (by have h8 := i30_0.1; omega) i30_2 hp77 eq80 hp82) (mr_f (by have h8 := i30_0.1; omega) i64_1.1 hp87 eq90 hp92) cq95 (by rw [iq_le] at cq68; have h9 := iq_add1 eq104 (by omega); omega)) (Nat.lt_succ_self _) _ (lv_sub hl [2, 3, 1, 4, 0] rfl)
          · skip
            refine lv_iconst (v := 1) hx hb dX6_plain_55 (by decide) ?_
            refine lv_goto (tgt := 60) hx hb dX6_plain_56 (by decide) ?_
            refine lv_istore_n (lv' := [(3, .int 1), (1, .int pq1), (2, .int pq2), (4, .int zq4)]) hx hb dX6_plain_60 rfl hl (by decide) rfl (fun ls hl => ?_)
            refine lv_iconst (v := 0) hx hb dX6_plain_61 (by decide) ?_
            refine lv_istore (lv' := [(5, .int 0), (3, .int 1), (1, .int pq1), (2, .int pq2), (4, .int zq4)]) hx hb dX6_plain_62 hl (by decide) rfl (fun ls hl => ?_)
            exact hJ64 ((2147483647 - (0 : Int32).toInt).toNat + 1) thL umL smL sL uL kL iL wL fL cL yL tL _ _ 1 0 hP hD hS hMS hMU hMM hMR hMK hMZ (by first | exact i64_0 | exact ⟨iq_below cq35, by have h9 := iq_mul2 (by have h8 := i30_1.1; omega) (by have h8 := i30_1.2; omega) eq34; rw [iq_le] at cq35; omega⟩) (by first | (rw [iq_le] at cq68; have h9 := iq_add1 eq104 (by omega); exact ⟨by omega, by omega⟩) | exact ⟨by decide, by show (0 : Int) ≤ _; omega⟩) (by first | exact plQ_a i30_3 cq39 | exact plQ_b (mr_f (by have h8 := i30_0.1; omega) i30_2 hp44 eq47 hp49) cq52 | exact plQ_c i30_3 cq39 (mr_f (by have h8 := i30_0.1; omega) i30_2 hp44 eq47 hp49) cq52 | exact plQ_d i64_2 cq72 (by rw [iq_le] at cq68; have h9 := iq_add1 eq104 (by omega); omega) | exact plQ_e (mr_f (by have h8 := i30_0.1; omega) i30_2 hp77 eq80 hp82) (mr_f (by have h8 := i30_0.1; omega) i64_1.1 hp87 eq90 hp92) cq95 (by rw [iq_le] at cq68; have h9 := iq_add1 eq104 (by omega); omega) | exact plQ_f i64_2 cq72 (mr_f (by have h8 := i30_0.1; omega) i30_2 hp77 eq80 hp82) (mr_f (by have h8 := i30_0.1; omega) i64_1.1 hp87 eq90 hp92) cq95 (by rw [iq_le] at cq68; have h9 := iq_add1 eq104 (by omega); omega)) (Nat.lt_succ_self _) _ (lv_sub hl [2, 3, 1, 4, 0] rfl)
  refine lv_aload_n hx hb dX6_plain_0 rfl (lv_at hl 0 rfl) ?_
  refine lv_iconst (v := 0) hx hb dX6_plain_1 (by decide) ?_
  refine va_put (D := K.1) (ci := 6) (v := .int 0) (ty := .int) (C := RX6) (T := TX6) (N := 12) hx hb hts hinX6 tyX6 tyX6_ok nmX6 hown hK hP hD hS 0 rfl rfl 0 (by decide) (hts (.fieldLink RX6 39 "CodedWordsModel" "thrown" "I") (by decide +kernel)) (fun _ h9 => h9) rfl (by decide +kernel) rfl rfl (Nat.le_of_ble_eq_true rfl) dX6_plain_2 (fun H locs hP hD hS => ?_)
  have hP : va_P K.1 vwCl (mW K a 0 um sm sA uA kA iA wA fA cA yA tA) H := hP
  have hD : va_D A (mW K a 0 um sm sA uA kA iA wA fA cA yA tA) := hD
  refine lv_iload_n hx hb dX6_plain_5 rfl (lv_at hl 1 rfl) ?_
  refine r_i (va_runS (As := [.int pq1]) (rest := []) ⟨hx, hb, hml, hown, hts⟩ (k_X6_isConstant l pq1) (va_cwS 1 hts gX6_plain_X6_isConstant rfl rfl rfl (by decide +kernel) ⟨Nat.le_of_ble_eq_true rfl, Nat.le_of_ble_eq_true rfl⟩) (pPreS) rfl rfl hl.1 rfl (lv_room (Nat.le_of_ble_eq_true rfl)) dX6_plain_6 ⟨Nat.le_of_ble_eq_true rfl, Nat.le_of_ble_eq_true rfl⟩) hP hS (fun rq6 H locs hp6 hP hS => ?_)
  refine lv_if_eq (tgt := 22) hx hb dX6_plain_9 (by decide) (fun cq9 => ?_) (fun cq9 => ?_)
  · skip
    refine lv_ldc (v := (-1000001)) hx hb hown (hts (.constant RX6 71 (-1000001)) (by decide +kernel)) dX6_plain_22 ?_
    exact W.iret (v := (-1000001)) hx hb hr (fun t ht hW => ⟨⟨(-1000001), (0, um, sm, sA, uA, kA, iA, wA, fA, cA, yA, tA), rfl, ⟨by first | exact Or.inl ⟨fun h => (hp16.resolve_right (fun q => by rw [q.1] at cq19; exact absurd cq19 (by decide))).2 ⟨by rw [iq_le]; exact h.2.1, by rw [iq_le]; exact h.2.2⟩, rfl⟩ | exact Or.inl ⟨fun h => hp6.2 cq9 h.1, rfl⟩, ⟨hMS, hMU, hMM, hMR, hMK, hMZ⟩⟩, by rw [ht]; exact hP, hD⟩, hS.F ht⟩) hS.2.2 dX6_plain_24
  · skip
    refine lv_iload_n hx hb dX6_plain_12 rfl (lv_at hl 2 rfl) ?_
    refine lv_iconst (v := 4) hx hb dX6_plain_13 (by decide) ?_
    refine lv_bipush (v := 16) hx hb dX6_plain_14 (by decide) ?_
    refine r_i (va_runS (As := [.int pq2, .int 4, .int 16]) (rest := []) ⟨hx, hb, hml, hown, hts⟩ (k_X6_in l pq2 4 16) (va_cwS 3 hts gX6_plain_X6_in rfl rfl rfl (by decide +kernel) ⟨Nat.le_of_ble_eq_true rfl, Nat.le_of_ble_eq_true rfl⟩) (pPreS) rfl rfl hl.1 rfl (lv_room (Nat.le_of_ble_eq_true rfl)) dX6_plain_16 ⟨Nat.le_of_ble_eq_true rfl, Nat.le_of_ble_eq_true rfl⟩) hP hS (fun rq16 H locs hp16 hP hS => ?_)
    refine lv_if_ne (tgt := 25) hx hb dX6_plain_19 (by decide) (fun cq19 => ?_) (fun cq19 => ?_)
    · skip
      refine lv_iconst (v := 1) hx hb dX6_plain_25 (by decide) ?_
      refine lv_istore_n (lv' := [(3, .int 1), (0, .ref (a 0)), (1, .int pq1), (2, .int pq2)]) hx hb dX6_plain_26 rfl hl (by decide) rfl (fun ls hl => ?_)
      refine lv_iconst (v := 0) hx hb dX6_plain_27 (by decide) ?_
      refine lv_istore (lv' := [(4, .int 0), (3, .int 1), (0, .ref (a 0)), (1, .int pq1), (2, .int pq2)]) hx hb dX6_plain_28 hl (by decide) rfl (fun ls hl => ?_)
      exact hJ30 ((2147483647 - (0 : Int32).toInt).toNat + 1) 0 um sm sA uA kA iA wA fA cA yA tA _ _ 1 0 hP hD hS hMS hMU hMM hMR hMK hMZ (by first | exact i30_0 | exact (hp6.1.resolve_left cq9).2) (by first | exact i30_1 | exact ⟨(by have h := (hp16.resolve_left (fun q => cq19 q.1)).2.1; rw [iq_le] at h; exact h), (by have h := (hp16.resolve_left (fun q => cq19 q.1)).2.2; rw [iq_le] at h; exact h)⟩) (by first | (have h9 := iq_add1 eq110 (by omega); omega) | decide) (by first | exact plP_0 | exact plQ_end (n := zq4.toInt.toNat) (by have h9 : zq5.toInt.toNat = zq4.toInt.toNat := (by rw [iq_le] at cq68; omega); rw [h9] at i64_2; exact i64_2) (by have h9 := iq_add1 eq110 (by omega); omega)) (by first | (have h9 := iq_add1 eq110 (by omega); omega) | (have h9 : 4 ≤ pq2.toInt := (by have h := (hp16.resolve_left (fun q => cq19 q.1)).2.1; rw [iq_le] at h; exact h); show (0 : Int) ≤ _; omega)) (Nat.lt_succ_self _) _ (lv_sub hl [3, 4, 1, 0] rfl)
    · skip
      refine lv_ldc (v := (-1000001)) hx hb hown (hts (.constant RX6 71 (-1000001)) (by decide +kernel)) dX6_plain_22 ?_
      exact W.iret (v := (-1000001)) hx hb hr (fun t ht hW => ⟨⟨(-1000001), (0, um, sm, sA, uA, kA, iA, wA, fA, cA, yA, tA), rfl, ⟨by first | exact Or.inl ⟨fun h => (hp16.resolve_right (fun q => by rw [q.1] at cq19; exact absurd cq19 (by decide))).2 ⟨by rw [iq_le]; exact h.2.1, by rw [iq_le]; exact h.2.2⟩, rfl⟩ | exact Or.inl ⟨fun h => hp6.2 cq9 h.1, rfl⟩, ⟨hMS, hMU, hMM, hMR, hMK, hMZ⟩⟩, by rw [ht]; exact hP, hD⟩, hS.F ht⟩) hS.2.2 dX6_plain_24

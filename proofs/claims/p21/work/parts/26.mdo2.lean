abbrev rmX6_mends : Room := { frames := 7, cells := 0, slots := 0, locals := 149 }
set_option maxHeartbeats 4000000 in
set_option maxRecDepth 100000 in
theorem k_X6_mends (l : Launch) {K : Cx} {a : Nat → Nat} {th um sm : Int32} {sA uA kA iA wA fA cA : Nat → Int32} {yA tA : Nat → Int64} (hM : MI K (th, um, sm, sA, uA, kA, iA, wA, fA, cA, yA, tA)) (sz : Nat) (pq1 : Int32)  : Mi l K yX6_mends wsX6_mends rmX6_mends [.ref (a 0), .int pq1] a (th, um, sm, sA, uA, kA, iA, wA, fA, cA, yA, tA) sz (fun _ _ => True) := by
  refine Met.ofW (cc := cX6_mends) (maxL := 4) (ret := (some .int)) (by decide) rfl ?_
  intro p e s m args below meth c s₁ B hml hv
  obtain ⟨rfl, hsz, hP, hK, hD0, hN⟩ := hv
  have hx := B.exec
  have hb := B.bytes
  have hr := B.returns
  have hts := atoms_spec (ws := wsX6_mends) B.pre
  have hown : s.vm.findClass RX6 = some m.cls := findClass_of_methodNamed B.named
  have hlocks := B.notSynchronized
  have hinX6 : ∀ w ∈ wsX60, w ∈ wsX6_mends := by decide +kernel
  subst hsz
  have hD := hD0.self (sz := s.heap.size)
  generalize hAe : va_A (mZ K a (th, um, sm, sA, uA, kA, iA, wA, fA, cA, yA, tA)) s.heap.size = A at hD ⊢
  have hA : ∀ q : Nat, s.heap.size ≤ q → A q := fun q h => by rw [← hAe]; exact Or.inr h
  have hS : va_S A s.heap s.heap [] := va_S.rf
  have hP : va_P K.1 vwCl (mW K a th um sm sA uA kA iA wA fA cA yA tA) s.heap := hP
  have hD : va_D A (mW K a th um sm sA uA kA iA wA fA cA yA tA) := hD
  have hMS : okS sA := hM.1
  have hMU : okU um := hM.2.1
  have hMM : okM sm := hM.2.2.1
  have hMR : okR um uA := hM.2.2.2.1
  have hMK : okK kA iA := hM.2.2.2.2.1
  have hMZ : okZ K sm wA fA := hM.2.2.2.2.2
  have hl := lv_entry ([.ref (a 0), .int pq1]) (n := 4) (Nat.le_of_ble_eq_true rfl)
  rw [lg_entry_eq]
  generalize (lg_sl ([.ref (a 0), .int pq1]) ++ List.replicate (4 - (lg_sl ([.ref (a 0), .int pq1])).length) Slot.unset).toArray = ls at hl ⊢
  have hl : lv_has ls 4 [(0, .ref (a 0)), (1, .int pq1)] := hl
  refine lv_aload_n hx hb dX6_mends_0 rfl (lv_at hl 0 rfl) ?_
  refine lv_iconst (v := 0) hx hb dX6_mends_1 (by decide) ?_
  refine va_put (D := K.1) (ci := 6) (v := .int 0) (ty := .int) (C := RX6) (T := TX6) (N := 12) hx hb hts hinX6 tyX6 tyX6_ok nmX6 hown hK hP hD hS 0 rfl rfl 0 (by decide) (hts (.fieldLink RX6 39 "CodedWordsModel" "thrown" "I") (by decide +kernel)) (fun _ h9 => h9) rfl (by decide +kernel) rfl rfl (Nat.le_of_ble_eq_true rfl) dX6_mends_2 (fun H locs hP hD hS => ?_)
  have hP : va_P K.1 vwCl (mW K a 0 um sm sA uA kA iA wA fA cA yA tA) H := hP
  have hD : va_D A (mW K a 0 um sm sA uA kA iA wA fA cA yA tA) := hD
  refine lv_iload_n hx hb dX6_mends_5 rfl (lv_at hl 1 rfl) ?_
  refine r_i (va_runS (As := [.int pq1]) (rest := []) ⟨hx, hb, hml, hown, hts⟩ (k_X6_isRegister l pq1) (va_cwS 1 hts gX6_mends_X6_isRegister rfl rfl rfl (by decide +kernel) ⟨Nat.le_of_ble_eq_true rfl, Nat.le_of_ble_eq_true rfl⟩) (pPreS) rfl rfl hl.1 rfl (lv_room (Nat.le_of_ble_eq_true rfl)) dX6_mends_6 ⟨Nat.le_of_ble_eq_true rfl, Nat.le_of_ble_eq_true rfl⟩) hP hS (fun rq6 H locs hp6 hP hS => ?_)
  refine lv_if_ne (tgt := 15) hx hb dX6_mends_9 (by decide) (fun cq9 => ?_) (fun cq9 => ?_)
  · skip
    refine lv_aload_n hx hb dX6_mends_15 rfl (lv_at hl 0 rfl) ?_
    refine lv_iload_n hx hb dX6_mends_16 rfl (lv_at hl 1 rfl) ?_
    refine r_i (K := K) (w := mW K a 0 um sm sA uA kA iA wA fA cA yA tA) (va_runV (As := [.int pq1]) (rest := []) ⟨hx, hb, hml, hown, hts⟩ (k_X6_verdict l hMS pq1 ((hp6.resolve_left cq9).2.1) ((hp6.resolve_left cq9).2.2)) (cwV 1 hts gX6_mends_X6_verdict rfl rfl rfl (by decide +kernel) ⟨Nat.le_of_ble_eq_true rfl, Nat.le_of_ble_eq_true rfl⟩) (rPreV (m_rcv hK hP) hP hK hD hN) rfl rfl hl.1 rfl (lv_room (Nat.le_of_ble_eq_true rfl)) dX6_mends_17 ⟨Nat.le_of_ble_eq_true rfl, Nat.le_of_ble_eq_true rfl⟩) hP hS (fun rq17 H locs hp17 hP hS => ?_)
    refine lv_istore_n (lv' := [(2, .int rq17), (0, .ref (a 0)), (1, .int pq1)]) hx hb dX6_mends_20 rfl hl (by decide) rfl (fun ls hl => ?_)
    refine lv_iload_n hx hb dX6_mends_21 rfl (lv_at hl 0 rfl) ?_
    refine lv_if_ne (tgt := 27) hx hb dX6_mends_22 (by decide) (fun cq22 => ?_) (fun cq22 => ?_)
    · skip
      refine lv_iload_n hx hb dX6_mends_27 rfl (lv_at hl 0 rfl) ?_
      refine lv_iconst (v := 3) hx hb dX6_mends_28 (by decide) ?_
      refine lv_icmp_ne (tgt := 35) hx hb dX6_mends_29 (by decide) (fun cq29 => ?_) (fun cq29 => ?_)
      · skip
        refine lv_aload_n hx hb dX6_mends_35 rfl (lv_at hl 1 rfl) ?_
        refine m_v (K := K) (K2 := K) (a := a) (w := mW K a 0 um sm sA uA kA iA wA fA cA yA tA) (post := fun u => u.2.2.2.1 = sA) (va_runV (mc := 0) (ms := 0) (rm := rmX6_notes) (As := []) (rest := []) ⟨hx, hb, hml, hown, hts⟩ (k_X6_notes l (a := a) ⟨hMS, hMU, hMM, hMR, hMK, hMZ⟩ H.size ) (cwV 0 hts gX6_mends_X6_notes rfl rfl rfl (by decide +kernel) ⟨Nat.le_of_ble_eq_true rfl, Nat.le_of_ble_eq_true rfl⟩) (kPreV (m_rcv hK hP) hP hK hD hN) rfl rfl hl.1 rfl (lv_room (Nat.le_of_ble_eq_true rfl)) dX6_mends_36 ⟨Nat.le_of_ble_eq_true rfl, Nat.le_of_ble_eq_true rfl⟩) hD hS hA (fun uq36 H locs hp36 hM hP hD hS => ?_)
        obtain ⟨thN36, umN36, smN36, sN36, uN36, kN36, iN36, wN36, fN36, cN36, yN36, tN36⟩ := uq36
        have hP : va_P K.1 vwCl (mW K a thN36 umN36 smN36 sN36 uN36 kN36 iN36 wN36 fN36 cN36 yN36 tN36) H := hP
        have hD : va_D A (mW K a thN36 umN36 smN36 sN36 uN36 kN36 iN36 wN36 fN36 cN36 yN36 tN36) := hD
        have hMS : okS sN36 := hM.1
        have hMU : okU umN36 := hM.2.1
        have hMM : okM smN36 := hM.2.2.1
        have hMR : okR umN36 uN36 := hM.2.2.2.1
        have hMK : okK kN36 iN36 := hM.2.2.2.2.1
        have hMZ : okZ K smN36 wN36 fN36 := hM.2.2.2.2.2
        refine lv_iload_n hx hb dX6_mends_39 rfl (lv_at hl 0 rfl) ?_
        refine lv_iconst (v := 1) hx hb dX6_mends_40 (by decide) ?_
        refine lv_icmp_ne (tgt := 76) hx hb dX6_mends_41 (by decide) (fun cq41 => ?_) (fun cq41 => ?_)
        · skip
          refine lv_aload_n hx hb dX6_mends_76 rfl (lv_at hl 1 rfl) ?_
          refine lv_iload_n hx hb dX6_mends_77 rfl (lv_at hl 2 rfl) ?_
          refine r_i (K := K) (w := mW K a thN36 umN36 smN36 sN36 uN36 kN36 iN36 wN36 fN36 cN36 yN36 tN36) (va_runV (As := [.int pq1]) (rest := []) ⟨hx, hb, hml, hown, hts⟩ (k_X6_firstCause l hMS pq1 ((hp6.resolve_left cq9).2.1) ((hp6.resolve_left cq9).2.2) (by have h := (hp17.resolve_left (fun q => q.elim cq22 (fun q => q.elim cq41 cq29))).2; have h2 : sN36 = sA := hp36; rw [h2]; exact h)) (cwV 1 hts gX6_mends_X6_firstCause rfl rfl rfl (by decide +kernel) ⟨Nat.le_of_ble_eq_true rfl, Nat.le_of_ble_eq_true rfl⟩) (rPreV (m_rcv hK hP) hP hK hD hN) rfl rfl hl.1 rfl (lv_room (Nat.le_of_ble_eq_true rfl)) dX6_mends_78 ⟨Nat.le_of_ble_eq_true rfl, Nat.le_of_ble_eq_true rfl⟩) hP hS (fun rq78 H locs hp78 hP hS => ?_)
          refine lv_istore_n (lv' := [(3, .int rq78), (2, .int rq17), (0, .ref (a 0)), (1, .int pq1)]) hx hb dX6_mends_81 rfl hl (by decide) rfl (fun ls hl => ?_)
          refine lv_aload_n hx hb dX6_mends_82 rfl (lv_at hl 2 rfl) ?_
          refine va_get (D := K.1) (ci := 6) (v := .ref (a 1)) (C := RX6) (T := TX6) (N := 12) hx hb hts hinX6 hown hK hP 0 rfl rfl 1 (by decide) (hts (.fieldLink RX6 7 "CodedWordsModel" "s" "[I") (by decide +kernel)) (fun _ h9 => h9) rfl dX6_mends_83 ?_
          refine lv_iconst (v := 2) hx hb dX6_mends_86 (by decide) ?_
          refine lv_iload_n hx hb dX6_mends_87 rfl (lv_at hl 3 rfl) ?_
          refine lv_iadd hx hb dX6_mends_88 ?_
          refine lv_topi (fun vq88 eq88 => ?_)
          refine lv_dup2_11 hx hb dX6_mends_89 rfl rfl ?_
          refine va_iald hx hb hK hP 1 0 rfl rfl (iq_inreg (by decide) (by decide) (hp6.resolve_left cq9).2.1 (hp6.resolve_left cq9).2.2 eq88) dX6_mends_90 ?_
          refine lv_topi (fun vq90 eq90 => ?_)
          refine lv_iload_n hx hb dX6_mends_91 rfl (lv_at hl 0 rfl) ?_
          refine r_i (va_runS (As := [.int rq78]) (rest := [.int vq90, .int vq88, .ref (a 1)]) ⟨hx, hb, hml, hown, hts⟩ (k_X6_by l rq78) (va_cwS 1 hts gX6_mends_X6_by rfl rfl rfl (by decide +kernel) ⟨Nat.le_of_ble_eq_true rfl, Nat.le_of_ble_eq_true rfl⟩) (pPreS) rfl rfl hl.1 rfl (lv_room (Nat.le_of_ble_eq_true rfl)) dX6_mends_92 ⟨Nat.le_of_ble_eq_true rfl, Nat.le_of_ble_eq_true rfl⟩) hP hS (fun rq92 H locs hp92 hP hS => ?_)
          refine lv_isub hx hb dX6_mends_95 ?_
          refine lv_topi (fun vq95 eq95 => ?_)
          refine va_iast hx hb hK hP hD hS 1 0 rfl rfl (iq_inreg (by decide) (by decide) (hp6.resolve_left cq9).2.1 (hp6.resolve_left cq9).2.2 eq88) dX6_mends_96 (fun H locs hP hD hS => ?_)
          have hP : va_P K.1 vwCl (mW K a thN36 umN36 smN36 (upd sN36 (vq88 : Int32).toNatClampNeg vq95) uN36 kN36 iN36 wN36 fN36 cN36 yN36 tN36) H := hP
          have hD : va_D A (mW K a thN36 umN36 smN36 (upd sN36 (vq88 : Int32).toNatClampNeg vq95) uN36 kN36 iN36 wN36 fN36 cN36 yN36 tN36) := hD
          generalize en96 : upd sN36 (vq88 : Int32).toNatClampNeg vq95 = sN96 at hP hD
          have hMS : okS sN96 := hMS.upr (by decide) (by decide) (hp6.resolve_left cq9).2.1 (hp6.resolve_left cq9).2.2 eq88 en96
          refine lv_iconst (v := 2) hx hb dX6_mends_97 (by decide) ?_
          refine lv_iload_n hx hb dX6_mends_98 rfl (lv_at hl 0 rfl) ?_
          refine lv_iadd hx hb dX6_mends_99 ?_
          refine lv_topi (fun vq99 eq99 => ?_)
          exact W.iret (v := vq99) hx hb hr (fun t ht hW => ⟨⟨vq99, (thN36, umN36, smN36, sN96, uN36, kN36, iN36, wN36, fN36, cN36, yN36, tN36), rfl, ⟨trivial, ⟨hMS, hMU, hMM, hMR, hMK, hMZ⟩⟩, by rw [ht]; exact hP, hD⟩, hS.F ht⟩) hS.2.2 dX6_mends_100
        · skip
          refine lv_aload_n hx hb dX6_mends_44 rfl (lv_at hl 1 rfl) ?_
          refine va_get (D := K.1) (ci := 6) (v := .ref (a 1)) (C := RX6) (T := TX6) (N := 12) hx hb hts hinX6 hown hK hP 0 rfl rfl 1 (by decide) (hts (.fieldLink RX6 7 "CodedWordsModel" "s" "[I") (by decide +kernel)) (fun _ h9 => h9) rfl dX6_mends_45 ?_
          refine lv_bipush (v := 6) hx hb dX6_mends_48 (by decide) ?_
          refine lv_iload_n hx hb dX6_mends_50 rfl (lv_at hl 2 rfl) ?_
          refine lv_iadd hx hb dX6_mends_51 ?_
          refine lv_topi (fun vq51 eq51 => ?_)
          refine lv_aload_n hx hb dX6_mends_52 rfl (lv_at hl 1 rfl) ?_
          refine va_get (D := K.1) (ci := 6) (v := .ref (a 1)) (C := RX6) (T := TX6) (N := 12) hx hb hts hinX6 hown hK hP 0 rfl rfl 1 (by decide) (hts (.fieldLink RX6 7 "CodedWordsModel" "s" "[I") (by decide +kernel)) (fun _ h9 => h9) rfl dX6_mends_53 ?_
          refine lv_iconst (v := 2) hx hb dX6_mends_56 (by decide) ?_
          refine lv_iload_n hx hb dX6_mends_57 rfl (lv_at hl 2 rfl) ?_
          refine lv_iadd hx hb dX6_mends_58 ?_
          refine lv_topi (fun vq58 eq58 => ?_)
          refine va_iald hx hb hK hP 1 0 rfl rfl (iq_inreg (by decide) (by decide) (hp6.resolve_left cq9).2.1 (hp6.resolve_left cq9).2.2 eq58) dX6_mends_59 ?_
          refine lv_topi (fun vq59 eq59 => ?_)
          refine lv_aload_n hx hb dX6_mends_60 rfl (lv_at hl 1 rfl) ?_
          refine va_get (D := K.1) (ci := 6) (v := .ref (a 1)) (C := RX6) (T := TX6) (N := 12) hx hb hts hinX6 hown hK hP 0 rfl rfl 1 (by decide) (hts (.fieldLink RX6 7 "CodedWordsModel" "s" "[I") (by decide +kernel)) (fun _ h9 => h9) rfl dX6_mends_61 ?_
          refine lv_iconst (v := 0) hx hb dX6_mends_64 (by decide) ?_
          refine va_iald hx hb hK hP 1 0 rfl rfl (iq_in (by decide) (by decide)) dX6_mends_65 ?_
          refine lv_topi (fun vq65 eq65 => ?_)
          refine lv_idiv hx hb dX6_mends_66 (hMS.nz eq65) ?_
          refine lv_topi (fun vq66 eq66 => ?_)
          refine lv_i2l (v := (vq66 : Int32).toInt64) hx hb dX6_mends_67 rfl ?_
          refine lv_topl (fun vq67 eq67 => ?_)
          refine lv_bipush (v := 15) hx hb dX6_mends_68 (by decide) ?_
          refine r_i (va_runS (As := [.long vq67, .int 15]) (rest := [.int vq51, .ref (a 1)]) ⟨hx, hb, hml, hown, hts⟩ (k_X6_rest l vq67 15 (by decide)) (va_cwS 2 hts gX6_mends_X6_rest rfl rfl rfl (by decide +kernel) ⟨Nat.le_of_ble_eq_true rfl, Nat.le_of_ble_eq_true rfl⟩) (pPreS) rfl rfl hl.1 rfl (lv_room (Nat.le_of_ble_eq_true rfl)) dX6_mends_70 ⟨Nat.le_of_ble_eq_true rfl, Nat.le_of_ble_eq_true rfl⟩) hP hS (fun rq70 H locs hp70 hP hS => ?_)
          refine va_iast hx hb hK hP hD hS 1 0 rfl rfl (iq_inreg (by decide) (by decide) (hp6.resolve_left cq9).2.1 (hp6.resolve_left cq9).2.2 eq51) dX6_mends_73 (fun H locs hP hD hS => ?_)
          have hP : va_P K.1 vwCl (mW K a thN36 umN36 smN36 (upd sN36 (vq51 : Int32).toNatClampNeg rq70) uN36 kN36 iN36 wN36 fN36 cN36 yN36 tN36) H := hP
          have hD : va_D A (mW K a thN36 umN36 smN36 (upd sN36 (vq51 : Int32).toNatClampNeg rq70) uN36 kN36 iN36 wN36 fN36 cN36 yN36 tN36) := hD
          generalize en73 : upd sN36 (vq51 : Int32).toNatClampNeg rq70 = sN73 at hP hD
          have hMS : okS sN73 := hMS.upr (by decide) (by decide) (hp6.resolve_left cq9).2.1 (hp6.resolve_left cq9).2.2 eq51 en73
          refine lv_iconst (v := 1) hx hb dX6_mends_74 (by decide) ?_
          exact W.iret (v := 1) hx hb hr (fun t ht hW => ⟨⟨1, (thN36, umN36, smN36, sN73, uN36, kN36, iN36, wN36, fN36, cN36, yN36, tN36), rfl, ⟨trivial, ⟨hMS, hMU, hMM, hMR, hMK, hMZ⟩⟩, by rw [ht]; exact hP, hD⟩, hS.F ht⟩) hS.2.2 dX6_mends_75
      · skip
        refine lv_ldc (v := (-1000005)) hx hb hown (hts (.constant RX6 106 (-1000005)) (by decide +kernel)) dX6_mends_32 ?_
        exact W.iret (v := (-1000005)) hx hb hr (fun t ht hW => ⟨⟨(-1000005), (0, um, sm, sA, uA, kA, iA, wA, fA, cA, yA, tA), rfl, ⟨trivial, ⟨hMS, hMU, hMM, hMR, hMK, hMZ⟩⟩, by rw [ht]; exact hP, hD⟩, hS.F ht⟩) hS.2.2 dX6_mends_34
    · skip
      refine lv_iconst (v := 0) hx hb dX6_mends_25 (by decide) ?_
      exact W.iret (v := 0) hx hb hr (fun t ht hW => ⟨⟨0, (0, um, sm, sA, uA, kA, iA, wA, fA, cA, yA, tA), rfl, ⟨trivial, ⟨hMS, hMU, hMM, hMR, hMK, hMZ⟩⟩, by rw [ht]; exact hP, hD⟩, hS.F ht⟩) hS.2.2 dX6_mends_26
  · skip
    refine lv_ldc (v := (-1000001)) hx hb hown (hts (.constant RX6 71 (-1000001)) (by decide +kernel)) dX6_mends_12 ?_
    exact W.iret (v := (-1000001)) hx hb hr (fun t ht hW => ⟨⟨(-1000001), (0, um, sm, sA, uA, kA, iA, wA, fA, cA, yA, tA), rfl, ⟨trivial, ⟨hMS, hMU, hMM, hMR, hMK, hMZ⟩⟩, by rw [ht]; exact hP, hD⟩, hS.F ht⟩) hS.2.2 dX6_mends_14
abbrev rmX6_undo : Room := { frames := 0, cells := 0, slots := 0, locals := 0 }
set_option maxHeartbeats 4000000 in
set_option maxRecDepth 100000 in
theorem k_X6_undo (l : Launch) {K : Cx} {a : Nat → Nat} {th um sm : Int32} {sA uA kA iA wA fA cA : Nat → Int32} {yA tA : Nat → Int64} (hM : MI K (th, um, sm, sA, uA, kA, iA, wA, fA, cA, yA, tA)) (sz : Nat)   : Mi l K yX6_undo wsX6_undo rmX6_undo [.ref (a 0)] a (th, um, sm, sA, uA, kA, iA, wA, fA, cA, yA, tA) sz (fun _ _ => True) := by
  refine Met.ofW (cc := cX6_undo) (maxL := 2) (ret := (some .int)) (by decide) rfl ?_
  intro p e s m args below meth c s₁ B hml hv
  obtain ⟨rfl, hsz, hP, hK, hD0, hN⟩ := hv
  have hx := B.exec
  have hb := B.bytes
  have hr := B.returns
  have hts := atoms_spec (ws := wsX6_undo) B.pre
  have hown : s.vm.findClass RX6 = some m.cls := findClass_of_methodNamed B.named
  have hlocks := B.notSynchronized
  have hinX6 : ∀ w ∈ wsX60, w ∈ wsX6_undo := by decide +kernel
  subst hsz
  have hD := hD0.self (sz := s.heap.size)
  generalize hAe : va_A (mZ K a (th, um, sm, sA, uA, kA, iA, wA, fA, cA, yA, tA)) s.heap.size = A at hD ⊢
  have hA : ∀ q : Nat, s.heap.size ≤ q → A q := fun q h => by rw [← hAe]; exact Or.inr h
  have hS : va_S A s.heap s.heap [] := va_S.rf
  have hP : va_P K.1 vwCl (mW K a th um sm sA uA kA iA wA fA cA yA tA) s.heap := hP
  have hD : va_D A (mW K a th um sm sA uA kA iA wA fA cA yA tA) := hD
  have hMS : okS sA := hM.1
  have hMU : okU um := hM.2.1
  have hMM : okM sm := hM.2.2.1
  have hMR : okR um uA := hM.2.2.2.1
  have hMK : okK kA iA := hM.2.2.2.2.1
  have hMZ : okZ K sm wA fA := hM.2.2.2.2.2
  have hl := lv_entry ([.ref (a 0)]) (n := 2) (Nat.le_of_ble_eq_true rfl)
  rw [lg_entry_eq]
  generalize (lg_sl ([.ref (a 0)]) ++ List.replicate (2 - (lg_sl ([.ref (a 0)])).length) Slot.unset).toArray = ls at hl ⊢
  have hl : lv_has ls 2 [(0, .ref (a 0))] := hl
  have hJ27 : ∀ (n27 : Nat) (thL : Int32) (umL : Int32) (sL : Nat → Int32) (H : Heap) (locs : List Loc) (zq1 : Int32), (va_P K.1 vwCl (mW K a thL umL sm sL uA kA iA wA fA cA yA tA) H) → (va_D A (mW K a thL umL sm sL uA kA iA wA fA cA yA tA)) → (va_S A s.heap H locs) → (okU umL) → (okM sm) → (okR umL uA) → (okK kA iA) → (okZ K sm wA fA) → (0 ≤ zq1.toInt ∧ zq1.toInt ≤ 10) → (0 ≤ umL.toInt ∧ umL.toInt ≤ 11) → (sL = cpd sA (fun j => uA (10 * umL.toInt.toNat + j)) 0 zq1.toInt.toNat) → (okS (fun j => uA (10 * umL.toInt.toNat + j))) → ((2147483647 - zq1.toInt).toNat < n27) → ∀ (ls : Array Slot), lv_has ls 2 [(0, .ref (a 0)), (1, .int zq1)] → W p l e rmX6_undo s m [.ref (a 0)].toArray below meth c H locs 0 0 (MQ below (va_Qi (fun (r : Int32) (u : MZ) => (fun _ _ => True) r u ∧ MI (K) u) (fun u t => va_P K.1 vwCl (mZ K a u) t.heap ∧ va_D A (mZ K a u)) A) [.ref (a 0)].toArray s 0 0 A) (F0 m 27 ls []) := by
    intro n27
    induction n27 with
    | zero =>
      intro thL umL sL H locs zq1 hP hD hS hMU hMM hMR hMK hMZ i27_0 i27_1 i27_2 i27_3 hm27 ls hl
      exact absurd hm27 (Nat.not_lt_zero _)
    | succ n27 ih27 =>
      intro thL umL sL H locs zq1 hP hD hS hMU hMM hMR hMK hMZ i27_0 i27_1 i27_2 i27_3 hm27 ls hl
      refine lv_iload_n hx hb dX6_undo_27 rfl (lv_at hl 1 rfl) ?_
      refine lv_bipush (v := 10) hx hb dX6_undo_28 (by decide) ?_
      refine lv_icmp_ge (tgt := 59) hx hb dX6_undo_30 (by decide) (fun cq30 => ?_) (fun cq30 => ?_)
      · skip
        refine lv_aload_n hx hb dX6_undo_59 rfl (lv_at hl 0 rfl) ?_
        refine va_get (D := K.1) (ci := 6) (v := .int umL) (C := RX6) (T := TX6) (N := 12) hx hb hts hinX6 hown hK hP 0 rfl rfl 3 (by decide) (hts (.fieldLink RX6 65 "CodedWordsModel" "undoMany" "I") (by decide +kernel)) (fun _ h9 => h9) rfl dX6_undo_60 ?_
        exact W.iret (v := umL) hx hb hr (fun t ht hW => ⟨⟨umL, (thL, umL, sm, sL, uA, kA, iA, wA, fA, cA, yA, tA), rfl, ⟨trivial, ⟨(okS.copy i27_3 cq30 i27_0.2 i27_2), hMU, hMM, hMR, hMK, hMZ⟩⟩, by rw [ht]; exact hP, hD⟩, hS.F ht⟩) hS.2.2 dX6_undo_63
      · skip
        refine lv_aload_n hx hb dX6_undo_33 rfl (lv_at hl 0 rfl) ?_
        refine va_get (D := K.1) (ci := 6) (v := .ref (a 1)) (C := RX6) (T := TX6) (N := 12) hx hb hts hinX6 hown hK hP 0 rfl rfl 1 (by decide) (hts (.fieldLink RX6 7 "CodedWordsModel" "s" "[I") (by decide +kernel)) (fun _ h9 => h9) rfl dX6_undo_34 ?_
        refine lv_iload_n hx hb dX6_undo_37 rfl (lv_at hl 1 rfl) ?_
        refine lv_aload_n hx hb dX6_undo_38 rfl (lv_at hl 0 rfl) ?_
        refine va_get (D := K.1) (ci := 6) (v := .ref (a 2)) (C := RX6) (T := TX6) (N := 12) hx hb hts hinX6 hown hK hP 0 rfl rfl 2 (by decide) (hts (.fieldLink RX6 13 "CodedWordsModel" "undos" "[I") (by decide +kernel)) (fun _ h9 => h9) rfl dX6_undo_39 ?_
        refine lv_bipush (v := 10) hx hb dX6_undo_42 (by decide) ?_
        refine lv_aload_n hx hb dX6_undo_44 rfl (lv_at hl 0 rfl) ?_
        refine va_get (D := K.1) (ci := 6) (v := .int umL) (C := RX6) (T := TX6) (N := 12) hx hb hts hinX6 hown hK hP 0 rfl rfl 3 (by decide) (hts (.fieldLink RX6 65 "CodedWordsModel" "undoMany" "I") (by decide +kernel)) (fun _ h9 => h9) rfl dX6_undo_45 ?_
        refine lv_imul hx hb dX6_undo_48 ?_
        refine lv_topi (fun vq48 eq48 => ?_)
        refine lv_iload_n hx hb dX6_undo_49 rfl (lv_at hl 1 rfl) ?_
        refine lv_iadd hx hb dX6_undo_50 ?_
        refine lv_topi (fun vq50 eq50 => ?_)
        refine va_iald hx hb hK hP 2 0 rfl rfl (iq_tenin i27_1.1 (by omega) i27_0.1 cq30 eq48 eq50 (by omega)) dX6_undo_51 ?_
        refine lv_topi (fun vq51 eq51 => ?_)
        refine va_iast hx hb hK hP hD hS 1 0 rfl rfl (iq_inr i27_0.1 cq30 (by decide)) dX6_undo_52 (fun H locs hP hD hS => ?_)
        have hP : va_P K.1 vwCl (mW K a thL umL sm (upd sL (zq1 : Int32).toNatClampNeg vq51) uA kA iA wA fA cA yA tA) H := hP
        have hD : va_D A (mW K a thL umL sm (upd sL (zq1 : Int32).toNatClampNeg vq51) uA kA iA wA fA cA yA tA) := hD
        generalize en52 : upd sL (zq1 : Int32).toNatClampNeg vq51 = sN52 at hP hD
        obtain ⟨vq53, eq53⟩ : ∃ y : Int32, y = zq1 + 1 := ⟨_, rfl⟩
        refine lv_iinc (v := vq53) (lv' := [(1, .int vq53), (0, .ref (a 0))]) hx hb dX6_undo_53 hl (k := 1) rfl (by rw [eq53]; rfl) (by decide) rfl (fun ls hl => ?_)
        refine lv_goto (tgt := 27) hx hb dX6_undo_56 (by decide) ?_
        exact ih27 thL umL sN52 _ _ vq53 hP hD hS hMU hMM hMR hMK hMZ (by first | exact ⟨by decide, by decide⟩ | exact iq_ten1 i27_0 cq30 eq53) (by first | exact i27_1 | exact ⟨by omega, by omega⟩) (by first | exact cpd_0 | exact cpd_step (b := 0) i27_0.1 cq30 i27_2 (by omega) (by rw [eq51]; show uA _ = uA _; rw [iq_tenc i27_1.1 (by omega) i27_0.1 cq30 eq48 eq50]) en52 eq53) (by first | exact i27_3 | exact hrow) (iq_up hm27 cq30 eq53) _ (lv_sub hl [1, 0] rfl)
  refine lv_aload_n hx hb dX6_undo_0 rfl (lv_at hl 0 rfl) ?_
  refine lv_iconst (v := 0) hx hb dX6_undo_1 (by decide) ?_
  refine va_put (D := K.1) (ci := 6) (v := .int 0) (ty := .int) (C := RX6) (T := TX6) (N := 12) hx hb hts hinX6 tyX6 tyX6_ok nmX6 hown hK hP hD hS 0 rfl rfl 0 (by decide) (hts (.fieldLink RX6 39 "CodedWordsModel" "thrown" "I") (by decide +kernel)) (fun _ h9 => h9) rfl (by decide +kernel) rfl rfl (Nat.le_of_ble_eq_true rfl) dX6_undo_2 (fun H locs hP hD hS => ?_)
  have hP : va_P K.1 vwCl (mW K a 0 um sm sA uA kA iA wA fA cA yA tA) H := hP
  have hD : va_D A (mW K a 0 um sm sA uA kA iA wA fA cA yA tA) := hD
  refine lv_aload_n hx hb dX6_undo_5 rfl (lv_at hl 0 rfl) ?_
  refine va_get (D := K.1) (ci := 6) (v := .int um) (C := RX6) (T := TX6) (N := 12) hx hb hts hinX6 hown hK hP 0 rfl rfl 3 (by decide) (hts (.fieldLink RX6 65 "CodedWordsModel" "undoMany" "I") (by decide +kernel)) (fun _ h9 => h9) rfl dX6_undo_6 ?_
  refine lv_if_ne (tgt := 15) hx hb dX6_undo_9 (by decide) (fun cq9 => ?_) (fun cq9 => ?_)
  · skip
    refine lv_aload_n hx hb dX6_undo_15 rfl (lv_at hl 0 rfl) ?_
    refine lv_dup hx hb dX6_undo_16 rfl ?_
    refine va_get (D := K.1) (ci := 6) (v := .int um) (C := RX6) (T := TX6) (N := 12) hx hb hts hinX6 hown hK hP 0 rfl rfl 3 (by decide) (hts (.fieldLink RX6 65 "CodedWordsModel" "undoMany" "I") (by decide +kernel)) (fun _ h9 => h9) rfl dX6_undo_17 ?_
    refine lv_iconst (v := 1) hx hb dX6_undo_20 (by decide) ?_
    refine lv_isub hx hb dX6_undo_21 ?_
    refine lv_topi (fun vq21 eq21 => ?_)
    have hv21 : vq21.toInt = um.toInt - 1 := iq_sub1 eq21 (by have h := hMU.1; omega)
    have hu0 : um.toInt ≠ 0 := fun q => cq9 (iq_eq.mpr q)
    have hu1 : 0 ≤ um.toInt ∧ um.toInt ≤ 12 := hMU
    have hrow : okS (fun j => uA (10 * vq21.toInt.toNat + j)) := hMR vq21.toInt.toNat (by omega)
    refine va_put (D := K.1) (ci := 6) (v := .int vq21) (ty := .int) (C := RX6) (T := TX6) (N := 12) hx hb hts hinX6 tyX6 tyX6_ok nmX6 hown hK hP hD hS 0 rfl rfl 3 (by decide) (hts (.fieldLink RX6 65 "CodedWordsModel" "undoMany" "I") (by decide +kernel)) (fun _ h9 => h9) rfl (by decide +kernel) rfl rfl (Nat.le_of_ble_eq_true rfl) dX6_undo_22 (fun H locs hP hD hS => ?_)
    have hP : va_P K.1 vwCl (mW K a 0 vq21 sm sA uA kA iA wA fA cA yA tA) H := hP
    have hD : va_D A (mW K a 0 vq21 sm sA uA kA iA wA fA cA yA tA) := hD
    have hMU : okU vq21 := ⟨by omega, by omega⟩
    have hMR : okR vq21 uA := fun i hi => hMR i (by omega)
    refine lv_iconst (v := 0) hx hb dX6_undo_25 (by decide) ?_
    refine lv_istore_n (lv' := [(1, .int 0), (0, .ref (a 0))]) hx hb dX6_undo_26 rfl hl (by decide) rfl (fun ls hl => ?_)
    exact hJ27 ((2147483647 - (0 : Int32).toInt).toNat + 1) 0 vq21 sA _ _ 0 hP hD hS hMU hMM hMR hMK hMZ (by first | exact ⟨by decide, by decide⟩ | exact iq_ten1 i27_0 cq30 eq53) (by first | exact i27_1 | exact ⟨by omega, by omega⟩) (by first | exact cpd_0 | exact cpd_step (b := 0) i27_0.1 cq30 i27_2 (by omega) (by rw [eq51]; show uA _ = uA _; rw [iq_tenc i27_1.1 (by omega) i27_0.1 cq30 eq48 eq50]) en52 eq53) (by first | exact i27_3 | exact hrow) (Nat.lt_succ_self _) _ (lv_sub hl [1, 0] rfl)
  · skip
    refine lv_ldc (v := (-1000002)) hx hb hown (hts (.constant RX6 78 (-1000002)) (by decide +kernel)) dX6_undo_12 ?_
    exact W.iret (v := (-1000002)) hx hb hr (fun t ht hW => ⟨⟨(-1000002), (0, um, sm, sA, uA, kA, iA, wA, fA, cA, yA, tA), rfl, ⟨trivial, ⟨hMS, hMU, hMM, hMR, hMK, hMZ⟩⟩, by rw [ht]; exact hP, hD⟩, hS.F ht⟩) hS.2.2 dX6_undo_14
abbrev rmX6_back : Room := { frames := 1, cells := 0, slots := 0, locals := 22 }
set_option maxHeartbeats 4000000 in
set_option maxRecDepth 100000 in
theorem k_X6_back (l : Launch) {K : Cx} {a : Nat → Nat} {th um sm : Int32} {sA uA kA iA wA fA cA : Nat → Int32} {yA tA : Nat → Int64} (hM : MI K (th, um, sm, sA, uA, kA, iA, wA, fA, cA, yA, tA)) (sz : Nat) (pq1 : Int32)  : Mi l K yX6_back wsX6_back rmX6_back [.ref (a 0), .int pq1] a (th, um, sm, sA, uA, kA, iA, wA, fA, cA, yA, tA) sz (fun _ _ => True) := by
  refine Met.ofW (cc := cX6_back) (maxL := 3) (ret := (some .int)) (by decide) rfl ?_
  intro p e s m args below meth c s₁ B hml hv
  obtain ⟨rfl, hsz, hP, hK, hD0, hN⟩ := hv
  have hx := B.exec
  have hb := B.bytes
  have hr := B.returns
  have hts := atoms_spec (ws := wsX6_back) B.pre
  have hown : s.vm.findClass RX6 = some m.cls := findClass_of_methodNamed B.named
  have hlocks := B.notSynchronized
  have hinX6 : ∀ w ∈ wsX60, w ∈ wsX6_back := by decide +kernel
  subst hsz
  have hD := hD0.self (sz := s.heap.size)
  generalize hAe : va_A (mZ K a (th, um, sm, sA, uA, kA, iA, wA, fA, cA, yA, tA)) s.heap.size = A at hD ⊢
  have hA : ∀ q : Nat, s.heap.size ≤ q → A q := fun q h => by rw [← hAe]; exact Or.inr h
  have hS : va_S A s.heap s.heap [] := va_S.rf
  have hP : va_P K.1 vwCl (mW K a th um sm sA uA kA iA wA fA cA yA tA) s.heap := hP
  have hD : va_D A (mW K a th um sm sA uA kA iA wA fA cA yA tA) := hD
  have hMS : okS sA := hM.1
  have hMU : okU um := hM.2.1
  have hMM : okM sm := hM.2.2.1
  have hMR : okR um uA := hM.2.2.2.1
  have hMK : okK kA iA := hM.2.2.2.2.1
  have hMZ : okZ K sm wA fA := hM.2.2.2.2.2
  have hl := lv_entry ([.ref (a 0), .int pq1]) (n := 3) (Nat.le_of_ble_eq_true rfl)
  rw [lg_entry_eq]
  generalize (lg_sl ([.ref (a 0), .int pq1]) ++ List.replicate (3 - (lg_sl ([.ref (a 0), .int pq1])).length) Slot.unset).toArray = ls at hl ⊢
  have hl : lv_has ls 3 [(0, .ref (a 0)), (1, .int pq1)] := hl
  have hJ31 : ∀ (n31 : Nat) (thL : Int32) (sL : Nat → Int32) (H : Heap) (locs : List Loc) (zq2 : Int32), (va_P K.1 vwCl (mW K a thL um sm sL uA kA iA wA fA cA yA tA) H) → (va_D A (mW K a thL um sm sL uA kA iA wA fA cA yA tA)) → (va_S A s.heap H locs) → (okU um) → (okM sm) → (okR um uA) → (okK kA iA) → (okZ K sm wA fA) → (0 ≤ zq2.toInt ∧ zq2.toInt ≤ 10) → (0 ≤ pq1.toInt ∧ pq1.toInt ≤ 1) → (sL = cpd sA (fun j => kA (10 * pq1.toInt.toNat + j)) 0 zq2.toInt.toNat) → (okS (fun j => kA (10 * pq1.toInt.toNat + j))) → ((2147483647 - zq2.toInt).toNat < n31) → ∀ (ls : Array Slot), lv_has ls 3 [(0, .ref (a 0)), (1, .int pq1), (2, .int zq2)] → W p l e rmX6_back s m [.ref (a 0), .int pq1].toArray below meth c H locs 0 0 (MQ below (va_Qi (fun (r : Int32) (u : MZ) => (fun _ _ => True) r u ∧ MI (K) u) (fun u t => va_P K.1 vwCl (mZ K a u) t.heap ∧ va_D A (mZ K a u)) A) [.ref (a 0), .int pq1].toArray s 0 0 A) (F0 m 31 ls []) := by
    intro n31
    induction n31 with
    | zero =>
      intro thL sL H locs zq2 hP hD hS hMU hMM hMR hMK hMZ i31_0 i31_1 i31_2 i31_3 hm31 ls hl
      exact absurd hm31 (Nat.not_lt_zero _)
    | succ n31 ih31 =>
      intro thL sL H locs zq2 hP hD hS hMU hMM hMR hMK hMZ i31_0 i31_1 i31_2 i31_3 hm31 ls hl
      refine lv_iload_n hx hb dX6_back_31 rfl (lv_at hl 2 rfl) ?_
      refine lv_bipush (v := 10) hx hb dX6_back_32 (by decide) ?_
      refine lv_icmp_ge (tgt := 60) hx hb dX6_back_34 (by decide) (fun cq34 => ?_) (fun cq34 => ?_)
      · skip
        refine lv_aload_n hx hb dX6_back_60 rfl (lv_at hl 0 rfl) ?_
        refine lv_iconst (v := 0) hx hb dX6_back_61 (by decide) ?_
        refine va_put (D := K.1) (ci := 6) (v := .int 0) (ty := .int) (C := RX6) (T := TX6) (N := 12) hx hb hts hinX6 tyX6 tyX6_ok nmX6 hown hK hP hD hS 0 rfl rfl 3 (by decide) (hts (.fieldLink RX6 65 "CodedWordsModel" "undoMany" "I") (by decide +kernel)) (fun _ h9 => h9) rfl (by decide +kernel) rfl rfl (Nat.le_of_ble_eq_true rfl) dX6_back_62 (fun H locs hP hD hS => ?_)
        have hP : va_P K.1 vwCl (mW K a thL 0 sm sL uA kA iA wA fA cA yA tA) H := hP
        have hD : va_D A (mW K a thL 0 sm sL uA kA iA wA fA cA yA tA) := hD
        have hMU : okU 0 := ⟨by decide, by decide⟩
        have hMR : okR 0 uA := fun i hi => absurd hi (by show ¬ (i : Int) < 0; omega)
        refine lv_aload_n hx hb dX6_back_65 rfl (lv_at hl 0 rfl) ?_
        refine va_get (D := K.1) (ci := 6) (v := .ref (a 1)) (C := RX6) (T := TX6) (N := 12) hx hb hts hinX6 hown hK hP 0 rfl rfl 1 (by decide) (hts (.fieldLink RX6 7 "CodedWordsModel" "s" "[I") (by decide +kernel)) (fun _ h9 => h9) rfl dX6_back_66 ?_
        refine lv_iconst (v := 0) hx hb dX6_back_69 (by decide) ?_
        refine va_iald hx hb hK hP 1 0 rfl rfl (iq_in (by decide) (by decide)) dX6_back_70 ?_
        refine lv_topi (fun vq70 eq70 => ?_)
        exact W.iret (v := vq70) hx hb hr (fun t ht hW => ⟨⟨vq70, (thL, 0, sm, sL, uA, kA, iA, wA, fA, cA, yA, tA), rfl, ⟨trivial, ⟨(okS.copy i31_3 cq34 i31_0.2 i31_2), hMU, hMM, hMR, hMK, hMZ⟩⟩, by rw [ht]; exact hP, hD⟩, hS.F ht⟩) hS.2.2 dX6_back_71
      · skip
        refine lv_aload_n hx hb dX6_back_37 rfl (lv_at hl 0 rfl) ?_
        refine va_get (D := K.1) (ci := 6) (v := .ref (a 1)) (C := RX6) (T := TX6) (N := 12) hx hb hts hinX6 hown hK hP 0 rfl rfl 1 (by decide) (hts (.fieldLink RX6 7 "CodedWordsModel" "s" "[I") (by decide +kernel)) (fun _ h9 => h9) rfl dX6_back_38 ?_
        refine lv_iload_n hx hb dX6_back_41 rfl (lv_at hl 2 rfl) ?_
        refine lv_aload_n hx hb dX6_back_42 rfl (lv_at hl 0 rfl) ?_
        refine va_get (D := K.1) (ci := 6) (v := .ref (a 3)) (C := RX6) (T := TX6) (N := 12) hx hb hts hinX6 hown hK hP 0 rfl rfl 4 (by decide) (hts (.fieldLink RX6 16 "CodedWordsModel" "kept" "[I") (by decide +kernel)) (fun _ h9 => h9) rfl dX6_back_43 ?_
        refine lv_bipush (v := 10) hx hb dX6_back_46 (by decide) ?_
        refine lv_iload_n hx hb dX6_back_48 rfl (lv_at hl 1 rfl) ?_
        refine lv_imul hx hb dX6_back_49 ?_
        refine lv_topi (fun vq49 eq49 => ?_)
        refine lv_iload_n hx hb dX6_back_50 rfl (lv_at hl 2 rfl) ?_
        refine lv_iadd hx hb dX6_back_51 ?_
        refine lv_topi (fun vq51 eq51 => ?_)
        refine va_iald hx hb hK hP 3 0 rfl rfl (iq_tenin i31_1.1 (by omega) i31_0.1 cq34 eq49 eq51 (by omega)) dX6_back_52 ?_
        refine lv_topi (fun vq52 eq52 => ?_)
        refine va_iast hx hb hK hP hD hS 1 0 rfl rfl (iq_inr i31_0.1 cq34 (by decide)) dX6_back_53 (fun H locs hP hD hS => ?_)
        have hP : va_P K.1 vwCl (mW K a thL um sm (upd sL (zq2 : Int32).toNatClampNeg vq52) uA kA iA wA fA cA yA tA) H := hP
        have hD : va_D A (mW K a thL um sm (upd sL (zq2 : Int32).toNatClampNeg vq52) uA kA iA wA fA cA yA tA) := hD
        generalize en53 : upd sL (zq2 : Int32).toNatClampNeg vq52 = sN53 at hP hD
        obtain ⟨vq54, eq54⟩ : ∃ y : Int32, y = zq2 + 1 := ⟨_, rfl⟩
        refine lv_iinc (v := vq54) (lv' := [(2, .int vq54), (0, .ref (a 0)), (1, .int pq1)]) hx hb dX6_back_54 hl (k := 2) rfl (by rw [eq54]; rfl) (by decide) rfl (fun ls hl => ?_)
        refine lv_goto (tgt := 31) hx hb dX6_back_57 (by decide) ?_
        exact ih31 thL sN53 _ _ vq54 hP hD hS hMU hMM hMR hMK hMZ (by first | exact ⟨by decide, by decide⟩ | exact iq_ten1 i31_0 cq34 eq54) (by first | exact i31_1 | exact ⟨(by have h := (hp8.resolve_left (fun q => cq11 q.1)).2.1; rw [iq_le] at h; exact h), (by have h := (hp8.resolve_left (fun q => cq11 q.1)).2.2; rw [iq_le] at h; exact h)⟩) (by first | exact cpd_0 | exact cpd_step (b := 0) i31_0.1 cq34 i31_2 (by omega) (by rw [eq52]; show kA _ = kA _; rw [iq_tenc i31_1.1 (by omega) i31_0.1 cq34 eq49 eq51]) en53 eq54) (by first | exact i31_3 | exact hMK pq1.toInt.toNat (by have h1 : 0 ≤ pq1.toInt := (by have h := (hp8.resolve_left (fun q => cq11 q.1)).2.1; rw [iq_le] at h; exact h); have h2 : pq1.toInt ≤ 1 := (by have h := (hp8.resolve_left (fun q => cq11 q.1)).2.2; rw [iq_le] at h; exact h); omega) (fun q => cq23 (eq22.trans q))) (iq_up hm31 cq34 eq54) _ (lv_sub hl [1, 2, 0] rfl)
  refine lv_aload_n hx hb dX6_back_0 rfl (lv_at hl 0 rfl) ?_
  refine lv_iconst (v := 0) hx hb dX6_back_1 (by decide) ?_
  refine va_put (D := K.1) (ci := 6) (v := .int 0) (ty := .int) (C := RX6) (T := TX6) (N := 12) hx hb hts hinX6 tyX6 tyX6_ok nmX6 hown hK hP hD hS 0 rfl rfl 0 (by decide) (hts (.fieldLink RX6 39 "CodedWordsModel" "thrown" "I") (by decide +kernel)) (fun _ h9 => h9) rfl (by decide +kernel) rfl rfl (Nat.le_of_ble_eq_true rfl) dX6_back_2 (fun H locs hP hD hS => ?_)
  have hP : va_P K.1 vwCl (mW K a 0 um sm sA uA kA iA wA fA cA yA tA) H := hP
  have hD : va_D A (mW K a 0 um sm sA uA kA iA wA fA cA yA tA) := hD
  refine lv_iload_n hx hb dX6_back_5 rfl (lv_at hl 1 rfl) ?_
  refine lv_iconst (v := 0) hx hb dX6_back_6 (by decide) ?_
  refine lv_iconst (v := 1) hx hb dX6_back_7 (by decide) ?_
  refine r_i (va_runS (As := [.int pq1, .int 0, .int 1]) (rest := []) ⟨hx, hb, hml, hown, hts⟩ (k_X6_in l pq1 0 1) (va_cwS 3 hts gX6_back_X6_in rfl rfl rfl (by decide +kernel) ⟨Nat.le_of_ble_eq_true rfl, Nat.le_of_ble_eq_true rfl⟩) (pPreS) rfl rfl hl.1 rfl (lv_room (Nat.le_of_ble_eq_true rfl)) dX6_back_8 ⟨Nat.le_of_ble_eq_true rfl, Nat.le_of_ble_eq_true rfl⟩) hP hS (fun rq8 H locs hp8 hP hS => ?_)
  refine lv_if_ne (tgt := 17) hx hb dX6_back_11 (by decide) (fun cq11 => ?_) (fun cq11 => ?_)
  · skip
    refine lv_aload_n hx hb dX6_back_17 rfl (lv_at hl 0 rfl) ?_
    refine va_get (D := K.1) (ci := 6) (v := .ref (a 4)) (C := RX6) (T := TX6) (N := 12) hx hb hts hinX6 hown hK hP 0 rfl rfl 5 (by decide) (hts (.fieldLink RX6 19 "CodedWordsModel" "isKept" "[Z") (by decide +kernel)) (fun _ h9 => h9) rfl dX6_back_18 ?_
    refine lv_iload_n hx hb dX6_back_21 rfl (lv_at hl 1 rfl) ?_
    refine va_zald hx hb hK hP 4 2 rfl rfl (iq_in (by have h := (hp8.resolve_left (fun q => cq11 q.1)).2.1; rw [iq_le] at h; exact h) (by have h2 : pq1.toInt ≤ 1 := (by have h := (hp8.resolve_left (fun q => cq11 q.1)).2.2; rw [iq_le] at h; exact h); omega)) dX6_back_22 ?_
    refine lv_topi (fun vq22 eq22 => ?_)
    refine lv_if_ne (tgt := 29) hx hb dX6_back_23 (by decide) (fun cq23 => ?_) (fun cq23 => ?_)
    · skip
      refine lv_iconst (v := 0) hx hb dX6_back_29 (by decide) ?_
      refine lv_istore_n (lv' := [(2, .int 0), (0, .ref (a 0)), (1, .int pq1)]) hx hb dX6_back_30 rfl hl (by decide) rfl (fun ls hl => ?_)
      exact hJ31 ((2147483647 - (0 : Int32).toInt).toNat + 1) 0 sA _ _ 0 hP hD hS hMU hMM hMR hMK hMZ (by first | exact ⟨by decide, by decide⟩ | exact iq_ten1 i31_0 cq34 eq54) (by first | exact i31_1 | exact ⟨(by have h := (hp8.resolve_left (fun q => cq11 q.1)).2.1; rw [iq_le] at h; exact h), (by have h := (hp8.resolve_left (fun q => cq11 q.1)).2.2; rw [iq_le] at h; exact h)⟩) (by first | exact cpd_0 | exact cpd_step (b := 0) i31_0.1 cq34 i31_2 (by omega) (by rw [eq52]; show kA _ = kA _; rw [iq_tenc i31_1.1 (by omega) i31_0.1 cq34 eq49 eq51]) en53 eq54) (by first | exact i31_3 | exact hMK pq1.toInt.toNat (by have h1 : 0 ≤ pq1.toInt := (by have h := (hp8.resolve_left (fun q => cq11 q.1)).2.1; rw [iq_le] at h; exact h); have h2 : pq1.toInt ≤ 1 := (by have h := (hp8.resolve_left (fun q => cq11 q.1)).2.2; rw [iq_le] at h; exact h); omega) (fun q => cq23 (eq22.trans q))) (Nat.lt_succ_self _) _ (lv_sub hl [1, 2, 0] rfl)
    · skip
      refine lv_ldc (v := (-1000002)) hx hb hown (hts (.constant RX6 78 (-1000002)) (by decide +kernel)) dX6_back_26 ?_
      exact W.iret (v := (-1000002)) hx hb hr (fun t ht hW => ⟨⟨(-1000002), (0, um, sm, sA, uA, kA, iA, wA, fA, cA, yA, tA), rfl, ⟨trivial, ⟨hMS, hMU, hMM, hMR, hMK, hMZ⟩⟩, by rw [ht]; exact hP, hD⟩, hS.F ht⟩) hS.2.2 dX6_back_28
  · skip
    refine lv_ldc (v := (-1000001)) hx hb hown (hts (.constant RX6 71 (-1000001)) (by decide +kernel)) dX6_back_14 ?_
    exact W.iret (v := (-1000001)) hx hb hr (fun t ht hW => ⟨⟨(-1000001), (0, um, sm, sA, uA, kA, iA, wA, fA, cA, yA, tA), rfl, ⟨trivial, ⟨hMS, hMU, hMM, hMR, hMK, hMZ⟩⟩, by rw [ht]; exact hP, hD⟩, hS.F ht⟩) hS.2.2 dX6_back_16
abbrev rmX6_keep : Room := { frames := 1, cells := 0, slots := 0, locals := 22 }
set_option maxHeartbeats 4000000 in
set_option maxRecDepth 100000 in
theorem k_X6_keep (l : Launch) {K : Cx} {a : Nat → Nat} {th um sm : Int32} {sA uA kA iA wA fA cA : Nat → Int32} {yA tA : Nat → Int64} (hM : MI K (th, um, sm, sA, uA, kA, iA, wA, fA, cA, yA, tA)) (sz : Nat) (pq1 : Int32)  : Mi l K yX6_keep wsX6_keep rmX6_keep [.ref (a 0), .int pq1] a (th, um, sm, sA, uA, kA, iA, wA, fA, cA, yA, tA) sz (fun _ _ => True) := by
  refine Met.ofW (cc := cX6_keep) (maxL := 3) (ret := (some .int)) (by decide) rfl ?_
  intro p e s m args below meth c s₁ B hml hv
  obtain ⟨rfl, hsz, hP, hK, hD0, hN⟩ := hv
  have hx := B.exec
  have hb := B.bytes
  have hr := B.returns
  have hts := atoms_spec (ws := wsX6_keep) B.pre
  have hown : s.vm.findClass RX6 = some m.cls := findClass_of_methodNamed B.named
  have hlocks := B.notSynchronized
  have hinX6 : ∀ w ∈ wsX60, w ∈ wsX6_keep := by decide +kernel
  subst hsz
  have hD := hD0.self (sz := s.heap.size)
  generalize hAe : va_A (mZ K a (th, um, sm, sA, uA, kA, iA, wA, fA, cA, yA, tA)) s.heap.size = A at hD ⊢
  have hA : ∀ q : Nat, s.heap.size ≤ q → A q := fun q h => by rw [← hAe]; exact Or.inr h
  have hS : va_S A s.heap s.heap [] := va_S.rf
  have hP : va_P K.1 vwCl (mW K a th um sm sA uA kA iA wA fA cA yA tA) s.heap := hP
  have hD : va_D A (mW K a th um sm sA uA kA iA wA fA cA yA tA) := hD
  have hMS : okS sA := hM.1
  have hMU : okU um := hM.2.1
  have hMM : okM sm := hM.2.2.1
  have hMR : okR um uA := hM.2.2.2.1
  have hMK : okK kA iA := hM.2.2.2.2.1
  have hMZ : okZ K sm wA fA := hM.2.2.2.2.2
  have hl := lv_entry ([.ref (a 0), .int pq1]) (n := 3) (Nat.le_of_ble_eq_true rfl)
  rw [lg_entry_eq]
  generalize (lg_sl ([.ref (a 0), .int pq1]) ++ List.replicate (3 - (lg_sl ([.ref (a 0), .int pq1])).length) Slot.unset).toArray = ls at hl ⊢
  have hl : lv_has ls 3 [(0, .ref (a 0)), (1, .int pq1)] := hl
  have hJ19 : ∀ (n19 : Nat) (thL : Int32) (kL : Nat → Int32) (H : Heap) (locs : List Loc) (zq2 : Int32), (va_P K.1 vwCl (mW K a thL um sm sA uA kL iA wA fA cA yA tA) H) → (va_D A (mW K a thL um sm sA uA kL iA wA fA cA yA tA)) → (va_S A s.heap H locs) → (okS sA) → (okU um) → (okM sm) → (okR um uA) → (okZ K sm wA fA) → (0 ≤ zq2.toInt ∧ zq2.toInt ≤ 10) → (0 ≤ pq1.toInt ∧ pq1.toInt ≤ 1) → (kL = cpd kA sA (10 * pq1.toInt.toNat) zq2.toInt.toNat) → ((2147483647 - zq2.toInt).toNat < n19) → ∀ (ls : Array Slot), lv_has ls 3 [(0, .ref (a 0)), (1, .int pq1), (2, .int zq2)] → W p l e rmX6_keep s m [.ref (a 0), .int pq1].toArray below meth c H locs 0 0 (MQ below (va_Qi (fun (r : Int32) (u : MZ) => (fun _ _ => True) r u ∧ MI (K) u) (fun u t => va_P K.1 vwCl (mZ K a u) t.heap ∧ va_D A (mZ K a u)) A) [.ref (a 0), .int pq1].toArray s 0 0 A) (F0 m 19 ls []) := by
    intro n19
    induction n19 with
    | zero =>
      intro thL kL H locs zq2 hP hD hS hMS hMU hMM hMR hMZ i19_0 i19_1 i19_2 hm19 ls hl
      exact absurd hm19 (Nat.not_lt_zero _)
    | succ n19 ih19 =>
      intro thL kL H locs zq2 hP hD hS hMS hMU hMM hMR hMZ i19_0 i19_1 i19_2 hm19 ls hl
      refine lv_iload_n hx hb dX6_keep_19 rfl (lv_at hl 2 rfl) ?_
      refine lv_bipush (v := 10) hx hb dX6_keep_20 (by decide) ?_
      refine lv_icmp_ge (tgt := 48) hx hb dX6_keep_22 (by decide) (fun cq22 => ?_) (fun cq22 => ?_)
      · skip
        refine lv_aload_n hx hb dX6_keep_48 rfl (lv_at hl 0 rfl) ?_
        refine va_get (D := K.1) (ci := 6) (v := .ref (a 4)) (C := RX6) (T := TX6) (N := 12) hx hb hts hinX6 hown hK hP 0 rfl rfl 5 (by decide) (hts (.fieldLink RX6 19 "CodedWordsModel" "isKept" "[Z") (by decide +kernel)) (fun _ h9 => h9) rfl dX6_keep_49 ?_
        refine lv_iload_n hx hb dX6_keep_52 rfl (lv_at hl 1 rfl) ?_
        refine lv_iconst (v := 1) hx hb dX6_keep_53 (by decide) ?_
        refine va_zast hx hb hK hP hD hS 4 2 rfl rfl (iq_in i19_1.1 (by have h := i19_1.2; omega)) dX6_keep_54 (fun H locs hP hD hS => ?_)
        have hP : va_P K.1 vwCl (mW K a thL um sm sA uA kL (upd iA (pq1 : Int32).toNatClampNeg (vp_nar .boolean 1)) wA fA cA yA tA) H := hP
        have hD : va_D A (mW K a thL um sm sA uA kL (upd iA (pq1 : Int32).toNatClampNeg (vp_nar .boolean 1)) wA fA cA yA tA) := hD
        generalize en54 : upd iA (pq1 : Int32).toNatClampNeg (vp_nar .boolean 1) = iN54 at hP hD
        have hMK : okK kL iN54 := okK.keep hMK hMS i19_1.1 i19_1.2 cq22 i19_0.2 i19_2 en54
        refine lv_aload_n hx hb dX6_keep_55 rfl (lv_at hl 0 rfl) ?_
        refine va_get (D := K.1) (ci := 6) (v := .ref (a 1)) (C := RX6) (T := TX6) (N := 12) hx hb hts hinX6 hown hK hP 0 rfl rfl 1 (by decide) (hts (.fieldLink RX6 7 "CodedWordsModel" "s" "[I") (by decide +kernel)) (fun _ h9 => h9) rfl dX6_keep_56 ?_
        refine lv_iconst (v := 0) hx hb dX6_keep_59 (by decide) ?_
        refine va_iald hx hb hK hP 1 0 rfl rfl (iq_in (by decide) (by decide)) dX6_keep_60 ?_
        refine lv_topi (fun vq60 eq60 => ?_)
        exact W.iret (v := vq60) hx hb hr (fun t ht hW => ⟨⟨vq60, (thL, um, sm, sA, uA, kL, iN54, wA, fA, cA, yA, tA), rfl, ⟨trivial, ⟨hMS, hMU, hMM, hMR, hMK, hMZ⟩⟩, by rw [ht]; exact hP, hD⟩, hS.F ht⟩) hS.2.2 dX6_keep_61
      · skip
        refine lv_aload_n hx hb dX6_keep_25 rfl (lv_at hl 0 rfl) ?_
        refine va_get (D := K.1) (ci := 6) (v := .ref (a 3)) (C := RX6) (T := TX6) (N := 12) hx hb hts hinX6 hown hK hP 0 rfl rfl 4 (by decide) (hts (.fieldLink RX6 16 "CodedWordsModel" "kept" "[I") (by decide +kernel)) (fun _ h9 => h9) rfl dX6_keep_26 ?_
        refine lv_bipush (v := 10) hx hb dX6_keep_29 (by decide) ?_
        refine lv_iload_n hx hb dX6_keep_31 rfl (lv_at hl 1 rfl) ?_
        refine lv_imul hx hb dX6_keep_32 ?_
        refine lv_topi (fun vq32 eq32 => ?_)
        refine lv_iload_n hx hb dX6_keep_33 rfl (lv_at hl 2 rfl) ?_
        refine lv_iadd hx hb dX6_keep_34 ?_
        refine lv_topi (fun vq34 eq34 => ?_)
        refine lv_aload_n hx hb dX6_keep_35 rfl (lv_at hl 0 rfl) ?_
        refine va_get (D := K.1) (ci := 6) (v := .ref (a 1)) (C := RX6) (T := TX6) (N := 12) hx hb hts hinX6 hown hK hP 0 rfl rfl 1 (by decide) (hts (.fieldLink RX6 7 "CodedWordsModel" "s" "[I") (by decide +kernel)) (fun _ h9 => h9) rfl dX6_keep_36 ?_
        refine lv_iload_n hx hb dX6_keep_39 rfl (lv_at hl 2 rfl) ?_
        refine va_iald hx hb hK hP 1 0 rfl rfl (iq_inr i19_0.1 cq22 (by decide)) dX6_keep_40 ?_
        refine lv_topi (fun vq40 eq40 => ?_)
        refine va_iast hx hb hK hP hD hS 3 0 rfl rfl (iq_tenin i19_1.1 (by omega) i19_0.1 cq22 eq32 eq34 (by omega)) dX6_keep_41 (fun H locs hP hD hS => ?_)
        have hP : va_P K.1 vwCl (mW K a thL um sm sA uA (upd kL (vq34 : Int32).toNatClampNeg vq40) iA wA fA cA yA tA) H := hP
        have hD : va_D A (mW K a thL um sm sA uA (upd kL (vq34 : Int32).toNatClampNeg vq40) iA wA fA cA yA tA) := hD
        generalize en41 : upd kL (vq34 : Int32).toNatClampNeg vq40 = kN41 at hP hD
        obtain ⟨vq42, eq42⟩ : ∃ y : Int32, y = zq2 + 1 := ⟨_, rfl⟩
        refine lv_iinc (v := vq42) (lv' := [(2, .int vq42), (0, .ref (a 0)), (1, .int pq1)]) hx hb dX6_keep_42 hl (k := 2) rfl (by rw [eq42]; rfl) (by decide) rfl (fun ls hl => ?_)
        refine lv_goto (tgt := 19) hx hb dX6_keep_45 (by decide) ?_
        exact ih19 thL kN41 _ _ vq42 hP hD hS hMS hMU hMM hMR hMZ (by first | exact ⟨by decide, by decide⟩ | exact iq_ten1 i19_0 cq22 eq42) (by first | exact i19_1 | exact ⟨(by have h := (hp8.resolve_left (fun q => cq11 q.1)).2.1; rw [iq_le] at h; exact h), (by have h := (hp8.resolve_left (fun q => cq11 q.1)).2.2; rw [iq_le] at h; exact h)⟩) (by first | exact cpd_0 | exact cpd_step i19_0.1 cq22 i19_2 (iq_ten i19_1.1 (by omega) i19_0.1 cq22 eq32 eq34) eq40 en41 eq42) (iq_up hm19 cq22 eq42) _ (lv_sub hl [1, 2, 0] rfl)
  refine lv_aload_n hx hb dX6_keep_0 rfl (lv_at hl 0 rfl) ?_
  refine lv_iconst (v := 0) hx hb dX6_keep_1 (by decide) ?_
  refine va_put (D := K.1) (ci := 6) (v := .int 0) (ty := .int) (C := RX6) (T := TX6) (N := 12) hx hb hts hinX6 tyX6 tyX6_ok nmX6 hown hK hP hD hS 0 rfl rfl 0 (by decide) (hts (.fieldLink RX6 39 "CodedWordsModel" "thrown" "I") (by decide +kernel)) (fun _ h9 => h9) rfl (by decide +kernel) rfl rfl (Nat.le_of_ble_eq_true rfl) dX6_keep_2 (fun H locs hP hD hS => ?_)
  have hP : va_P K.1 vwCl (mW K a 0 um sm sA uA kA iA wA fA cA yA tA) H := hP
  have hD : va_D A (mW K a 0 um sm sA uA kA iA wA fA cA yA tA) := hD
  refine lv_iload_n hx hb dX6_keep_5 rfl (lv_at hl 1 rfl) ?_
  refine lv_iconst (v := 0) hx hb dX6_keep_6 (by decide) ?_
  refine lv_iconst (v := 1) hx hb dX6_keep_7 (by decide) ?_
  refine r_i (va_runS (As := [.int pq1, .int 0, .int 1]) (rest := []) ⟨hx, hb, hml, hown, hts⟩ (k_X6_in l pq1 0 1) (va_cwS 3 hts gX6_keep_X6_in rfl rfl rfl (by decide +kernel) ⟨Nat.le_of_ble_eq_true rfl, Nat.le_of_ble_eq_true rfl⟩) (pPreS) rfl rfl hl.1 rfl (lv_room (Nat.le_of_ble_eq_true rfl)) dX6_keep_8 ⟨Nat.le_of_ble_eq_true rfl, Nat.le_of_ble_eq_true rfl⟩) hP hS (fun rq8 H locs hp8 hP hS => ?_)
  refine lv_if_ne (tgt := 17) hx hb dX6_keep_11 (by decide) (fun cq11 => ?_) (fun cq11 => ?_)
  · skip
    refine lv_iconst (v := 0) hx hb dX6_keep_17 (by decide) ?_
    refine lv_istore_n (lv' := [(2, .int 0), (0, .ref (a 0)), (1, .int pq1)]) hx hb dX6_keep_18 rfl hl (by decide) rfl (fun ls hl => ?_)
    exact hJ19 ((2147483647 - (0 : Int32).toInt).toNat + 1) 0 kA _ _ 0 hP hD hS hMS hMU hMM hMR hMZ (by first | exact ⟨by decide, by decide⟩ | exact iq_ten1 i19_0 cq22 eq42) (by first | exact i19_1 | exact ⟨(by have h := (hp8.resolve_left (fun q => cq11 q.1)).2.1; rw [iq_le] at h; exact h), (by have h := (hp8.resolve_left (fun q => cq11 q.1)).2.2; rw [iq_le] at h; exact h)⟩) (by first | exact cpd_0 | exact cpd_step i19_0.1 cq22 i19_2 (iq_ten i19_1.1 (by omega) i19_0.1 cq22 eq32 eq34) eq40 en41 eq42) (Nat.lt_succ_self _) _ (lv_sub hl [1, 2, 0] rfl)
  · skip
    refine lv_ldc (v := (-1000001)) hx hb hown (hts (.constant RX6 71 (-1000001)) (by decide +kernel)) dX6_keep_14 ?_
    exact W.iret (v := (-1000001)) hx hb hr (fun t ht hW => ⟨⟨(-1000001), (0, um, sm, sA, uA, kA, iA, wA, fA, cA, yA, tA), rfl, ⟨trivial, ⟨hMS, hMU, hMM, hMR, hMK, hMZ⟩⟩, by rw [ht]; exact hP, hD⟩, hS.F ht⟩) hS.2.2 dX6_keep_16
abbrev rmX6_register : Room := { frames := 7, cells := 0, slots := 0, locals := 149 }
set_option maxHeartbeats 4000000 in
set_option maxRecDepth 100000 in
theorem k_X6_register (l : Launch) {K : Cx} {a : Nat → Nat} {th um sm : Int32} {sA uA kA iA wA fA cA : Nat → Int32} {yA tA : Nat → Int64} (hM : MI K (th, um, sm, sA, uA, kA, iA, wA, fA, cA, yA, tA)) (sz : Nat) (pq1 : Int32) (pq2 : Int32)  : Mi l K yX6_register wsX6_register rmX6_register [.ref (a 0), .int pq1, .int pq2] a (th, um, sm, sA, uA, kA, iA, wA, fA, cA, yA, tA) sz (fun _ _ => True) := by
  refine Met.ofW (cc := cX6_register) (maxL := 4) (ret := (some .int)) (by decide) rfl ?_
  intro p e s m args below meth c s₁ B hml hv
  obtain ⟨rfl, hsz, hP, hK, hD0, hN⟩ := hv
  have hx := B.exec
  have hb := B.bytes
  have hr := B.returns
  have hts := atoms_spec (ws := wsX6_register) B.pre
  have hown : s.vm.findClass RX6 = some m.cls := findClass_of_methodNamed B.named
  have hlocks := B.notSynchronized
  have hinX6 : ∀ w ∈ wsX60, w ∈ wsX6_register := by decide +kernel
  subst hsz
  have hD := hD0.self (sz := s.heap.size)
  generalize hAe : va_A (mZ K a (th, um, sm, sA, uA, kA, iA, wA, fA, cA, yA, tA)) s.heap.size = A at hD ⊢
  have hA : ∀ q : Nat, s.heap.size ≤ q → A q := fun q h => by rw [← hAe]; exact Or.inr h
  have hS : va_S A s.heap s.heap [] := va_S.rf
  have hP : va_P K.1 vwCl (mW K a th um sm sA uA kA iA wA fA cA yA tA) s.heap := hP
  have hD : va_D A (mW K a th um sm sA uA kA iA wA fA cA yA tA) := hD
  have hMS : okS sA := hM.1
  have hMU : okU um := hM.2.1
  have hMM : okM sm := hM.2.2.1
  have hMR : okR um uA := hM.2.2.2.1
  have hMK : okK kA iA := hM.2.2.2.2.1
  have hMZ : okZ K sm wA fA := hM.2.2.2.2.2
  have hl := lv_entry ([.ref (a 0), .int pq1, .int pq2]) (n := 4) (Nat.le_of_ble_eq_true rfl)
  rw [lg_entry_eq]
  generalize (lg_sl ([.ref (a 0), .int pq1, .int pq2]) ++ List.replicate (4 - (lg_sl ([.ref (a 0), .int pq1, .int pq2])).length) Slot.unset).toArray = ls at hl ⊢
  have hl : lv_has ls 4 [(0, .ref (a 0)), (1, .int pq1), (2, .int pq2)] := hl
  refine lv_aload_n hx hb dX6_register_0 rfl (lv_at hl 0 rfl) ?_
  refine lv_iconst (v := 0) hx hb dX6_register_1 (by decide) ?_
  refine va_put (D := K.1) (ci := 6) (v := .int 0) (ty := .int) (C := RX6) (T := TX6) (N := 12) hx hb hts hinX6 tyX6 tyX6_ok nmX6 hown hK hP hD hS 0 rfl rfl 0 (by decide) (hts (.fieldLink RX6 39 "CodedWordsModel" "thrown" "I") (by decide +kernel)) (fun _ h9 => h9) rfl (by decide +kernel) rfl rfl (Nat.le_of_ble_eq_true rfl) dX6_register_2 (fun H locs hP hD hS => ?_)
  have hP : va_P K.1 vwCl (mW K a 0 um sm sA uA kA iA wA fA cA yA tA) H := hP
  have hD : va_D A (mW K a 0 um sm sA uA kA iA wA fA cA yA tA) := hD
  refine lv_iload_n hx hb dX6_register_5 rfl (lv_at hl 1 rfl) ?_
  refine r_i (va_runS (As := [.int pq1]) (rest := []) ⟨hx, hb, hml, hown, hts⟩ (k_X6_isRegister l pq1) (va_cwS 1 hts gX6_register_X6_isRegister rfl rfl rfl (by decide +kernel) ⟨Nat.le_of_ble_eq_true rfl, Nat.le_of_ble_eq_true rfl⟩) (pPreS) rfl rfl hl.1 rfl (lv_room (Nat.le_of_ble_eq_true rfl)) dX6_register_6 ⟨Nat.le_of_ble_eq_true rfl, Nat.le_of_ble_eq_true rfl⟩) hP hS (fun rq6 H locs hp6 hP hS => ?_)
  refine lv_if_eq (tgt := 22) hx hb dX6_register_9 (by decide) (fun cq9 => ?_) (fun cq9 => ?_)
  · skip
    refine lv_ldc (v := (-1000001)) hx hb hown (hts (.constant RX6 71 (-1000001)) (by decide +kernel)) dX6_register_22 ?_
    exact W.iret (v := (-1000001)) hx hb hr (fun t ht hW => ⟨⟨(-1000001), (0, um, sm, sA, uA, kA, iA, wA, fA, cA, yA, tA), rfl, ⟨trivial, ⟨hMS, hMU, hMM, hMR, hMK, hMZ⟩⟩, by rw [ht]; exact hP, hD⟩, hS.F ht⟩) hS.2.2 dX6_register_24
  · skip
    refine lv_iload_n hx hb dX6_register_12 rfl (lv_at hl 2 rfl) ?_
    refine lv_iconst (v := 0) hx hb dX6_register_13 (by decide) ?_
    refine lv_bipush (v := 7) hx hb dX6_register_14 (by decide) ?_
    refine r_i (va_runS (As := [.int pq2, .int 0, .int 7]) (rest := []) ⟨hx, hb, hml, hown, hts⟩ (k_X6_in l pq2 0 7) (va_cwS 3 hts gX6_register_X6_in rfl rfl rfl (by decide +kernel) ⟨Nat.le_of_ble_eq_true rfl, Nat.le_of_ble_eq_true rfl⟩) (pPreS) rfl rfl hl.1 rfl (lv_room (Nat.le_of_ble_eq_true rfl)) dX6_register_16 ⟨Nat.le_of_ble_eq_true rfl, Nat.le_of_ble_eq_true rfl⟩) hP hS (fun rq16 H locs hp16 hP hS => ?_)
    refine lv_if_ne (tgt := 25) hx hb dX6_register_19 (by decide) (fun cq19 => ?_) (fun cq19 => ?_)
    · skip
      refine lv_aload_n hx hb dX6_register_25 rfl (lv_at hl 0 rfl) ?_
      refine va_get (D := K.1) (ci := 6) (v := .ref (a 1)) (C := RX6) (T := TX6) (N := 12) hx hb hts hinX6 hown hK hP 0 rfl rfl 1 (by decide) (hts (.fieldLink RX6 7 "CodedWordsModel" "s" "[I") (by decide +kernel)) (fun _ h9 => h9) rfl dX6_register_26 ?_
      refine lv_iconst (v := 2) hx hb dX6_register_29 (by decide) ?_
      refine lv_iload_n hx hb dX6_register_30 rfl (lv_at hl 1 rfl) ?_
      refine lv_iadd hx hb dX6_register_31 ?_
      refine lv_topi (fun vq31 eq31 => ?_)
      refine va_iald hx hb hK hP 1 0 rfl rfl (iq_inreg (by decide) (by decide) (hp6.resolve_left cq9).2.1 (hp6.resolve_left cq9).2.2 eq31) dX6_register_32 ?_
      refine lv_topi (fun vq32 eq32 => ?_)
      refine lv_istore_n (lv' := [(3, .int vq32), (0, .ref (a 0)), (1, .int pq1), (2, .int pq2)]) hx hb dX6_register_33 rfl hl (by decide) rfl (fun ls hl => ?_)
      refine lv_iload_n hx hb dX6_register_34 rfl (lv_at hl 3 rfl) ?_
      refine lv_iconst (v := 4) hx hb dX6_register_35 (by decide) ?_
      refine lv_icmp_ge (tgt := 105) hx hb dX6_register_36 (by decide) (fun cq36 => ?_) (fun cq36 => ?_)
      · skip
        refine lv_iload_n hx hb dX6_register_105 rfl (lv_at hl 3 rfl) ?_
        refine lv_bipush (v := 6) hx hb dX6_register_106 (by decide) ?_
        refine lv_icmp_ge (tgt := 147) hx hb dX6_register_108 (by decide) (fun cq108 => ?_) (fun cq108 => ?_)
        · skip
          refine lv_iload_n hx hb dX6_register_147 rfl (lv_at hl 3 rfl) ?_
          refine lv_bipush (v := 7) hx hb dX6_register_148 (by decide) ?_
          refine lv_icmp_ne (tgt := 161) hx hb dX6_register_150 (by decide) (fun cq150 => ?_) (fun cq150 => ?_)
          · skip
            refine lv_aload_n hx hb dX6_register_161 rfl (lv_at hl 1 rfl) ?_
            refine lv_iload_n hx hb dX6_register_162 rfl (lv_at hl 2 rfl) ?_
            refine r_i (K := K) (w := mW K a 0 um sm sA uA kA iA wA fA cA yA tA) (va_runV (As := [.int pq1]) (rest := []) ⟨hx, hb, hml, hown, hts⟩ (k_X6_verdict l hMS pq1 ((hp6.resolve_left cq9).2.1) ((hp6.resolve_left cq9).2.2)) (cwV 1 hts gX6_register_X6_verdict rfl rfl rfl (by decide +kernel) ⟨Nat.le_of_ble_eq_true rfl, Nat.le_of_ble_eq_true rfl⟩) (rPreV (m_rcv hK hP) hP hK hD hN) rfl rfl hl.1 rfl (lv_room (Nat.le_of_ble_eq_true rfl)) dX6_register_163 ⟨Nat.le_of_ble_eq_true rfl, Nat.le_of_ble_eq_true rfl⟩) hP hS (fun rq163 H locs hp163 hP hS => ?_)
            refine lv_iconst (v := 2) hx hb dX6_register_166 (by decide) ?_
            refine lv_icmp_ne (tgt := 178) hx hb dX6_register_167 (by decide) (fun cq167 => ?_) (fun cq167 => ?_)
            · skip
              refine lv_ldc (v := (-1000000)) hx hb hown (hts (.constant RX6 110 (-1000000)) (by decide +kernel)) dX6_register_178 ?_
              exact W.iret (v := (-1000000)) hx hb hr (fun t ht hW => ⟨⟨(-1000000), (0, um, sm, sA, uA, kA, iA, wA, fA, cA, yA, tA), rfl, ⟨trivial, ⟨hMS, hMU, hMM, hMR, hMK, hMZ⟩⟩, by rw [ht]; exact hP, hD⟩, hS.F ht⟩) hS.2.2 dX6_register_180
            · skip
              refine lv_aload_n hx hb dX6_register_170 rfl (lv_at hl 1 rfl) ?_
              refine lv_iload_n hx hb dX6_register_171 rfl (lv_at hl 2 rfl) ?_
              refine r_i (K := K) (w := mW K a 0 um sm sA uA kA iA wA fA cA yA tA) (va_runV (As := [.int pq1]) (rest := []) ⟨hx, hb, hml, hown, hts⟩ (k_X6_firstCause l hMS pq1 ((hp6.resolve_left cq9).2.1) ((hp6.resolve_left cq9).2.2) ((hp163.resolve_left (fun q => by rcases q with q | q | q <;> (rw [cq167] at q; exact absurd q (by decide)))).2)) (cwV 1 hts gX6_register_X6_firstCause rfl rfl rfl (by decide +kernel) ⟨Nat.le_of_ble_eq_true rfl, Nat.le_of_ble_eq_true rfl⟩) (rPreV (m_rcv hK hP) hP hK hD hN) rfl rfl hl.1 rfl (lv_room (Nat.le_of_ble_eq_true rfl)) dX6_register_172 ⟨Nat.le_of_ble_eq_true rfl, Nat.le_of_ble_eq_true rfl⟩) hP hS (fun rq172 H locs hp172 hP hS => ?_)
              refine lv_goto (tgt := 180) hx hb dX6_register_175 (by decide) ?_
              exact W.iret (v := rq172) hx hb hr (fun t ht hW => ⟨⟨rq172, (0, um, sm, sA, uA, kA, iA, wA, fA, cA, yA, tA), rfl, ⟨trivial, ⟨hMS, hMU, hMM, hMR, hMK, hMZ⟩⟩, by rw [ht]; exact hP, hD⟩, hS.F ht⟩) hS.2.2 dX6_register_180
          · skip
            refine lv_aload_n hx hb dX6_register_153 rfl (lv_at hl 1 rfl) ?_
            refine lv_iload_n hx hb dX6_register_154 rfl (lv_at hl 2 rfl) ?_
            refine r_i (K := K) (w := mW K a 0 um sm sA uA kA iA wA fA cA yA tA) (va_runV (As := [.int pq1]) (rest := []) ⟨hx, hb, hml, hown, hts⟩ (k_X6_causes l hMS pq1 ((hp6.resolve_left cq9).2.1) ((hp6.resolve_left cq9).2.2)) (cwV 1 hts gX6_register_X6_causes rfl rfl rfl (by decide +kernel) ⟨Nat.le_of_ble_eq_true rfl, Nat.le_of_ble_eq_true rfl⟩) (rPreV (m_rcv hK hP) hP hK hD hN) rfl rfl hl.1 rfl (lv_room (Nat.le_of_ble_eq_true rfl)) dX6_register_155 ⟨Nat.le_of_ble_eq_true rfl, Nat.le_of_ble_eq_true rfl⟩) hP hS (fun rq155 H locs hp155 hP hS => ?_)
            refine lv_goto (tgt := 180) hx hb dX6_register_158 (by decide) ?_
            exact W.iret (v := rq155) hx hb hr (fun t ht hW => ⟨⟨rq155, (0, um, sm, sA, uA, kA, iA, wA, fA, cA, yA, tA), rfl, ⟨trivial, ⟨hMS, hMU, hMM, hMR, hMK, hMZ⟩⟩, by rw [ht]; exact hP, hD⟩, hS.F ht⟩) hS.2.2 dX6_register_180
        · skip
          refine lv_iload_n hx hb dX6_register_111 rfl (lv_at hl 3 rfl) ?_
          refine lv_iconst (v := 5) hx hb dX6_register_112 (by decide) ?_
          refine lv_icmp_ne (tgt := 124) hx hb dX6_register_113 (by decide) (fun cq113 => ?_) (fun cq113 => ?_)
          · skip
            refine lv_aload_n hx hb dX6_register_124 rfl (lv_at hl 1 rfl) ?_
            refine lv_iload_n hx hb dX6_register_125 rfl (lv_at hl 0 rfl) ?_
            refine lv_aload_n hx hb dX6_register_126 rfl (lv_at hl 1 rfl) ?_
            refine va_get (D := K.1) (ci := 6) (v := .ref (a 1)) (C := RX6) (T := TX6) (N := 12) hx hb hts hinX6 hown hK hP 0 rfl rfl 1 (by decide) (hts (.fieldLink RX6 7 "CodedWordsModel" "s" "[I") (by decide +kernel)) (fun _ h9 => h9) rfl dX6_register_127 ?_
            refine lv_bipush (v := 6) hx hb dX6_register_130 (by decide) ?_
            refine lv_iload_n hx hb dX6_register_132 rfl (lv_at hl 2 rfl) ?_
            refine lv_iadd hx hb dX6_register_133 ?_
            refine lv_topi (fun vq133 eq133 => ?_)
            refine va_iald hx hb hK hP 1 0 rfl rfl (iq_inreg (by decide) (by decide) (hp6.resolve_left cq9).2.1 (hp6.resolve_left cq9).2.2 eq133) dX6_register_134 ?_
            refine lv_topi (fun vq134 eq134 => ?_)
            refine r_i (K := K) (w := mW K a 0 um sm sA uA kA iA wA fA cA yA tA) (va_runV (As := [.int vq32, .int vq134]) (rest := []) ⟨hx, hb, hml, hown, hts⟩ (k_X6_isRight l hMS vq32 vq134) (cwV 2 hts gX6_register_X6_isRight rfl rfl rfl (by decide +kernel) ⟨Nat.le_of_ble_eq_true rfl, Nat.le_of_ble_eq_true rfl⟩) (rPreV (m_rcv hK hP) hP hK hD hN) rfl rfl hl.1 rfl (lv_room (Nat.le_of_ble_eq_true rfl)) dX6_register_135 ⟨Nat.le_of_ble_eq_true rfl, Nat.le_of_ble_eq_true rfl⟩) hP hS (fun rq135 H locs hp135 hP hS => ?_)
            refine lv_if_eq (tgt := 145) hx hb dX6_register_138 (by decide) (fun cq138 => ?_) (fun cq138 => ?_)
            · skip
              refine lv_iconst (v := 0) hx hb dX6_register_145 (by decide) ?_
              exact W.iret (v := 0) hx hb hr (fun t ht hW => ⟨⟨0, (0, um, sm, sA, uA, kA, iA, wA, fA, cA, yA, tA), rfl, ⟨trivial, ⟨hMS, hMU, hMM, hMR, hMK, hMZ⟩⟩, by rw [ht]; exact hP, hD⟩, hS.F ht⟩) hS.2.2 dX6_register_146
            · skip
              refine lv_iconst (v := 1) hx hb dX6_register_141 (by decide) ?_
              refine lv_goto (tgt := 146) hx hb dX6_register_142 (by decide) ?_
              exact W.iret (v := 1) hx hb hr (fun t ht hW => ⟨⟨1, (0, um, sm, sA, uA, kA, iA, wA, fA, cA, yA, tA), rfl, ⟨trivial, ⟨hMS, hMU, hMM, hMR, hMK, hMZ⟩⟩, by rw [ht]; exact hP, hD⟩, hS.F ht⟩) hS.2.2 dX6_register_146
          · skip
            refine lv_aload_n hx hb dX6_register_116 rfl (lv_at hl 1 rfl) ?_
            refine lv_iload_n hx hb dX6_register_117 rfl (lv_at hl 2 rfl) ?_
            refine r_i (K := K) (w := mW K a 0 um sm sA uA kA iA wA fA cA yA tA) (va_runV (As := [.int pq1]) (rest := []) ⟨hx, hb, hml, hown, hts⟩ (k_X6_verdict l hMS pq1 ((hp6.resolve_left cq9).2.1) ((hp6.resolve_left cq9).2.2)) (cwV 1 hts gX6_register_X6_verdict rfl rfl rfl (by decide +kernel) ⟨Nat.le_of_ble_eq_true rfl, Nat.le_of_ble_eq_true rfl⟩) (rPreV (m_rcv hK hP) hP hK hD hN) rfl rfl hl.1 rfl (lv_room (Nat.le_of_ble_eq_true rfl)) dX6_register_118 ⟨Nat.le_of_ble_eq_true rfl, Nat.le_of_ble_eq_true rfl⟩) hP hS (fun rq118 H locs hp118 hP hS => ?_)
            refine lv_goto (tgt := 146) hx hb dX6_register_121 (by decide) ?_
            exact W.iret (v := rq118) hx hb hr (fun t ht hW => ⟨⟨rq118, (0, um, sm, sA, uA, kA, iA, wA, fA, cA, yA, tA), rfl, ⟨trivial, ⟨hMS, hMU, hMM, hMR, hMK, hMZ⟩⟩, by rw [ht]; exact hP, hD⟩, hS.F ht⟩) hS.2.2 dX6_register_146
      · skip
        refine lv_iload_n hx hb dX6_register_39 rfl (lv_at hl 3 rfl) ?_
        refine lv_if_ne (tgt := 47) hx hb dX6_register_40 (by decide) (fun cq40 => ?_) (fun cq40 => ?_)
        · skip
          refine lv_iload_n hx hb dX6_register_47 rfl (lv_at hl 3 rfl) ?_
          refine lv_iconst (v := 1) hx hb dX6_register_48 (by decide) ?_
          refine lv_icmp_ne (tgt := 64) hx hb dX6_register_49 (by decide) (fun cq49 => ?_) (fun cq49 => ?_)
          · skip
            refine lv_iload_n hx hb dX6_register_64 rfl (lv_at hl 3 rfl) ?_
            refine lv_iconst (v := 2) hx hb dX6_register_65 (by decide) ?_
            refine lv_icmp_ne (tgt := 83) hx hb dX6_register_66 (by decide) (fun cq66 => ?_) (fun cq66 => ?_)
            · skip
              refine lv_aload_n hx hb dX6_register_83 rfl (lv_at hl 1 rfl) ?_
              refine lv_iload_n hx hb dX6_register_84 rfl (lv_at hl 0 rfl) ?_
              refine r_i (K := K) (w := mW K a 0 um sm sA uA kA iA wA fA cA yA tA) (va_runV (As := [.int vq32]) (rest := []) ⟨hx, hb, hml, hown, hts⟩ (k_X6_fits l hMS vq32) (cwV 1 hts gX6_register_X6_fits rfl rfl rfl (by decide +kernel) ⟨Nat.le_of_ble_eq_true rfl, Nat.le_of_ble_eq_true rfl⟩) (rPreV (m_rcv hK hP) hP hK hD hN) rfl rfl hl.1 rfl (lv_room (Nat.le_of_ble_eq_true rfl)) dX6_register_85 ⟨Nat.le_of_ble_eq_true rfl, Nat.le_of_ble_eq_true rfl⟩) hP hS (fun rq85 H locs hp85 hP hS => ?_)
              refine lv_if_eq (tgt := 102) hx hb dX6_register_88 (by decide) (fun cq88 => ?_) (fun cq88 => ?_)
              · skip
                refine lv_ldc (v := (-1000000)) hx hb hown (hts (.constant RX6 110 (-1000000)) (by decide +kernel)) dX6_register_102 ?_
                exact W.iret (v := (-1000000)) hx hb hr (fun t ht hW => ⟨⟨(-1000000), (0, um, sm, sA, uA, kA, iA, wA, fA, cA, yA, tA), rfl, ⟨trivial, ⟨hMS, hMU, hMM, hMR, hMK, hMZ⟩⟩, by rw [ht]; exact hP, hD⟩, hS.F ht⟩) hS.2.2 dX6_register_104
              · skip
                refine lv_iload_n hx hb dX6_register_91 rfl (lv_at hl 0 rfl) ?_
                refine lv_aload_n hx hb dX6_register_92 rfl (lv_at hl 1 rfl) ?_
                refine va_get (D := K.1) (ci := 6) (v := .ref (a 1)) (C := RX6) (T := TX6) (N := 12) hx hb hts hinX6 hown hK hP 0 rfl rfl 1 (by decide) (hts (.fieldLink RX6 7 "CodedWordsModel" "s" "[I") (by decide +kernel)) (fun _ h9 => h9) rfl dX6_register_93 ?_
                refine lv_iconst (v := 0) hx hb dX6_register_96 (by decide) ?_
                refine va_iald hx hb hK hP 1 0 rfl rfl (iq_in (by decide) (by decide)) dX6_register_97 ?_
                refine lv_topi (fun vq97 eq97 => ?_)
                refine lv_idiv hx hb dX6_register_98 (hMS.nz eq97) ?_
                refine lv_topi (fun vq98 eq98 => ?_)
                refine lv_goto (tgt := 104) hx hb dX6_register_99 (by decide) ?_
                exact W.iret (v := vq98) hx hb hr (fun t ht hW => ⟨⟨vq98, (0, um, sm, sA, uA, kA, iA, wA, fA, cA, yA, tA), rfl, ⟨trivial, ⟨hMS, hMU, hMM, hMR, hMK, hMZ⟩⟩, by rw [ht]; exact hP, hD⟩, hS.F ht⟩) hS.2.2 dX6_register_104
            · skip
              refine lv_iload_n hx hb dX6_register_69 rfl (lv_at hl 0 rfl) ?_
              refine lv_i2l (v := (vq32 : Int32).toInt64) hx hb dX6_register_70 rfl ?_
              refine lv_topl (fun vq70 eq70 => ?_)
              refine lv_aload_n hx hb dX6_register_71 rfl (lv_at hl 1 rfl) ?_
              refine va_get (D := K.1) (ci := 6) (v := .ref (a 1)) (C := RX6) (T := TX6) (N := 12) hx hb hts hinX6 hown hK hP 0 rfl rfl 1 (by decide) (hts (.fieldLink RX6 7 "CodedWordsModel" "s" "[I") (by decide +kernel)) (fun _ h9 => h9) rfl dX6_register_72 ?_
              refine lv_iconst (v := 0) hx hb dX6_register_75 (by decide) ?_
              refine va_iald hx hb hK hP 1 0 rfl rfl (iq_in (by decide) (by decide)) dX6_register_76 ?_
              refine lv_topi (fun vq76 eq76 => ?_)
              refine r_i (va_runS (As := [.long vq70, .int vq76]) (rest := []) ⟨hx, hb, hml, hown, hts⟩ (k_X6_rest l vq70 vq76 (hMS.pos eq76)) (va_cwS 2 hts gX6_register_X6_rest rfl rfl rfl (by decide +kernel) ⟨Nat.le_of_ble_eq_true rfl, Nat.le_of_ble_eq_true rfl⟩) (pPreS) rfl rfl hl.1 rfl (lv_room (Nat.le_of_ble_eq_true rfl)) dX6_register_77 ⟨Nat.le_of_ble_eq_true rfl, Nat.le_of_ble_eq_true rfl⟩) hP hS (fun rq77 H locs hp77 hP hS => ?_)
              refine lv_goto (tgt := 104) hx hb dX6_register_80 (by decide) ?_
              exact W.iret (v := rq77) hx hb hr (fun t ht hW => ⟨⟨rq77, (0, um, sm, sA, uA, kA, iA, wA, fA, cA, yA, tA), rfl, ⟨trivial, ⟨hMS, hMU, hMM, hMR, hMK, hMZ⟩⟩, by rw [ht]; exact hP, hD⟩, hS.F ht⟩) hS.2.2 dX6_register_104
          · skip
            refine lv_aload_n hx hb dX6_register_52 rfl (lv_at hl 1 rfl) ?_
            refine va_get (D := K.1) (ci := 6) (v := .ref (a 1)) (C := RX6) (T := TX6) (N := 12) hx hb hts hinX6 hown hK hP 0 rfl rfl 1 (by decide) (hts (.fieldLink RX6 7 "CodedWordsModel" "s" "[I") (by decide +kernel)) (fun _ h9 => h9) rfl dX6_register_53 ?_
            refine lv_bipush (v := 6) hx hb dX6_register_56 (by decide) ?_
            refine lv_iload_n hx hb dX6_register_58 rfl (lv_at hl 2 rfl) ?_
            refine lv_iadd hx hb dX6_register_59 ?_
            refine lv_topi (fun vq59 eq59 => ?_)
            refine va_iald hx hb hK hP 1 0 rfl rfl (iq_inreg (by decide) (by decide) (hp6.resolve_left cq9).2.1 (hp6.resolve_left cq9).2.2 eq59) dX6_register_60 ?_
            refine lv_topi (fun vq60 eq60 => ?_)
            refine lv_goto (tgt := 104) hx hb dX6_register_61 (by decide) ?_
            exact W.iret (v := vq60) hx hb hr (fun t ht hW => ⟨⟨vq60, (0, um, sm, sA, uA, kA, iA, wA, fA, cA, yA, tA), rfl, ⟨trivial, ⟨hMS, hMU, hMM, hMR, hMK, hMZ⟩⟩, by rw [ht]; exact hP, hD⟩, hS.F ht⟩) hS.2.2 dX6_register_104
        · skip
          refine lv_iload_n hx hb dX6_register_43 rfl (lv_at hl 0 rfl) ?_
          refine lv_goto (tgt := 104) hx hb dX6_register_44 (by decide) ?_
          exact W.iret (v := vq32) hx hb hr (fun t ht hW => ⟨⟨vq32, (0, um, sm, sA, uA, kA, iA, wA, fA, cA, yA, tA), rfl, ⟨trivial, ⟨hMS, hMU, hMM, hMR, hMK, hMZ⟩⟩, by rw [ht]; exact hP, hD⟩, hS.F ht⟩) hS.2.2 dX6_register_104
    · skip
      refine lv_ldc (v := (-1000001)) hx hb hown (hts (.constant RX6 71 (-1000001)) (by decide +kernel)) dX6_register_22 ?_
      exact W.iret (v := (-1000001)) hx hb hr (fun t ht hW => ⟨⟨(-1000001), (0, um, sm, sA, uA, kA, iA, wA, fA, cA, yA, tA), rfl, ⟨trivial, ⟨hMS, hMU, hMM, hMR, hMK, hMZ⟩⟩, by rw [ht]; exact hP, hD⟩, hS.F ht⟩) hS.2.2 dX6_register_24
abbrev rmX6_round : Room := { frames := 2, cells := 0, slots := 0, locals := 42 }
set_option maxHeartbeats 4000000 in
set_option maxRecDepth 100000 in
theorem k_X6_round (l : Launch) {K : Cx} {a : Nat → Nat} {th um sm : Int32} {sA uA kA iA wA fA cA : Nat → Int32} {yA tA : Nat → Int64} (hM : MI K (th, um, sm, sA, uA, kA, iA, wA, fA, cA, yA, tA)) (sz : Nat) (pq1 : Int32)  : Mi l K yX6_round wsX6_round rmX6_round [.ref (a 0), .int pq1] a (th, um, sm, sA, uA, kA, iA, wA, fA, cA, yA, tA) sz (fun (r : Int32) _ => rAns pq1 r) := by
  refine Met.ofW (cc := cX6_round) (maxL := 4) (ret := (some .int)) (by decide) rfl ?_
  intro p e s m args below meth c s₁ B hml hv
  obtain ⟨rfl, hsz, hP, hK, hD0, hN⟩ := hv
  have hx := B.exec
  have hb := B.bytes
  have hr := B.returns
  have hts := atoms_spec (ws := wsX6_round) B.pre
  have hown : s.vm.findClass RX6 = some m.cls := findClass_of_methodNamed B.named
  have hlocks := B.notSynchronized
  have hinX6 : ∀ w ∈ wsX60, w ∈ wsX6_round := by decide +kernel
  subst hsz
  have hD := hD0.self (sz := s.heap.size)
  generalize hAe : va_A (mZ K a (th, um, sm, sA, uA, kA, iA, wA, fA, cA, yA, tA)) s.heap.size = A at hD ⊢
  have hA : ∀ q : Nat, s.heap.size ≤ q → A q := fun q h => by rw [← hAe]; exact Or.inr h
  have hS : va_S A s.heap s.heap [] := va_S.rf
  have hP : va_P K.1 vwCl (mW K a th um sm sA uA kA iA wA fA cA yA tA) s.heap := hP
  have hD : va_D A (mW K a th um sm sA uA kA iA wA fA cA yA tA) := hD
  have hMS : okS sA := hM.1
  have hMU : okU um := hM.2.1
  have hMM : okM sm := hM.2.2.1
  have hMR : okR um uA := hM.2.2.2.1
  have hMK : okK kA iA := hM.2.2.2.2.1
  have hMZ : okZ K sm wA fA := hM.2.2.2.2.2
  have hl := lv_entry ([.ref (a 0), .int pq1]) (n := 4) (Nat.le_of_ble_eq_true rfl)
  rw [lg_entry_eq]
  generalize (lg_sl ([.ref (a 0), .int pq1]) ++ List.replicate (4 - (lg_sl ([.ref (a 0), .int pq1])).length) Slot.unset).toArray = ls at hl ⊢
  have hl : lv_has ls 4 [(0, .ref (a 0)), (1, .int pq1)] := hl
  obtain ⟨NN, hN1⟩ : ∃ N : Nat, (isC pq1 → N ≤ 199 ∧ 1 ≤ N ∧ (2 ^ N % pq1.toInt.toNat = 1 ∨ 2 ^ N % pq1.toInt.toNat = pq1.toInt.toNat - 1)) := by
    by_cases hq : isC pq1
    · have h1 := hq.1
      have h2 := hq.2.1
      have h3 := hq.2.2
      obtain ⟨N, h⟩ := rq_ex (a := pq1.toInt.toNat) (by omega) (by omega) (by omega)
      exact ⟨N, fun _ => ⟨by omega, h.2⟩⟩
    · exact ⟨0, fun h1 => absurd h1 hq⟩
  have hJ21 : ∀ (n21 : Nat) (thL : Int32) (umL : Int32) (smL : Int32) (sL : Nat → Int32) (uL : Nat → Int32) (kL : Nat → Int32) (iL : Nat → Int32) (wL : Nat → Int32) (fL : Nat → Int32) (cL : Nat → Int32) (yL : Nat → Int64) (tL : Nat → Int64) (H : Heap) (locs : List Loc) (zq2 : Int32) (zq3 : Int32), (va_P K.1 vwCl (mW K a thL umL smL sL uL kL iL wL fL cL yL tL) H) → (va_D A (mW K a thL umL smL sL uL kL iL wL fL cL yL tL)) → (va_S A s.heap H locs) → (okS sL) → (okU umL) → (okM smL) → (okR umL uL) → (okK kL iL) → (okZ K smL wL fL) → (isC pq1) → (zq3.toInt = ((2 ^ zq2.toInt.toNat % pq1.toInt.toNat : Nat) : Int)) → (1 ≤ zq2.toInt ∧ zq2.toInt ≤ NN) → (∀ m : Nat, 1 ≤ m → m < zq2.toInt.toNat → ¬ rGood pq1.toInt.toNat m) → ((NN - zq2.toInt).toNat < n21) → ∀ (ls : Array Slot), lv_has ls 4 [(1, .int pq1), (2, .int zq2), (3, .int zq3)] → W p l e rmX6_round s m [.ref (a 0), .int pq1].toArray below meth c H locs 0 0 (MQ below (va_Qi (fun (r : Int32) (u : MZ) => (fun (r : Int32) _ => rAns pq1 r) r u ∧ MI (K) u) (fun u t => va_P K.1 vwCl (mZ K a u) t.heap ∧ va_D A (mZ K a u)) A) [.ref (a 0), .int pq1].toArray s 0 0 A) (F0 m 21 ls []) := by
    intro n21
    induction n21 with
    | zero =>
      intro thL umL smL sL uL kL iL wL fL cL yL tL H locs zq2 zq3 hP hD hS hMS hMU hMM hMR hMK hMZ i21_0 i21_1 i21_2 i21_3 hm21 ls hl
      exact absurd hm21 (Nat.not_lt_zero _)
    | succ n21 ih21 =>
      intro thL umL smL sL uL kL iL wL fL cL yL tL H locs zq2 zq3 hP hD hS hMS hMU hMM hMR hMK hMZ i21_0 i21_1 i21_2 i21_3 hm21 ls hl
      refine lv_iload_n hx hb dX6_round_21 rfl (lv_at hl 2 rfl) ?_
      refine lv_iconst (v := 1) hx hb dX6_round_22 (by decide) ?_
      refine lv_icmp_eq (tgt := 45) hx hb dX6_round_23 (by decide) (fun cq23 => ?_) (fun cq23 => ?_)
      · skip
        refine lv_iload_n hx hb dX6_round_45 rfl (lv_at hl 1 rfl) ?_
        exact W.iret (v := zq2) hx hb hr (fun t ht hW => ⟨⟨zq2, (thL, umL, smL, sL, uL, kL, iL, wL, fL, cL, yL, tL), rfl, ⟨Or.inr ⟨i21_0, i21_2.1, (by first | exact (cr_good (v := pq1 - 1) i21_0 i21_1 rfl).mpr (Or.inl cq23) | exact (cr_good i21_0 i21_1 eq29).mpr (Or.inr cq30)), i21_3⟩, ⟨hMS, hMU, hMM, hMR, hMK, hMZ⟩⟩, by rw [ht]; exact hP, hD⟩, hS.F ht⟩) hS.2.2 dX6_round_46
      · skip
        refine lv_iload_n hx hb dX6_round_26 rfl (lv_at hl 2 rfl) ?_
        refine lv_iload_n hx hb dX6_round_27 rfl (lv_at hl 0 rfl) ?_
        refine lv_iconst (v := 1) hx hb dX6_round_28 (by decide) ?_
        refine lv_isub hx hb dX6_round_29 ?_
        refine lv_topi (fun vq29 eq29 => ?_)
        refine lv_icmp_eq (tgt := 45) hx hb dX6_round_30 (by decide) (fun cq30 => ?_) (fun cq30 => ?_)
        · skip
          refine lv_iload_n hx hb dX6_round_45 rfl (lv_at hl 1 rfl) ?_
          exact W.iret (v := zq2) hx hb hr (fun t ht hW => ⟨⟨zq2, (thL, umL, smL, sL, uL, kL, iL, wL, fL, cL, yL, tL), rfl, ⟨Or.inr ⟨i21_0, i21_2.1, (by first | exact (cr_good (v := pq1 - 1) i21_0 i21_1 rfl).mpr (Or.inl cq23) | exact (cr_good i21_0 i21_1 eq29).mpr (Or.inr cq30)), i21_3⟩, ⟨hMS, hMU, hMM, hMR, hMK, hMZ⟩⟩, by rw [ht]; exact hP, hD⟩, hS.F ht⟩) hS.2.2 dX6_round_46
        · skip
          refine lv_iconst (v := 2) hx hb dX6_round_33 (by decide) ?_
          refine lv_iload_n hx hb dX6_round_34 rfl (lv_at hl 2 rfl) ?_
          refine lv_imul hx hb dX6_round_35 ?_
          refine lv_topi (fun vq35 eq35 => ?_)
          refine lv_iload_n hx hb dX6_round_36 rfl (lv_at hl 0 rfl) ?_
          refine lv_irem hx hb dX6_round_37 (fun q => by have h := i21_0.1; rw [q] at h; exact absurd h (by decide)) ?_
          refine lv_topi (fun vq37 eq37 => ?_)
          refine lv_istore_n (lv' := [(3, .int vq37), (1, .int pq1), (2, .int zq2)]) hx hb dX6_round_38 rfl hl (by decide) rfl (fun ls hl => ?_)
          obtain ⟨vq39, eq39⟩ : ∃ y : Int32, y = zq2 + 1 := ⟨_, rfl⟩
          refine lv_iinc (v := vq39) (lv' := [(2, .int vq39), (3, .int vq37), (1, .int pq1)]) hx hb dX6_round_39 hl (k := 2) rfl (by rw [eq39]; rfl) (by decide) rfl (fun ls hl => ?_)
          have hN9 := hN1 i21_0
          have hgo := rq_go i21_0.1 i21_1 hN9.2.2 (by omega) i21_2.2 cq23 eq29 cq30
          have hv39 := iq_add1 eq39 (by omega)
          refine lv_goto (tgt := 21) hx hb dX6_round_42 (by decide) ?_
          exact ih21 thL umL smL sL uL kL iL wL fL cL yL tL _ _ vq39 vq37 hP hD hS hMS hMU hMM hMR hMK hMZ (by first | exact i21_0 | exact (hp6.1.resolve_left cq9).2) (by first | exact rq_first (hp6.1.resolve_left cq9).2.1 eq19 | exact rq_step i21_0.1 i21_0.2.1 i21_2.1 (by omega) i21_1 eq35 eq37 eq39) (by first | (have h9 := hN1 (hp6.1.resolve_left cq9).2; exact ⟨by decide, by show (1 : Int) ≤ _; omega⟩) | exact ⟨by omega, by omega⟩) (by first | exact (fun m h1 h2 => absurd h2 (by show ¬ m < 1; omega)) | exact cr_next i21_2.1 i21_3 (fun q => ((cr_good i21_0 i21_1 eq29).mp q).elim cq23 cq30) hv39) (by omega) _ (lv_sub hl [2, 0, 1] rfl)
  refine lv_aload_n hx hb dX6_round_0 rfl (lv_at hl 0 rfl) ?_
  refine lv_iconst (v := 0) hx hb dX6_round_1 (by decide) ?_
  refine va_put (D := K.1) (ci := 6) (v := .int 0) (ty := .int) (C := RX6) (T := TX6) (N := 12) hx hb hts hinX6 tyX6 tyX6_ok nmX6 hown hK hP hD hS 0 rfl rfl 0 (by decide) (hts (.fieldLink RX6 39 "CodedWordsModel" "thrown" "I") (by decide +kernel)) (fun _ h9 => h9) rfl (by decide +kernel) rfl rfl (Nat.le_of_ble_eq_true rfl) dX6_round_2 (fun H locs hP hD hS => ?_)
  have hP : va_P K.1 vwCl (mW K a 0 um sm sA uA kA iA wA fA cA yA tA) H := hP
  have hD : va_D A (mW K a 0 um sm sA uA kA iA wA fA cA yA tA) := hD
  refine lv_iload_n hx hb dX6_round_5 rfl (lv_at hl 1 rfl) ?_
  refine r_i (va_runS (As := [.int pq1]) (rest := []) ⟨hx, hb, hml, hown, hts⟩ (k_X6_isConstant l pq1) (va_cwS 1 hts gX6_round_X6_isConstant rfl rfl rfl (by decide +kernel) ⟨Nat.le_of_ble_eq_true rfl, Nat.le_of_ble_eq_true rfl⟩) (pPreS) rfl rfl hl.1 rfl (lv_room (Nat.le_of_ble_eq_true rfl)) dX6_round_6 ⟨Nat.le_of_ble_eq_true rfl, Nat.le_of_ble_eq_true rfl⟩) hP hS (fun rq6 H locs hp6 hP hS => ?_)
  refine lv_if_ne (tgt := 15) hx hb dX6_round_9 (by decide) (fun cq9 => ?_) (fun cq9 => ?_)
  · skip
    refine lv_iconst (v := 1) hx hb dX6_round_15 (by decide) ?_
    refine lv_istore_n (lv' := [(2, .int 1), (0, .ref (a 0)), (1, .int pq1)]) hx hb dX6_round_16 rfl hl (by decide) rfl (fun ls hl => ?_)
    refine lv_iconst (v := 2) hx hb dX6_round_17 (by decide) ?_
    refine lv_iload_n hx hb dX6_round_18 rfl (lv_at hl 2 rfl) ?_
    refine lv_irem hx hb dX6_round_19 (fun q => by have h := (hp6.1.resolve_left cq9).2.1; rw [q] at h; exact absurd h (by decide)) ?_
    refine lv_topi (fun vq19 eq19 => ?_)
    refine lv_istore_n (lv' := [(3, .int vq19), (2, .int 1), (0, .ref (a 0)), (1, .int pq1)]) hx hb dX6_round_20 rfl hl (by decide) rfl (fun ls hl => ?_)
    exact hJ21 ((NN - (1 : Int32).toInt).toNat + 1) 0 um sm sA uA kA iA wA fA cA yA tA _ _ 1 vq19 hP hD hS hMS hMU hMM hMR hMK hMZ (by first | exact i21_0 | exact (hp6.1.resolve_left cq9).2) (by first | exact rq_first (hp6.1.resolve_left cq9).2.1 eq19 | exact rq_step i21_0.1 i21_0.2.1 i21_2.1 (by omega) i21_1 eq35 eq37 eq39) (by first | (have h9 := hN1 (hp6.1.resolve_left cq9).2; exact ⟨by decide, by show (1 : Int) ≤ _; omega⟩) | exact ⟨by omega, by omega⟩) (by first | exact (fun m h1 h2 => absurd h2 (by show ¬ m < 1; omega)) | exact cr_next i21_2.1 i21_3 (fun q => ((cr_good i21_0 i21_1 eq29).mp q).elim cq23 cq30) hv39) (Nat.lt_succ_self _) _ (lv_sub hl [3, 1, 0] rfl)
  · skip
    refine lv_ldc (v := (-1000001)) hx hb hown (hts (.constant RX6 71 (-1000001)) (by decide +kernel)) dX6_round_12 ?_
    exact W.iret (v := (-1000001)) hx hb hr (fun t ht hW => ⟨⟨(-1000001), (0, um, sm, sA, uA, kA, iA, wA, fA, cA, yA, tA), rfl, ⟨Or.inl ⟨hp6.2 cq9, rfl⟩, ⟨hMS, hMU, hMM, hMR, hMK, hMZ⟩⟩, by rw [ht]; exact hP, hD⟩, hS.F ht⟩) hS.2.2 dX6_round_14
abbrev rmX6_marks : Room := { frames := 0, cells := 0, slots := 0, locals := 0 }
set_option maxHeartbeats 4000000 in
set_option maxRecDepth 100000 in
theorem k_X6_marks (l : Launch) {K : Cx} {a : Nat → Nat} {th um sm : Int32} {sA uA kA iA wA fA cA : Nat → Int32} {yA tA : Nat → Int64} (hM : MI K (th, um, sm, sA, uA, kA, iA, wA, fA, cA, yA, tA)) (sz : Nat)   : Mi l K yX6_marks wsX6_marks rmX6_marks [.ref (a 0)] a (th, um, sm, sA, uA, kA, iA, wA, fA, cA, yA, tA) sz (fun (r : Int32) (u : MZ) => mkA (snK K) r u.2.2.2.2.2.2.2.2.2.1) := by
  refine Met.ofW (cc := cX6_marks) (maxL := 5) (ret := (some .int)) (by decide) rfl ?_
  intro p e s m args below meth c s₁ B hml hv
  obtain ⟨rfl, hsz, hP, hK, hD0, hN⟩ := hv
  have hx := B.exec
  have hb := B.bytes
  have hr := B.returns
  have hts := atoms_spec (ws := wsX6_marks) B.pre
  have hown : s.vm.findClass RX6 = some m.cls := findClass_of_methodNamed B.named
  have hlocks := B.notSynchronized
  have hinX6 : ∀ w ∈ wsX60, w ∈ wsX6_marks := by decide +kernel
  subst hsz
  have hD := hD0.self (sz := s.heap.size)
  generalize hAe : va_A (mZ K a (th, um, sm, sA, uA, kA, iA, wA, fA, cA, yA, tA)) s.heap.size = A at hD ⊢
  have hA : ∀ q : Nat, s.heap.size ≤ q → A q := fun q h => by rw [← hAe]; exact Or.inr h
  have hS : va_S A s.heap s.heap [] := va_S.rf
  have hP : va_P K.1 vwCl (mW K a th um sm sA uA kA iA wA fA cA yA tA) s.heap := hP
  have hD : va_D A (mW K a th um sm sA uA kA iA wA fA cA yA tA) := hD
  have hMS : okS sA := hM.1
  have hMU : okU um := hM.2.1
  have hMM : okM sm := hM.2.2.1
  have hMR : okR um uA := hM.2.2.2.1
  have hMK : okK kA iA := hM.2.2.2.2.1
  have hMZ : okZ K sm wA fA := hM.2.2.2.2.2
  have hl := lv_entry ([.ref (a 0)]) (n := 5) (Nat.le_of_ble_eq_true rfl)
  rw [lg_entry_eq]
  generalize (lg_sl ([.ref (a 0)]) ++ List.replicate (5 - (lg_sl ([.ref (a 0)])).length) Slot.unset).toArray = ls at hl ⊢
  have hl : lv_has ls 5 [(0, .ref (a 0))] := hl
  have hJ4 : ∀ (n4 : Nat) (cL : Nat → Int32) (H : Heap) (locs : List Loc) (zq1 : Int32) (zq2 : Int32), (va_P K.1 vwCl (mW K a th um sm sA uA kA iA wA fA cL yA tA) H) → (va_D A (mW K a th um sm sA uA kA iA wA fA cL yA tA)) → (va_S A s.heap H locs) → (okS sA) → (okU um) → (okM sm) → (okR um uA) → (okK kA iA) → (okZ K sm wA fA) → (3 ≤ zq2.toInt) → (maI (snK K) cL zq1 zq2) → ((2147483647 - zq2.toInt).toNat < n4) → ∀ (ls : Array Slot), lv_has ls 5 [(0, .ref (a 0)), (1, .int zq1), (2, .int zq2)] → W p l e rmX6_marks s m [.ref (a 0)].toArray below meth c H locs 0 0 (MQ below (va_Qi (fun (r : Int32) (u : MZ) => (fun (r : Int32) (u : MZ) => mkA (snK K) r u.2.2.2.2.2.2.2.2.2.1) r u ∧ MI (K) u) (fun u t => va_P K.1 vwCl (mZ K a u) t.heap ∧ va_D A (mZ K a u)) A) [.ref (a 0)].toArray s 0 0 A) (F0 m 4 ls []) := by
    intro n4
    induction n4 with
    | zero =>
      intro cL H locs zq1 zq2 hP hD hS hMS hMU hMM hMR hMK hMZ i4_0 i4_1 hm4 ls hl
      exact absurd hm4 (Nat.not_lt_zero _)
    | succ n4 ih4 =>
      intro cL H locs zq1 zq2 hP hD hS hMS hMU hMM hMR hMK hMZ i4_0 i4_1 hm4 ls hl
      have hJ16 : ∀ (n16 : Nat) (H : Heap) (locs : List Loc) (zq3 : Int32) (zq4 : Int32), (va_P K.1 vwCl (mW K a th um sm sA uA kA iA wA fA cL yA tA) H) → (va_D A (mW K a th um sm sA uA kA iA wA fA cL yA tA)) → (va_S A s.heap H locs) → (okS sA) → (okU um) → (okM sm) → (okR um uA) → (okK kA iA) → (okZ K sm wA fA) → (0 ≤ zq4.toInt) → (zq2.toInt < 200) → (mkI (snK K) zq2 zq3 zq4) → ((2147483647 - zq4.toInt).toNat < n16) → ∀ (ls : Array Slot), lv_has ls 5 [(0, .ref (a 0)), (1, .int zq1), (2, .int zq2), (3, .int zq3), (4, .int zq4)] → W p l e rmX6_marks s m [.ref (a 0)].toArray below meth c H locs 0 0 (MQ below (va_Qi (fun (r : Int32) (u : MZ) => (fun (r : Int32) (u : MZ) => mkA (snK K) r u.2.2.2.2.2.2.2.2.2.1) r u ∧ MI (K) u) (fun u t => va_P K.1 vwCl (mZ K a u) t.heap ∧ va_D A (mZ K a u)) A) [.ref (a 0)].toArray s 0 0 A) (F0 m 16 ls []) := by
        intro n16
        induction n16 with
        | zero =>
          intro H locs zq3 zq4 hP hD hS hMS hMU hMM hMR hMK hMZ i16_0 i16_1 i16_2 hm16 ls hl
          exact absurd hm16 (Nat.not_lt_zero _)
        | succ n16 ih16 =>
          intro H locs zq3 zq4 hP hD hS hMS hMU hMM hMR hMK hMZ i16_0 i16_1 i16_2 hm16 ls hl
          have hJ46 : ∀ (H : Heap) (locs : List Loc) (sk0 : Int32), (va_P K.1 vwCl (mW K a th um sm sA uA kA iA wA fA cL yA tA) H) → (va_D A (mW K a th um sm sA uA kA iA wA fA cL yA tA)) → (va_S A s.heap H locs) → (okS sA) → (okU um) → (okM sm) → (okR um uA) → (okK kA iA) → (okZ K sm wA fA) → (¬ sm ≤ zq4) → (mkS (snK K) zq2 zq4 sk0) → ∀ (ls : Array Slot), lv_has ls 5 [(0, .ref (a 0)), (1, .int zq1), (2, .int zq2), (4, .int zq4)] → W p l e rmX6_marks s m [.ref (a 0)].toArray below meth c H locs 0 0 (MQ below (va_Qi (fun (r : Int32) (u : MZ) => (fun (r : Int32) (u : MZ) => mkA (snK K) r u.2.2.2.2.2.2.2.2.2.1) r u ∧ MI (K) u) (fun u t => va_P K.1 vwCl (mZ K a u) t.heap ∧ va_D A (mZ K a u)) A) [.ref (a 0)].toArray s 0 0 A) (F0 m 46 ls [.int sk0]) := by
            intro H locs sk0 hP hD hS hMS hMU hMM hMR hMK hMZ i46_0 i46_1 ls hl
            refine lv_aload_n hx hb dX6_marks_46 rfl (lv_at hl 0 rfl) ?_
            refine va_get (D := K.1) (ci := 6) (v := .ref (a 6)) (C := RX6) (T := TX6) (N := 12) hx hb hts hinX6 hown hK hP 0 rfl rfl 7 (by decide) (hts (.fieldLink RX6 26 "CodedWordsModel" "seenFits" "[I") (by decide +kernel)) (fun _ h9 => h9) rfl dX6_marks_47 ?_
            refine lv_iload hx hb dX6_marks_50 (lv_at hl 3 rfl) ?_
            refine va_iald hx hb hK hP 6 0 rfl rfl (iq_inr i16_0 i46_0 hMM.2) dX6_marks_52 ?_
            refine lv_topi (fun vq52 eq52 => ?_)
            refine lv_iconst (v := 1) hx hb dX6_marks_53 (by decide) ?_
            refine lv_icmp_ne (tgt := 61) hx hb dX6_marks_54 (by decide) (fun cq54 => ?_) (fun cq54 => ?_)
            · skip
              refine lv_iconst (v := 0) hx hb dX6_marks_61 (by decide) ?_
              refine lv_icmp_ne (tgt := 69) hx hb dX6_marks_62 (by decide) (fun cq62 => ?_) (fun cq62 => ?_)
              · skip
                refine lv_iconst (v := 0) hx hb dX6_marks_69 (by decide) ?_
                refine lv_istore_n (lv' := [(3, .int 0), (0, .ref (a 0)), (1, .int zq1), (2, .int zq2), (4, .int zq4)]) hx hb dX6_marks_70 rfl hl (by decide) rfl (fun ls hl => ?_)
                obtain ⟨vq71, eq71⟩ : ∃ y : Int32, y = zq4 + 1 := ⟨_, rfl⟩
                refine lv_iinc (v := vq71) (lv' := [(4, .int vq71), (3, .int 0), (0, .ref (a 0)), (1, .int zq1), (2, .int zq2)]) hx hb dX6_marks_71 hl (k := 4) rfl (by rw [eq71]; rfl) (by decide) rfl (fun ls hl => ?_)
                refine lv_goto (tgt := 16) hx hb dX6_marks_74 (by decide) ?_
                exact ih16 _ _ 0 vq71 hP hD hS hMS hMU hMM hMR hMK hMZ (by first | exact iq_nn1 i16_0 cq22 eq71 | exact iq_nn1 i16_0 i46_0 eq71 | decide) (by first | exact i16_1 | (rw [iq_le] at cq8; exact Int.not_le.mp cq8)) (by first | exact mkI_step (cb := 0) (x := 0) i46_1 hMZ.2.2.2 (by omega) hMZ.2.2.1 eq52 (Or.inr ⟨cq54, rfl⟩) (Or.inr ⟨cq62, rfl⟩) eq71 | exact mkI_step (cb := 0) (x := 1) i46_1 hMZ.2.2.2 (by omega) hMZ.2.2.1 eq52 (Or.inr ⟨cq54, rfl⟩) (Or.inl ⟨cq62, rfl⟩) eq71 | exact mkI_step (cb := 1) (x := 0) i46_1 hMZ.2.2.2 (by omega) hMZ.2.2.1 eq52 (Or.inl ⟨cq54, rfl⟩) (Or.inr ⟨cq62, rfl⟩) eq71 | exact mkI_step (cb := 1) (x := 1) i46_1 hMZ.2.2.2 (by omega) hMZ.2.2.1 eq52 (Or.inl ⟨cq54, rfl⟩) (Or.inl ⟨cq62, rfl⟩) eq71 | exact mkI_zero i16_2 hMZ.2.2.2 cq26 (mk_lt hMZ.1 cq22) eq71 | exact mkI_0 hMZ.2.2.2) (by first | exact iq_up hm16 cq22 eq71 | exact iq_up hm16 i46_0 eq71) _ (lv_sub hl [2, 3, 4, 1, 0] rfl)
              · skip
                refine lv_iconst (v := 1) hx hb dX6_marks_65 (by decide) ?_
                refine lv_goto (tgt := 70) hx hb dX6_marks_66 (by decide) ?_
                refine lv_istore_n (lv' := [(3, .int 1), (0, .ref (a 0)), (1, .int zq1), (2, .int zq2), (4, .int zq4)]) hx hb dX6_marks_70 rfl hl (by decide) rfl (fun ls hl => ?_)
                obtain ⟨vq71, eq71⟩ : ∃ y : Int32, y = zq4 + 1 := ⟨_, rfl⟩
                refine lv_iinc (v := vq71) (lv' := [(4, .int vq71), (3, .int 1), (0, .ref (a 0)), (1, .int zq1), (2, .int zq2)]) hx hb dX6_marks_71 hl (k := 4) rfl (by rw [eq71]; rfl) (by decide) rfl (fun ls hl => ?_)
                refine lv_goto (tgt := 16) hx hb dX6_marks_74 (by decide) ?_
                exact ih16 _ _ 1 vq71 hP hD hS hMS hMU hMM hMR hMK hMZ (by first | exact iq_nn1 i16_0 cq22 eq71 | exact iq_nn1 i16_0 i46_0 eq71 | decide) (by first | exact i16_1 | (rw [iq_le] at cq8; exact Int.not_le.mp cq8)) (by first | exact mkI_step (cb := 0) (x := 0) i46_1 hMZ.2.2.2 (by omega) hMZ.2.2.1 eq52 (Or.inr ⟨cq54, rfl⟩) (Or.inr ⟨cq62, rfl⟩) eq71 | exact mkI_step (cb := 0) (x := 1) i46_1 hMZ.2.2.2 (by omega) hMZ.2.2.1 eq52 (Or.inr ⟨cq54, rfl⟩) (Or.inl ⟨cq62, rfl⟩) eq71 | exact mkI_step (cb := 1) (x := 0) i46_1 hMZ.2.2.2 (by omega) hMZ.2.2.1 eq52 (Or.inl ⟨cq54, rfl⟩) (Or.inr ⟨cq62, rfl⟩) eq71 | exact mkI_step (cb := 1) (x := 1) i46_1 hMZ.2.2.2 (by omega) hMZ.2.2.1 eq52 (Or.inl ⟨cq54, rfl⟩) (Or.inl ⟨cq62, rfl⟩) eq71 | exact mkI_zero i16_2 hMZ.2.2.2 cq26 (mk_lt hMZ.1 cq22) eq71 | exact mkI_0 hMZ.2.2.2) (by first | exact iq_up hm16 cq22 eq71 | exact iq_up hm16 i46_0 eq71) _ (lv_sub hl [2, 3, 4, 1, 0] rfl)
            · skip
              refine lv_iconst (v := 1) hx hb dX6_marks_57 (by decide) ?_
              refine lv_goto (tgt := 62) hx hb dX6_marks_58 (by decide) ?_
              refine lv_icmp_ne (tgt := 69) hx hb dX6_marks_62 (by decide) (fun cq62 => ?_) (fun cq62 => ?_)
              · skip
                refine lv_iconst (v := 0) hx hb dX6_marks_69 (by decide) ?_
                refine lv_istore_n (lv' := [(3, .int 0), (0, .ref (a 0)), (1, .int zq1), (2, .int zq2), (4, .int zq4)]) hx hb dX6_marks_70 rfl hl (by decide) rfl (fun ls hl => ?_)
                obtain ⟨vq71, eq71⟩ : ∃ y : Int32, y = zq4 + 1 := ⟨_, rfl⟩
                refine lv_iinc (v := vq71) (lv' := [(4, .int vq71), (3, .int 0), (0, .ref (a 0)), (1, .int zq1), (2, .int zq2)]) hx hb dX6_marks_71 hl (k := 4) rfl (by rw [eq71]; rfl) (by decide) rfl (fun ls hl => ?_)
                refine lv_goto (tgt := 16) hx hb dX6_marks_74 (by decide) ?_
                exact ih16 _ _ 0 vq71 hP hD hS hMS hMU hMM hMR hMK hMZ (by first | exact iq_nn1 i16_0 cq22 eq71 | exact iq_nn1 i16_0 i46_0 eq71 | decide) (by first | exact i16_1 | (rw [iq_le] at cq8; exact Int.not_le.mp cq8)) (by first | exact mkI_step (cb := 0) (x := 0) i46_1 hMZ.2.2.2 (by omega) hMZ.2.2.1 eq52 (Or.inr ⟨cq54, rfl⟩) (Or.inr ⟨cq62, rfl⟩) eq71 | exact mkI_step (cb := 0) (x := 1) i46_1 hMZ.2.2.2 (by omega) hMZ.2.2.1 eq52 (Or.inr ⟨cq54, rfl⟩) (Or.inl ⟨cq62, rfl⟩) eq71 | exact mkI_step (cb := 1) (x := 0) i46_1 hMZ.2.2.2 (by omega) hMZ.2.2.1 eq52 (Or.inl ⟨cq54, rfl⟩) (Or.inr ⟨cq62, rfl⟩) eq71 | exact mkI_step (cb := 1) (x := 1) i46_1 hMZ.2.2.2 (by omega) hMZ.2.2.1 eq52 (Or.inl ⟨cq54, rfl⟩) (Or.inl ⟨cq62, rfl⟩) eq71 | exact mkI_zero i16_2 hMZ.2.2.2 cq26 (mk_lt hMZ.1 cq22) eq71 | exact mkI_0 hMZ.2.2.2) (by first | exact iq_up hm16 cq22 eq71 | exact iq_up hm16 i46_0 eq71) _ (lv_sub hl [2, 3, 4, 1, 0] rfl)
              · skip
                refine lv_iconst (v := 1) hx hb dX6_marks_65 (by decide) ?_
                refine lv_goto (tgt := 70) hx hb dX6_marks_66 (by decide) ?_
                refine lv_istore_n (lv' := [(3, .int 1), (0, .ref (a 0)), (1, .int zq1), (2, .int zq2), (4, .int zq4)]) hx hb dX6_marks_70 rfl hl (by decide) rfl (fun ls hl => ?_)
                obtain ⟨vq71, eq71⟩ : ∃ y : Int32, y = zq4 + 1 := ⟨_, rfl⟩
                refine lv_iinc (v := vq71) (lv' := [(4, .int vq71), (3, .int 1), (0, .ref (a 0)), (1, .int zq1), (2, .int zq2)]) hx hb dX6_marks_71 hl (k := 4) rfl (by rw [eq71]; rfl) (by decide) rfl (fun ls hl => ?_)
                refine lv_goto (tgt := 16) hx hb dX6_marks_74 (by decide) ?_
                exact ih16 _ _ 1 vq71 hP hD hS hMS hMU hMM hMR hMK hMZ (by first | exact iq_nn1 i16_0 cq22 eq71 | exact iq_nn1 i16_0 i46_0 eq71 | decide) (by first | exact i16_1 | (rw [iq_le] at cq8; exact Int.not_le.mp cq8)) (by first | exact mkI_step (cb := 0) (x := 0) i46_1 hMZ.2.2.2 (by omega) hMZ.2.2.1 eq52 (Or.inr ⟨cq54, rfl⟩) (Or.inr ⟨cq62, rfl⟩) eq71 | exact mkI_step (cb := 0) (x := 1) i46_1 hMZ.2.2.2 (by omega) hMZ.2.2.1 eq52 (Or.inr ⟨cq54, rfl⟩) (Or.inl ⟨cq62, rfl⟩) eq71 | exact mkI_step (cb := 1) (x := 0) i46_1 hMZ.2.2.2 (by omega) hMZ.2.2.1 eq52 (Or.inl ⟨cq54, rfl⟩) (Or.inr ⟨cq62, rfl⟩) eq71 | exact mkI_step (cb := 1) (x := 1) i46_1 hMZ.2.2.2 (by omega) hMZ.2.2.1 eq52 (Or.inl ⟨cq54, rfl⟩) (Or.inl ⟨cq62, rfl⟩) eq71 | exact mkI_zero i16_2 hMZ.2.2.2 cq26 (mk_lt hMZ.1 cq22) eq71 | exact mkI_0 hMZ.2.2.2) (by first | exact iq_up hm16 cq22 eq71 | exact iq_up hm16 i46_0 eq71) _ (lv_sub hl [2, 3, 4, 1, 0] rfl)
          refine lv_iload hx hb dX6_marks_16 (lv_at hl 4 rfl) ?_
          refine lv_aload_n hx hb dX6_marks_18 rfl (lv_at hl 0 rfl) ?_
          refine va_get (D := K.1) (ci := 6) (v := .int sm) (C := RX6) (T := TX6) (N := 12) hx hb hts hinX6 hown hK hP 0 rfl rfl 8 (by decide) (hts (.fieldLink RX6 124 "CodedWordsModel" "seenMany" "I") (by decide +kernel)) (fun _ h9 => h9) rfl dX6_marks_19 ?_
          refine lv_icmp_ge (tgt := 77) hx hb dX6_marks_22 (by decide) (fun cq22 => ?_) (fun cq22 => ?_)
          · skip
            refine lv_aload_n hx hb dX6_marks_77 rfl (lv_at hl 0 rfl) ?_
            refine va_get (D := K.1) (ci := 6) (v := .ref (a 9)) (C := RX6) (T := TX6) (N := 12) hx hb hts hinX6 hown hK hP 0 rfl rfl 11 (by decide) (hts (.fieldLink RX6 36 "CodedWordsModel" "can" "[Z") (by decide +kernel)) (fun _ h9 => h9) rfl dX6_marks_78 ?_
            refine lv_iload_n hx hb dX6_marks_81 rfl (lv_at hl 2 rfl) ?_
            refine lv_iload_n hx hb dX6_marks_82 rfl (lv_at hl 3 rfl) ?_
            refine va_zast hx hb hK hP hD hS 9 2 rfl rfl (iq_in (by omega) (by omega)) dX6_marks_83 (fun H locs hP hD hS => ?_)
            have hP : va_P K.1 vwCl (mW K a th um sm sA uA kA iA wA fA (upd cL (zq2 : Int32).toNatClampNeg (vp_nar .boolean zq3)) yA tA) H := hP
            have hD : va_D A (mW K a th um sm sA uA kA iA wA fA (upd cL (zq2 : Int32).toNatClampNeg (vp_nar .boolean zq3)) yA tA) := hD
            generalize en83 : upd cL (zq2 : Int32).toNatClampNeg (vp_nar .boolean zq3) = cN83 at hP hD
            refine lv_iload_n hx hb dX6_marks_84 rfl (lv_at hl 1 rfl) ?_
            refine lv_iload_n hx hb dX6_marks_85 rfl (lv_at hl 3 rfl) ?_
            refine lv_if_eq (tgt := 93) hx hb dX6_marks_86 (by decide) (fun cq86 => ?_) (fun cq86 => ?_)
            · skip
              refine lv_iconst (v := 0) hx hb dX6_marks_93 (by decide) ?_
              refine lv_iadd hx hb dX6_marks_94 ?_
              refine lv_topi (fun vq94 eq94 => ?_)
              refine lv_istore_n (lv' := [(1, .int vq94), (0, .ref (a 0)), (2, .int zq2), (3, .int zq3), (4, .int zq4)]) hx hb dX6_marks_95 rfl hl (by decide) rfl (fun ls hl => ?_)
              obtain ⟨vq96, eq96⟩ : ∃ y : Int32, y = zq2 + 2 := ⟨_, rfl⟩
              refine lv_iinc (v := vq96) (lv' := [(2, .int vq96), (1, .int vq94), (0, .ref (a 0)), (3, .int zq3), (4, .int zq4)]) hx hb dX6_marks_96 hl (k := 2) rfl (by rw [eq96]; rfl) (by decide) rfl (fun ls hl => ?_)
              refine lv_goto (tgt := 4) hx hb dX6_marks_99 (by decide) ?_
              exact ih4 cN83 _ _ vq94 vq96 hP hD hS hMS hMU hMM hMR hMK hMZ (by first | (have h := iq_add2 eq96 (by omega); omega) | decide) (by first | exact maI_next i4_1 i16_1 i16_2 (by rw [iq_le, hMZ.1] at cq22; exact cq22) en83 (Or.inl ⟨cq86, eq94⟩) eq96 | exact maI_next i4_1 i16_1 i16_2 (by rw [iq_le, hMZ.1] at cq22; exact cq22) en83 (Or.inr ⟨cq86, eq94⟩) eq96 | exact maI_0) (iq_upm2 hm4 i16_1 eq96) _ (lv_sub hl [2, 1, 0] rfl)
            · skip
              refine lv_iconst (v := 1) hx hb dX6_marks_89 (by decide) ?_
              refine lv_goto (tgt := 94) hx hb dX6_marks_90 (by decide) ?_
              refine lv_iadd hx hb dX6_marks_94 ?_
              refine lv_topi (fun vq94 eq94 => ?_)
              refine lv_istore_n (lv' := [(1, .int vq94), (0, .ref (a 0)), (2, .int zq2), (3, .int zq3), (4, .int zq4)]) hx hb dX6_marks_95 rfl hl (by decide) rfl (fun ls hl => ?_)
              obtain ⟨vq96, eq96⟩ : ∃ y : Int32, y = zq2 + 2 := ⟨_, rfl⟩
              refine lv_iinc (v := vq96) (lv' := [(2, .int vq96), (1, .int vq94), (0, .ref (a 0)), (3, .int zq3), (4, .int zq4)]) hx hb dX6_marks_96 hl (k := 2) rfl (by rw [eq96]; rfl) (by decide) rfl (fun ls hl => ?_)
              refine lv_goto (tgt := 4) hx hb dX6_marks_99 (by decide) ?_
              exact ih4 cN83 _ _ vq94 vq96 hP hD hS hMS hMU hMM hMR hMK hMZ (by first | (have h := iq_add2 eq96 (by omega); omega) | decide) (by first | exact maI_next i4_1 i16_1 i16_2 (by rw [iq_le, hMZ.1] at cq22; exact cq22) en83 (Or.inl ⟨cq86, eq94⟩) eq96 | exact maI_next i4_1 i16_1 i16_2 (by rw [iq_le, hMZ.1] at cq22; exact cq22) en83 (Or.inr ⟨cq86, eq94⟩) eq96 | exact maI_0) (iq_upm2 hm4 i16_1 eq96) _ (lv_sub hl [2, 1, 0] rfl)
          · skip
            refine lv_iload_n hx hb dX6_marks_25 rfl (lv_at hl 3 rfl) ?_
            refine lv_if_eq (tgt := 69) hx hb dX6_marks_26 (by decide) (fun cq26 => ?_) (fun cq26 => ?_)
            · skip
              refine lv_iconst (v := 0) hx hb dX6_marks_69 (by decide) ?_
              refine lv_istore_n (lv' := [(3, .int 0), (0, .ref (a 0)), (1, .int zq1), (2, .int zq2), (4, .int zq4)]) hx hb dX6_marks_70 rfl hl (by decide) rfl (fun ls hl => ?_)
              obtain ⟨vq71, eq71⟩ : ∃ y : Int32, y = zq4 + 1 := ⟨_, rfl⟩
              refine lv_iinc (v := vq71) (lv' := [(4, .int vq71), (3, .int 0), (0, .ref (a 0)), (1, .int zq1), (2, .int zq2)]) hx hb dX6_marks_71 hl (k := 4) rfl (by rw [eq71]; rfl) (by decide) rfl (fun ls hl => ?_)
              refine lv_goto (tgt := 16) hx hb dX6_marks_74 (by decide) ?_
              exact ih16 _ _ 0 vq71 hP hD hS hMS hMU hMM hMR hMK hMZ (by first | exact iq_nn1 i16_0 cq22 eq71 | exact iq_nn1 i16_0 i46_0 eq71 | decide) (by first | exact i16_1 | (rw [iq_le] at cq8; exact Int.not_le.mp cq8)) (by first | exact mkI_step (cb := 0) (x := 0) i46_1 hMZ.2.2.2 (by omega) hMZ.2.2.1 eq52 (Or.inr ⟨cq54, rfl⟩) (Or.inr ⟨cq62, rfl⟩) eq71 | exact mkI_step (cb := 0) (x := 1) i46_1 hMZ.2.2.2 (by omega) hMZ.2.2.1 eq52 (Or.inr ⟨cq54, rfl⟩) (Or.inl ⟨cq62, rfl⟩) eq71 | exact mkI_step (cb := 1) (x := 0) i46_1 hMZ.2.2.2 (by omega) hMZ.2.2.1 eq52 (Or.inl ⟨cq54, rfl⟩) (Or.inr ⟨cq62, rfl⟩) eq71 | exact mkI_step (cb := 1) (x := 1) i46_1 hMZ.2.2.2 (by omega) hMZ.2.2.1 eq52 (Or.inl ⟨cq54, rfl⟩) (Or.inl ⟨cq62, rfl⟩) eq71 | exact mkI_zero i16_2 hMZ.2.2.2 cq26 (mk_lt hMZ.1 cq22) eq71 | exact mkI_0 hMZ.2.2.2) (by first | exact iq_up hm16 cq22 eq71 | exact iq_up hm16 i46_0 eq71) _ (lv_sub hl [2, 3, 4, 1, 0] rfl)
            · skip
              refine lv_aload_n hx hb dX6_marks_29 rfl (lv_at hl 0 rfl) ?_
              refine va_get (D := K.1) (ci := 6) (v := .ref (a 5)) (C := RX6) (T := TX6) (N := 12) hx hb hts hinX6 hown hK hP 0 rfl rfl 6 (by decide) (hts (.fieldLink RX6 23 "CodedWordsModel" "seenWord" "[I") (by decide +kernel)) (fun _ h9 => h9) rfl dX6_marks_30 ?_
              refine lv_iload hx hb dX6_marks_33 (lv_at hl 4 rfl) ?_
              refine va_iald hx hb hK hP 5 0 rfl rfl (iq_inr i16_0 cq22 hMM.2) dX6_marks_35 ?_
              refine lv_topi (fun vq35 eq35 => ?_)
              refine lv_iload_n hx hb dX6_marks_36 rfl (lv_at hl 2 rfl) ?_
              refine lv_irem hx hb dX6_marks_37 (fun q => by rw [q] at i4_0; exact absurd i4_0 (by decide)) ?_
              refine lv_topi (fun vq37 eq37 => ?_)
              refine lv_if_ne (tgt := 45) hx hb dX6_marks_38 (by decide) (fun cq38 => ?_) (fun cq38 => ?_)
              · skip
                refine lv_iconst (v := 0) hx hb dX6_marks_45 (by decide) ?_
                exact hJ46 _ _ 0 hP hD hS hMS hMU hMM hMR hMK hMZ (cq22) (by first | exact mkS_of i16_2 hMZ.2.2.2 cq26 (mk_lt hMZ.1 cq22) hMZ.2.1 eq35 eq37 (Or.inl ⟨cq38, rfl⟩) | exact mkS_of i16_2 hMZ.2.2.2 cq26 (mk_lt hMZ.1 cq22) hMZ.2.1 eq35 eq37 (Or.inr ⟨cq38, rfl⟩)) _ (lv_sub hl [0, 1, 2, 4] rfl)
              · skip
                refine lv_iconst (v := 1) hx hb dX6_marks_41 (by decide) ?_
                refine lv_goto (tgt := 46) hx hb dX6_marks_42 (by decide) ?_
                exact hJ46 _ _ 1 hP hD hS hMS hMU hMM hMR hMK hMZ (cq22) (by first | exact mkS_of i16_2 hMZ.2.2.2 cq26 (mk_lt hMZ.1 cq22) hMZ.2.1 eq35 eq37 (Or.inl ⟨cq38, rfl⟩) | exact mkS_of i16_2 hMZ.2.2.2 cq26 (mk_lt hMZ.1 cq22) hMZ.2.1 eq35 eq37 (Or.inr ⟨cq38, rfl⟩)) _ (lv_sub hl [0, 1, 2, 4] rfl)
      refine lv_iload_n hx hb dX6_marks_4 rfl (lv_at hl 2 rfl) ?_
      refine lv_sipush (v := 200) hx hb dX6_marks_5 (by decide) ?_
      refine lv_icmp_ge (tgt := 102) hx hb dX6_marks_8 (by decide) (fun cq8 => ?_) (fun cq8 => ?_)
      · skip
        refine lv_iload_n hx hb dX6_marks_102 rfl (lv_at hl 1 rfl) ?_
        exact W.iret (v := zq1) hx hb hr (fun t ht hW => ⟨⟨zq1, (th, um, sm, sA, uA, kA, iA, wA, fA, cL, yA, tA), rfl, ⟨maI_end i4_1 cq8, ⟨hMS, hMU, hMM, hMR, hMK, hMZ⟩⟩, by rw [ht]; exact hP, hD⟩, hS.F ht⟩) hS.2.2 dX6_marks_103
      · skip
        refine lv_iconst (v := 1) hx hb dX6_marks_11 (by decide) ?_
        refine lv_istore_n (lv' := [(3, .int 1), (0, .ref (a 0)), (1, .int zq1), (2, .int zq2)]) hx hb dX6_marks_12 rfl hl (by decide) rfl (fun ls hl => ?_)
        refine lv_iconst (v := 0) hx hb dX6_marks_13 (by decide) ?_
        refine lv_istore (lv' := [(4, .int 0), (3, .int 1), (0, .ref (a 0)), (1, .int zq1), (2, .int zq2)]) hx hb dX6_marks_14 hl (by decide) rfl (fun ls hl => ?_)
        exact hJ16 ((2147483647 - (0 : Int32).toInt).toNat + 1) _ _ 1 0 hP hD hS hMS hMU hMM hMR hMK hMZ (by first | exact iq_nn1 i16_0 cq22 eq71 | exact iq_nn1 i16_0 i46_0 eq71 | decide) (by first | exact i16_1 | (rw [iq_le] at cq8; exact Int.not_le.mp cq8)) (by first | exact mkI_step (cb := 0) (x := 0) i46_1 hMZ.2.2.2 (by omega) hMZ.2.2.1 eq52 (Or.inr ⟨cq54, rfl⟩) (Or.inr ⟨cq62, rfl⟩) eq71 | exact mkI_step (cb := 0) (x := 1) i46_1 hMZ.2.2.2 (by omega) hMZ.2.2.1 eq52 (Or.inr ⟨cq54, rfl⟩) (Or.inl ⟨cq62, rfl⟩) eq71 | exact mkI_step (cb := 1) (x := 0) i46_1 hMZ.2.2.2 (by omega) hMZ.2.2.1 eq52 (Or.inl ⟨cq54, rfl⟩) (Or.inr ⟨cq62, rfl⟩) eq71 | exact mkI_step (cb := 1) (x := 1) i46_1 hMZ.2.2.2 (by omega) hMZ.2.2.1 eq52 (Or.inl ⟨cq54, rfl⟩) (Or.inl ⟨cq62, rfl⟩) eq71 | exact mkI_zero i16_2 hMZ.2.2.2 cq26 (mk_lt hMZ.1 cq22) eq71 | exact mkI_0 hMZ.2.2.2) (Nat.lt_succ_self _) _ (lv_sub hl [2, 3, 4, 1, 0] rfl)
  refine lv_iconst (v := 0) hx hb dX6_marks_0 (by decide) ?_
  refine lv_istore_n (lv' := [(1, .int 0), (0, .ref (a 0))]) hx hb dX6_marks_1 rfl hl (by decide) rfl (fun ls hl => ?_)
  refine lv_iconst (v := 3) hx hb dX6_marks_2 (by decide) ?_
  refine lv_istore_n (lv' := [(2, .int 3), (1, .int 0), (0, .ref (a 0))]) hx hb dX6_marks_3 rfl hl (by decide) rfl (fun ls hl => ?_)
  exact hJ4 ((2147483647 - (3 : Int32).toInt).toNat + 1) cA _ _ 0 3 hP hD hS hMS hMU hMM hMR hMK hMZ (by first | (have h := iq_add2 eq96 (by omega); omega) | decide) (by first | exact maI_next i4_1 i16_1 i16_2 (by rw [iq_le, hMZ.1] at cq22; exact cq22) en83 (Or.inl ⟨cq86, eq94⟩) eq96 | exact maI_next i4_1 i16_1 i16_2 (by rw [iq_le, hMZ.1] at cq22; exact cq22) en83 (Or.inr ⟨cq86, eq94⟩) eq96 | exact maI_0) (Nat.lt_succ_self _) _ (lv_sub hl [2, 1, 0] rfl)
abbrev rmX6_unseen : Room := { frames := 1, cells := 0, slots := 0, locals := 24 }
set_option maxHeartbeats 4000000 in
set_option maxRecDepth 100000 in
theorem k_X6_unseen (l : Launch) {K : Cx} {a : Nat → Nat} {th um sm : Int32} {sA uA kA iA wA fA cA : Nat → Int32} {yA tA : Nat → Int64} (hM : MI K (th, um, sm, sA, uA, kA, iA, wA, fA, cA, yA, tA)) (sz : Nat) (pq1 : Int32)  : Mi l K yX6_unseen wsX6_unseen rmX6_unseen [.ref (a 0), .int pq1] a (th, um, sm, sA, uA, kA, iA, wA, fA, cA, yA, tA) sz (fun (r : Int32) _ => unA (snK K) pq1 r) := by
  refine Met.ofW (cc := cX6_unseen) (maxL := 4) (ret := (some .int)) (by decide) rfl ?_
  intro p e s m args below meth c s₁ B hml hv
  obtain ⟨rfl, hsz, hP, hK, hD0, hN⟩ := hv
  have hx := B.exec
  have hb := B.bytes
  have hr := B.returns
  have hts := atoms_spec (ws := wsX6_unseen) B.pre
  have hown : s.vm.findClass RX6 = some m.cls := findClass_of_methodNamed B.named
  have hlocks := B.notSynchronized
  have hinX6 : ∀ w ∈ wsX60, w ∈ wsX6_unseen := by decide +kernel
  subst hsz
  have hD := hD0.self (sz := s.heap.size)
  generalize hAe : va_A (mZ K a (th, um, sm, sA, uA, kA, iA, wA, fA, cA, yA, tA)) s.heap.size = A at hD ⊢
  have hA : ∀ q : Nat, s.heap.size ≤ q → A q := fun q h => by rw [← hAe]; exact Or.inr h
  have hS : va_S A s.heap s.heap [] := va_S.rf
  have hP : va_P K.1 vwCl (mW K a th um sm sA uA kA iA wA fA cA yA tA) s.heap := hP
  have hD : va_D A (mW K a th um sm sA uA kA iA wA fA cA yA tA) := hD
  have hMS : okS sA := hM.1
  have hMU : okU um := hM.2.1
  have hMM : okM sm := hM.2.2.1
  have hMR : okR um uA := hM.2.2.2.1
  have hMK : okK kA iA := hM.2.2.2.2.1
  have hMZ : okZ K sm wA fA := hM.2.2.2.2.2
  have hl := lv_entry ([.ref (a 0), .int pq1]) (n := 4) (Nat.le_of_ble_eq_true rfl)
  rw [lg_entry_eq]
  generalize (lg_sl ([.ref (a 0), .int pq1]) ++ List.replicate (4 - (lg_sl ([.ref (a 0), .int pq1])).length) Slot.unset).toArray = ls at hl ⊢
  have hl : lv_has ls 4 [(0, .ref (a 0)), (1, .int pq1)] := hl
  have hJ46 : ∀ (thL : Int32) (umL : Int32) (smL : Int32) (sL : Nat → Int32) (uL : Nat → Int32) (kL : Nat → Int32) (iL : Nat → Int32) (wL : Nat → Int32) (fL : Nat → Int32) (cL : Nat → Int32) (yL : Nat → Int64) (tL : Nat → Int64) (H : Heap) (locs : List Loc) (zq2 : Int32) (zq3 : Int32), (va_P K.1 vwCl (mW K a thL umL smL sL uL kL iL wL fL cL yL tL) H) → (va_D A (mW K a thL umL smL sL uL kL iL wL fL cL yL tL)) → (va_S A s.heap H locs) → (okS sL) → (okU umL) → (okM smL) → (okR umL uL) → (okK kL iL) → (okZ K smL wL fL) → (zq2.toInt = ((opL (snK K) 99).length : Int)) → (frI (snK K) zq3) → (0 ≤ pq1.toInt ∧ pq1.toInt ≤ 1) → ∀ (ls : Array Slot), lv_has ls 4 [(1, .int pq1), (2, .int zq2), (3, .int zq3)] → W p l e rmX6_unseen s m [.ref (a 0), .int pq1].toArray below meth c H locs 0 0 (MQ below (va_Qi (fun (r : Int32) (u : MZ) => (fun (r : Int32) _ => unA (snK K) pq1 r) r u ∧ MI (K) u) (fun u t => va_P K.1 vwCl (mZ K a u) t.heap ∧ va_D A (mZ K a u)) A) [.ref (a 0), .int pq1].toArray s 0 0 A) (F0 m 46 ls []) := by
    intro thL umL smL sL uL kL iL wL fL cL yL tL H locs zq2 zq3 hP hD hS hMS hMU hMM hMR hMK hMZ i46_0 i46_1 i46_2 ls hl
    refine lv_iload_n hx hb dX6_unseen_46 rfl (lv_at hl 0 rfl) ?_
    refine lv_if_ne (tgt := 54) hx hb dX6_unseen_47 (by decide) (fun cq47 => ?_) (fun cq47 => ?_)
    · skip
      refine lv_iload_n hx hb dX6_unseen_54 rfl (lv_at hl 2 rfl) ?_
      refine lv_sipush (v := 200) hx hb dX6_unseen_55 (by decide) ?_
      refine lv_icmp_ge (tgt := 65) hx hb dX6_unseen_58 (by decide) (fun cq58 => ?_) (fun cq58 => ?_)
      · skip
        refine lv_ldc (v := (-1000000)) hx hb hown (hts (.constant RX6 110 (-1000000)) (by decide +kernel)) dX6_unseen_65 ?_
        exact W.iret (v := (-1000000)) hx hb hr (fun t ht hW => ⟨⟨(-1000000), (thL, umL, smL, sL, uL, kL, iL, wL, fL, cL, yL, tL), rfl, ⟨unA_m i46_2 i46_0 (by first | exact Or.inl ⟨cq47, rfl⟩ | exact Or.inr ⟨cq47, loA_m0 i46_1 cq58⟩ | exact Or.inr ⟨cq47, loA_m1 i46_1 cq58⟩), ⟨hMS, hMU, hMM, hMR, hMK, hMZ⟩⟩, by rw [ht]; exact hP, hD⟩, hS.F ht⟩) hS.2.2 dX6_unseen_67
      · skip
        refine lv_iload_n hx hb dX6_unseen_61 rfl (lv_at hl 2 rfl) ?_
        refine lv_goto (tgt := 67) hx hb dX6_unseen_62 (by decide) ?_
        exact W.iret (v := zq3) hx hb hr (fun t ht hW => ⟨⟨zq3, (thL, umL, smL, sL, uL, kL, iL, wL, fL, cL, yL, tL), rfl, ⟨unA_m i46_2 i46_0 (by first | exact Or.inl ⟨cq47, rfl⟩ | exact Or.inr ⟨cq47, loA_m0 i46_1 cq58⟩ | exact Or.inr ⟨cq47, loA_m1 i46_1 cq58⟩), ⟨hMS, hMU, hMM, hMR, hMK, hMZ⟩⟩, by rw [ht]; exact hP, hD⟩, hS.F ht⟩) hS.2.2 dX6_unseen_67
    · skip
      refine lv_iload_n hx hb dX6_unseen_50 rfl (lv_at hl 1 rfl) ?_
      refine lv_goto (tgt := 67) hx hb dX6_unseen_51 (by decide) ?_
      exact W.iret (v := zq2) hx hb hr (fun t ht hW => ⟨⟨zq2, (thL, umL, smL, sL, uL, kL, iL, wL, fL, cL, yL, tL), rfl, ⟨unA_m i46_2 i46_0 (by first | exact Or.inl ⟨cq47, rfl⟩ | exact Or.inr ⟨cq47, loA_m0 i46_1 cq58⟩ | exact Or.inr ⟨cq47, loA_m1 i46_1 cq58⟩), ⟨hMS, hMU, hMM, hMR, hMK, hMZ⟩⟩, by rw [ht]; exact hP, hD⟩, hS.F ht⟩) hS.2.2 dX6_unseen_67
  have hJ24 : ∀ (n24 : Nat) (thL : Int32) (umL : Int32) (smL : Int32) (sL : Nat → Int32) (uL : Nat → Int32) (kL : Nat → Int32) (iL : Nat → Int32) (wL : Nat → Int32) (fL : Nat → Int32) (cL : Nat → Int32) (yL : Nat → Int64) (tL : Nat → Int64) (H : Heap) (locs : List Loc) (zq2 : Int32) (zq3 : Int32), (va_P K.1 vwCl (mW K a thL umL smL sL uL kL iL wL fL cL yL tL) H) → (va_D A (mW K a thL umL smL sL uL kL iL wL fL cL yL tL)) → (va_S A s.heap H locs) → (okS sL) → (okU umL) → (okM smL) → (okR umL uL) → (okK kL iL) → (okZ K smL wL fL) → (3 ≤ zq3.toInt) → (zq2.toInt = ((opL (snK K) 99).length : Int)) → (canF (snK K) cL 99) → (foI (snK K) zq3) → (0 ≤ pq1.toInt ∧ pq1.toInt ≤ 1) → ((2147483647 - zq3.toInt).toNat < n24) → ∀ (ls : Array Slot), lv_has ls 4 [(0, .ref (a 0)), (1, .int pq1), (2, .int zq2), (3, .int zq3)] → W p l e rmX6_unseen s m [.ref (a 0), .int pq1].toArray below meth c H locs 0 0 (MQ below (va_Qi (fun (r : Int32) (u : MZ) => (fun (r : Int32) _ => unA (snK K) pq1 r) r u ∧ MI (K) u) (fun u t => va_P K.1 vwCl (mZ K a u) t.heap ∧ va_D A (mZ K a u)) A) [.ref (a 0), .int pq1].toArray s 0 0 A) (F0 m 24 ls []) := by
    intro n24
    induction n24 with
    | zero =>
      intro thL umL smL sL uL kL iL wL fL cL yL tL H locs zq2 zq3 hP hD hS hMS hMU hMM hMR hMK hMZ i24_0 i24_1 i24_2 i24_3 i24_4 hm24 ls hl
      exact absurd hm24 (Nat.not_lt_zero _)
    | succ n24 ih24 =>
      intro thL umL smL sL uL kL iL wL fL cL yL tL H locs zq2 zq3 hP hD hS hMS hMU hMM hMR hMK hMZ i24_0 i24_1 i24_2 i24_3 i24_4 hm24 ls hl
      refine lv_iload_n hx hb dX6_unseen_24 rfl (lv_at hl 3 rfl) ?_
      refine lv_sipush (v := 200) hx hb dX6_unseen_25 (by decide) ?_
      refine lv_icmp_ge (tgt := 46) hx hb dX6_unseen_28 (by decide) (fun cq28 => ?_) (fun cq28 => ?_)
      · skip
        exact hJ46 thL umL smL sL uL kL iL wL fL cL yL tL _ _ zq2 zq3 hP hD hS hMS hMU hMM hMR hMK hMZ (i24_1) (by first | exact frI_out i24_3 cq28 | exact frI_hit i24_3 i24_2 cq28 eq36 cq37) (i24_4) _ (lv_sub hl [1, 2, 3] rfl)
      · skip
        refine lv_aload_n hx hb dX6_unseen_31 rfl (lv_at hl 0 rfl) ?_
        refine va_get (D := K.1) (ci := 6) (v := .ref (a 9)) (C := RX6) (T := TX6) (N := 12) hx hb hts hinX6 hown hK hP 0 rfl rfl 11 (by decide) (hts (.fieldLink RX6 36 "CodedWordsModel" "can" "[Z") (by decide +kernel)) (fun _ h9 => h9) rfl dX6_unseen_32 ?_
        refine lv_iload_n hx hb dX6_unseen_35 rfl (lv_at hl 3 rfl) ?_
        refine va_zald hx hb hK hP 9 2 rfl rfl (iq_in (by omega) (by rw [iq_le] at cq28; have h9 : ¬ (200 : Int) ≤ zq3.toInt := cq28; omega)) dX6_unseen_36 ?_
        refine lv_topi (fun vq36 eq36 => ?_)
        refine lv_if_ne (tgt := 46) hx hb dX6_unseen_37 (by decide) (fun cq37 => ?_) (fun cq37 => ?_)
        · skip
          exact hJ46 thL umL smL sL uL kL iL wL fL cL yL tL _ _ zq2 zq3 hP hD hS hMS hMU hMM hMR hMK hMZ (i24_1) (by first | exact frI_out i24_3 cq28 | exact frI_hit i24_3 i24_2 cq28 eq36 cq37) (i24_4) _ (lv_sub hl [1, 2, 3] rfl)
        · skip
          obtain ⟨vq40, eq40⟩ : ∃ y : Int32, y = zq3 + 2 := ⟨_, rfl⟩
          refine lv_iinc (v := vq40) (lv' := [(3, .int vq40), (0, .ref (a 0)), (1, .int pq1), (2, .int zq2)]) hx hb dX6_unseen_40 hl (k := 3) rfl (by rw [eq40]; rfl) (by decide) rfl (fun ls hl => ?_)
          refine lv_goto (tgt := 24) hx hb dX6_unseen_43 (by decide) ?_
          exact ih24 thL umL smL sL uL kL iL wL fL cL yL tL _ _ zq2 vq40 hP hD hS hMS hMU hMM hMR hMK hMZ (by first | (have h := iq_add2 eq40 (by rw [iq_le] at cq28; have h9 : ¬ (200 : Int) ≤ zq3.toInt := cq28; omega); omega) | decide) (by first | exact i24_1 | exact hp18.1) (by first | exact i24_2 | exact hp18.2) (by first | exact foI_next i24_3 i24_2 cq28 eq36 cq37 eq40 | exact foI_0) (by first | exact i24_4 | exact ⟨(by have h := (hp8.resolve_left (fun q => cq11 q.1)).2.1; rw [iq_le] at h; exact h), (by have h := (hp8.resolve_left (fun q => cq11 q.1)).2.2; rw [iq_le] at h; exact h)⟩) (iq_upg2 hm24 cq28 (by decide) eq40) _ (lv_sub hl [1, 2, 3, 0] rfl)
  refine lv_aload_n hx hb dX6_unseen_0 rfl (lv_at hl 0 rfl) ?_
  refine lv_iconst (v := 0) hx hb dX6_unseen_1 (by decide) ?_
  refine va_put (D := K.1) (ci := 6) (v := .int 0) (ty := .int) (C := RX6) (T := TX6) (N := 12) hx hb hts hinX6 tyX6 tyX6_ok nmX6 hown hK hP hD hS 0 rfl rfl 0 (by decide) (hts (.fieldLink RX6 39 "CodedWordsModel" "thrown" "I") (by decide +kernel)) (fun _ h9 => h9) rfl (by decide +kernel) rfl rfl (Nat.le_of_ble_eq_true rfl) dX6_unseen_2 (fun H locs hP hD hS => ?_)
  have hP : va_P K.1 vwCl (mW K a 0 um sm sA uA kA iA wA fA cA yA tA) H := hP
  have hD : va_D A (mW K a 0 um sm sA uA kA iA wA fA cA yA tA) := hD
  refine lv_iload_n hx hb dX6_unseen_5 rfl (lv_at hl 1 rfl) ?_
  refine lv_iconst (v := 0) hx hb dX6_unseen_6 (by decide) ?_
  refine lv_iconst (v := 1) hx hb dX6_unseen_7 (by decide) ?_
  refine r_i (va_runS (As := [.int pq1, .int 0, .int 1]) (rest := []) ⟨hx, hb, hml, hown, hts⟩ (k_X6_in l pq1 0 1) (va_cwS 3 hts gX6_unseen_X6_in rfl rfl rfl (by decide +kernel) ⟨Nat.le_of_ble_eq_true rfl, Nat.le_of_ble_eq_true rfl⟩) (pPreS) rfl rfl hl.1 rfl (lv_room (Nat.le_of_ble_eq_true rfl)) dX6_unseen_8 ⟨Nat.le_of_ble_eq_true rfl, Nat.le_of_ble_eq_true rfl⟩) hP hS (fun rq8 H locs hp8 hP hS => ?_)
  refine lv_if_ne (tgt := 17) hx hb dX6_unseen_11 (by decide) (fun cq11 => ?_) (fun cq11 => ?_)
  · skip
    refine lv_aload_n hx hb dX6_unseen_17 rfl (lv_at hl 0 rfl) ?_
    refine m_i (K := K) (K2 := K) (a := a) (w := mW K a 0 um sm sA uA kA iA wA fA cA yA tA) (post := fun (r : Int32) (u : MZ) => mkA (snK K) r u.2.2.2.2.2.2.2.2.2.1) (va_runV (mc := 0) (ms := 0) (rm := rmX6_marks) (As := []) (rest := []) ⟨hx, hb, hml, hown, hts⟩ (k_X6_marks l (a := a) ⟨hMS, hMU, hMM, hMR, hMK, hMZ⟩ H.size ) (cwV 0 hts gX6_unseen_X6_marks rfl rfl rfl (by decide +kernel) ⟨Nat.le_of_ble_eq_true rfl, Nat.le_of_ble_eq_true rfl⟩) (kPreV (m_rcv hK hP) hP hK hD hN) rfl rfl hl.1 rfl (lv_room (Nat.le_of_ble_eq_true rfl)) dX6_unseen_18 ⟨Nat.le_of_ble_eq_true rfl, Nat.le_of_ble_eq_true rfl⟩) hD hS hA (fun rq18 uq18 H locs hp18 hM hP hD hS => ?_)
    obtain ⟨thN18, umN18, smN18, sN18, uN18, kN18, iN18, wN18, fN18, cN18, yN18, tN18⟩ := uq18
    have hP : va_P K.1 vwCl (mW K a thN18 umN18 smN18 sN18 uN18 kN18 iN18 wN18 fN18 cN18 yN18 tN18) H := hP
    have hD : va_D A (mW K a thN18 umN18 smN18 sN18 uN18 kN18 iN18 wN18 fN18 cN18 yN18 tN18) := hD
    have hMS : okS sN18 := hM.1
    have hMU : okU umN18 := hM.2.1
    have hMM : okM smN18 := hM.2.2.1
    have hMR : okR umN18 uN18 := hM.2.2.2.1
    have hMK : okK kN18 iN18 := hM.2.2.2.2.1
    have hMZ : okZ K smN18 wN18 fN18 := hM.2.2.2.2.2
    refine lv_istore_n (lv' := [(2, .int rq18), (0, .ref (a 0)), (1, .int pq1)]) hx hb dX6_unseen_21 rfl hl (by decide) rfl (fun ls hl => ?_)
    refine lv_iconst (v := 3) hx hb dX6_unseen_22 (by decide) ?_
    refine lv_istore_n (lv' := [(3, .int 3), (2, .int rq18), (0, .ref (a 0)), (1, .int pq1)]) hx hb dX6_unseen_23 rfl hl (by decide) rfl (fun ls hl => ?_)
    exact hJ24 ((2147483647 - (3 : Int32).toInt).toNat + 1) thN18 umN18 smN18 sN18 uN18 kN18 iN18 wN18 fN18 cN18 yN18 tN18 _ _ rq18 3 hP hD hS hMS hMU hMM hMR hMK hMZ (by first | (have h := iq_add2 eq40 (by rw [iq_le] at cq28; have h9 : ¬ (200 : Int) ≤ zq3.toInt := cq28; omega); omega) | decide) (by first | exact i24_1 | exact hp18.1) (by first | exact i24_2 | exact hp18.2) (by first | exact foI_next i24_3 i24_2 cq28 eq36 cq37 eq40 | exact foI_0) (by first | exact i24_4 | exact ⟨(by have h := (hp8.resolve_left (fun q => cq11 q.1)).2.1; rw [iq_le] at h; exact h), (by have h := (hp8.resolve_left (fun q => cq11 q.1)).2.2; rw [iq_le] at h; exact h)⟩) (Nat.lt_succ_self _) _ (lv_sub hl [2, 3, 1, 0] rfl)
  · skip
    refine lv_ldc (v := (-1000001)) hx hb hown (hts (.constant RX6 71 (-1000001)) (by decide +kernel)) dX6_unseen_14 ?_
    exact W.iret (v := (-1000001)) hx hb hr (fun t ht hW => ⟨⟨(-1000001), (0, um, sm, sA, uA, kA, iA, wA, fA, cA, yA, tA), rfl, ⟨Or.inl ⟨fun h => (hp8.resolve_right (fun q => by rw [q.1] at cq11; exact absurd cq11 (by decide))).2 ⟨by rw [iq_le]; show (0 : Int) ≤ _; omega, by rw [iq_le]; show _ ≤ (1 : Int); omega⟩, rfl⟩, ⟨hMS, hMU, hMM, hMR, hMK, hMZ⟩⟩, by rw [ht]; exact hP, hD⟩, hS.F ht⟩) hS.2.2 dX6_unseen_16
abbrev rmX6_next : Room := { frames := 1, cells := 0, slots := 0, locals := 24 }
set_option maxHeartbeats 4000000 in
set_option maxRecDepth 100000 in
theorem k_X6_next (l : Launch) {K : Cx} {a : Nat → Nat} {th um sm : Int32} {sA uA kA iA wA fA cA : Nat → Int32} {yA tA : Nat → Int64} (hM : MI K (th, um, sm, sA, uA, kA, iA, wA, fA, cA, yA, tA)) (sz : Nat)   : Mi l K yX6_next wsX6_next rmX6_next [.ref (a 0)] a (th, um, sm, sA, uA, kA, iA, wA, fA, cA, yA, tA) sz (fun (r : Int32) _ => nxA (snK K) r) := by
  refine Met.ofW (cc := cX6_next) (maxL := 7) (ret := (some .int)) (by decide) rfl ?_
  intro p e s m args below meth c s₁ B hml hv
  obtain ⟨rfl, hsz, hP, hK, hD0, hN⟩ := hv
  have hx := B.exec
  have hb := B.bytes
  have hr := B.returns
  have hts := atoms_spec (ws := wsX6_next) B.pre
  have hown : s.vm.findClass RX6 = some m.cls := findClass_of_methodNamed B.named
  have hlocks := B.notSynchronized
  have hinX6 : ∀ w ∈ wsX60, w ∈ wsX6_next := by decide +kernel
  subst hsz
  have hD := hD0.self (sz := s.heap.size)
  generalize hAe : va_A (mZ K a (th, um, sm, sA, uA, kA, iA, wA, fA, cA, yA, tA)) s.heap.size = A at hD ⊢
  have hA : ∀ q : Nat, s.heap.size ≤ q → A q := fun q h => by rw [← hAe]; exact Or.inr h
  have hS : va_S A s.heap s.heap [] := va_S.rf
  have hP : va_P K.1 vwCl (mW K a th um sm sA uA kA iA wA fA cA yA tA) s.heap := hP
  have hD : va_D A (mW K a th um sm sA uA kA iA wA fA cA yA tA) := hD
  have hMS : okS sA := hM.1
  have hMU : okU um := hM.2.1
  have hMM : okM sm := hM.2.2.1
  have hMR : okR um uA := hM.2.2.2.1
  have hMK : okK kA iA := hM.2.2.2.2.1
  have hMZ : okZ K sm wA fA := hM.2.2.2.2.2
  have hl := lv_entry ([.ref (a 0)]) (n := 7) (Nat.le_of_ble_eq_true rfl)
  rw [lg_entry_eq]
  generalize (lg_sl ([.ref (a 0)]) ++ List.replicate (7 - (lg_sl ([.ref (a 0)])).length) Slot.unset).toArray = ls at hl ⊢
  have hl : lv_has ls 7 [(0, .ref (a 0))] := hl
  have hJ20 : ∀ (n20 : Nat) (thL : Int32) (umL : Int32) (smL : Int32) (sL : Nat → Int32) (uL : Nat → Int32) (kL : Nat → Int32) (iL : Nat → Int32) (wL : Nat → Int32) (fL : Nat → Int32) (cL : Nat → Int32) (yL : Nat → Int64) (tL : Nat → Int64) (H : Heap) (locs : List Loc) (zq1 : Int32) (zq2 : Int32) (zq3 : Int32) (zq4 : Int32), (va_P K.1 vwCl (mW K a thL umL smL sL uL kL iL wL fL cL yL tL) H) → (va_D A (mW K a thL umL smL sL uL kL iL wL fL cL yL tL)) → (va_S A s.heap H locs) → (okS sL) → (okU umL) → (okM smL) → (okR umL uL) → (okK kL iL) → (okZ K smL wL fL) → (zq4.toInt ≤ 100) → (zq1.toInt = ((opL (snK K) 99).length : Int)) → (canF (snK K) cL 99) → (rnI (snK K) zq2 zq3 zq4) → ((2147483647 - zq4.toInt).toNat < n20) → ∀ (ls : Array Slot), lv_has ls 7 [(0, .ref (a 0)), (1, .int zq1), (2, .int zq2), (3, .int zq3), (4, .int zq4)] → W p l e rmX6_next s m [.ref (a 0)].toArray below meth c H locs 0 0 (MQ below (va_Qi (fun (r : Int32) (u : MZ) => (fun (r : Int32) _ => nxA (snK K) r) r u ∧ MI (K) u) (fun u t => va_P K.1 vwCl (mZ K a u) t.heap ∧ va_D A (mZ K a u)) A) [.ref (a 0)].toArray s 0 0 A) (F0 m 20 ls []) := by
    intro n20
    induction n20 with
    | zero =>
      intro thL umL smL sL uL kL iL wL fL cL yL tL H locs zq1 zq2 zq3 zq4 hP hD hS hMS hMU hMM hMR hMK hMZ i20_0 i20_1 i20_2 i20_3 hm20 ls hl
      exact absurd hm20 (Nat.not_lt_zero _)
    | succ n20 ih20 =>
      intro thL umL smL sL uL kL iL wL fL cL yL tL H locs zq1 zq2 zq3 zq4 hP hD hS hMS hMU hMM hMR hMK hMZ i20_0 i20_1 i20_2 i20_3 hm20 ls hl
      have hJ98 : ∀ (H : Heap) (locs : List Loc) (sk0 : Int32), (va_P K.1 vwCl (mW K a thL umL smL sL uL kL iL wL fL cL yL tL) H) → (va_D A (mW K a thL umL smL sL uL kL iL wL fL cL yL tL)) → (va_S A s.heap H locs) → (okS sL) → (okU umL) → (okM smL) → (okR umL uL) → (okK kL iL) → (okZ K smL wL fL) → (zq4.toInt < 100) → (¬ zq1 ≤ 1) → (sk0.toInt = (gW (snK K) zq4.toInt.toNat : Int)) → ∀ (ls : Array Slot), lv_has ls 7 [(0, .ref (a 0)), (1, .int zq1), (2, .int zq2), (3, .int zq3), (4, .int zq4)] → W p l e rmX6_next s m [.ref (a 0)].toArray below meth c H locs 0 0 (MQ below (va_Qi (fun (r : Int32) (u : MZ) => (fun (r : Int32) _ => nxA (snK K) r) r u ∧ MI (K) u) (fun u t => va_P K.1 vwCl (mZ K a u) t.heap ∧ va_D A (mZ K a u)) A) [.ref (a 0)].toArray s 0 0 A) (F0 m 98 ls [.int sk0]) := by
        intro H locs sk0 hP hD hS hMS hMU hMM hMR hMK hMZ i98_0 i98_1 i98_2 ls hl
        refine lv_istore (lv' := [(6, .int sk0), (0, .ref (a 0)), (1, .int zq1), (2, .int zq2), (3, .int zq3), (4, .int zq4)]) hx hb dX6_next_98 hl (by decide) rfl (fun ls hl => ?_)
        refine lv_iload hx hb dX6_next_100 (lv_at hl 0 rfl) ?_
        refine lv_iload_n hx hb dX6_next_102 rfl (lv_at hl 4 rfl) ?_
        refine lv_icmp_ge (tgt := 111) hx hb dX6_next_103 (by decide) (fun cq103 => ?_) (fun cq103 => ?_)
        · skip
          refine lv_iload_n hx hb dX6_next_111 rfl (lv_at hl 3 rfl) ?_
          refine lv_istore_n (lv' := [(2, .int zq2), (6, .int sk0), (0, .ref (a 0)), (1, .int zq1), (3, .int zq3), (4, .int zq4)]) hx hb dX6_next_112 rfl hl (by decide) rfl (fun ls hl => ?_)
          refine lv_iload hx hb dX6_next_113 (lv_at hl 1 rfl) ?_
          refine lv_iload_n hx hb dX6_next_115 rfl (lv_at hl 4 rfl) ?_
          refine lv_icmp_ge (tgt := 124) hx hb dX6_next_116 (by decide) (fun cq116 => ?_) (fun cq116 => ?_)
          · skip
            refine lv_iload_n hx hb dX6_next_124 rfl (lv_at hl 4 rfl) ?_
            refine lv_istore_n (lv' := [(3, .int zq3), (2, .int zq2), (6, .int sk0), (0, .ref (a 0)), (1, .int zq1), (4, .int zq4)]) hx hb dX6_next_125 rfl hl (by decide) rfl (fun ls hl => ?_)
            obtain ⟨vq126, eq126⟩ : ∃ y : Int32, y = zq4 + 1 := ⟨_, rfl⟩
            refine lv_iinc (v := vq126) (lv' := [(4, .int vq126), (3, .int zq3), (2, .int zq2), (6, .int sk0), (0, .ref (a 0)), (1, .int zq1)]) hx hb dX6_next_126 hl (k := 5) rfl (by rw [eq126]; rfl) (by decide) rfl (fun ls hl => ?_)
            refine lv_goto (tgt := 20) hx hb dX6_next_129 (by decide) ?_
            exact ih20 thL umL smL sL uL kL iL wL fL cL yL tL _ _ zq1 zq2 zq3 vq126 hP hD hS hMS hMU hMM hMR hMK hMZ (by first | (rw [iq_le] at cq24; have h9 : ¬ (100 : Int) ≤ zq4.toInt := cq24; have h := iq_add1 eq126 (by omega); omega) | (have h := iq_add1 eq126 (by omega); omega) | decide) (by first | exact i20_1 | exact hp6.1) (by first | exact i20_2 | exact hp6.2) (by first | exact absurd cq103 cq116 | exact absurd cq116 cq103 | exact rnI_keep i20_3 i98_0 i20_1 i98_1 i98_2 cq103 eq126 | exact rnI_take i20_3 i98_0 i20_1 i98_1 i98_2 cq103 eq126 | exact rnI_0) (iq_upm hm20 (by omega) eq126) _ (lv_sub hl [4, 5, 2, 1, 0] rfl)
          · skip
            refine lv_iload hx hb dX6_next_119 (lv_at hl 1 rfl) ?_
            refine lv_goto (tgt := 125) hx hb dX6_next_121 (by decide) ?_
            refine lv_istore_n (lv' := [(3, .int sk0), (2, .int zq2), (6, .int sk0), (0, .ref (a 0)), (1, .int zq1), (4, .int zq4)]) hx hb dX6_next_125 rfl hl (by decide) rfl (fun ls hl => ?_)
            obtain ⟨vq126, eq126⟩ : ∃ y : Int32, y = zq4 + 1 := ⟨_, rfl⟩
            refine lv_iinc (v := vq126) (lv' := [(4, .int vq126), (3, .int sk0), (2, .int zq2), (6, .int sk0), (0, .ref (a 0)), (1, .int zq1)]) hx hb dX6_next_126 hl (k := 5) rfl (by rw [eq126]; rfl) (by decide) rfl (fun ls hl => ?_)
            refine lv_goto (tgt := 20) hx hb dX6_next_129 (by decide) ?_
            exact ih20 thL umL smL sL uL kL iL wL fL cL yL tL _ _ zq1 zq2 sk0 vq126 hP hD hS hMS hMU hMM hMR hMK hMZ (by first | (rw [iq_le] at cq24; have h9 : ¬ (100 : Int) ≤ zq4.toInt := cq24; have h := iq_add1 eq126 (by omega); omega) | (have h := iq_add1 eq126 (by omega); omega) | decide) (by first | exact i20_1 | exact hp6.1) (by first | exact i20_2 | exact hp6.2) (by first | exact absurd cq103 cq116 | exact absurd cq116 cq103 | exact rnI_keep i20_3 i98_0 i20_1 i98_1 i98_2 cq103 eq126 | exact rnI_take i20_3 i98_0 i20_1 i98_1 i98_2 cq103 eq126 | exact rnI_0) (iq_upm hm20 (by omega) eq126) _ (lv_sub hl [4, 5, 2, 1, 0] rfl)
        · skip
          refine lv_iload hx hb dX6_next_106 (lv_at hl 5 rfl) ?_
          refine lv_goto (tgt := 112) hx hb dX6_next_108 (by decide) ?_
          refine lv_istore_n (lv' := [(2, .int zq4), (6, .int sk0), (0, .ref (a 0)), (1, .int zq1), (3, .int zq3), (4, .int zq4)]) hx hb dX6_next_112 rfl hl (by decide) rfl (fun ls hl => ?_)
          refine lv_iload hx hb dX6_next_113 (lv_at hl 1 rfl) ?_
          refine lv_iload_n hx hb dX6_next_115 rfl (lv_at hl 4 rfl) ?_
          refine lv_icmp_ge (tgt := 124) hx hb dX6_next_116 (by decide) (fun cq116 => ?_) (fun cq116 => ?_)
          · skip
            refine lv_iload_n hx hb dX6_next_124 rfl (lv_at hl 4 rfl) ?_
            refine lv_istore_n (lv' := [(3, .int zq3), (2, .int zq4), (6, .int sk0), (0, .ref (a 0)), (1, .int zq1), (4, .int zq4)]) hx hb dX6_next_125 rfl hl (by decide) rfl (fun ls hl => ?_)
            obtain ⟨vq126, eq126⟩ : ∃ y : Int32, y = zq4 + 1 := ⟨_, rfl⟩
            refine lv_iinc (v := vq126) (lv' := [(4, .int vq126), (3, .int zq3), (2, .int zq4), (6, .int sk0), (0, .ref (a 0)), (1, .int zq1)]) hx hb dX6_next_126 hl (k := 5) rfl (by rw [eq126]; rfl) (by decide) rfl (fun ls hl => ?_)
            refine lv_goto (tgt := 20) hx hb dX6_next_129 (by decide) ?_
            exact ih20 thL umL smL sL uL kL iL wL fL cL yL tL _ _ zq1 zq4 zq3 vq126 hP hD hS hMS hMU hMM hMR hMK hMZ (by first | (rw [iq_le] at cq24; have h9 : ¬ (100 : Int) ≤ zq4.toInt := cq24; have h := iq_add1 eq126 (by omega); omega) | (have h := iq_add1 eq126 (by omega); omega) | decide) (by first | exact i20_1 | exact hp6.1) (by first | exact i20_2 | exact hp6.2) (by first | exact absurd cq103 cq116 | exact absurd cq116 cq103 | exact rnI_keep i20_3 i98_0 i20_1 i98_1 i98_2 cq103 eq126 | exact rnI_take i20_3 i98_0 i20_1 i98_1 i98_2 cq103 eq126 | exact rnI_0) (iq_upm hm20 (by omega) eq126) _ (lv_sub hl [4, 5, 2, 1, 0] rfl)
          · skip
            refine lv_iload hx hb dX6_next_119 (lv_at hl 1 rfl) ?_
            refine lv_goto (tgt := 125) hx hb dX6_next_121 (by decide) ?_
            refine lv_istore_n (lv' := [(3, .int sk0), (2, .int zq4), (6, .int sk0), (0, .ref (a 0)), (1, .int zq1), (4, .int zq4)]) hx hb dX6_next_125 rfl hl (by decide) rfl (fun ls hl => ?_)
            obtain ⟨vq126, eq126⟩ : ∃ y : Int32, y = zq4 + 1 := ⟨_, rfl⟩
            refine lv_iinc (v := vq126) (lv' := [(4, .int vq126), (3, .int sk0), (2, .int zq4), (6, .int sk0), (0, .ref (a 0)), (1, .int zq1)]) hx hb dX6_next_126 hl (k := 5) rfl (by rw [eq126]; rfl) (by decide) rfl (fun ls hl => ?_)
            refine lv_goto (tgt := 20) hx hb dX6_next_129 (by decide) ?_
            exact ih20 thL umL smL sL uL kL iL wL fL cL yL tL _ _ zq1 zq4 sk0 vq126 hP hD hS hMS hMU hMM hMR hMK hMZ (by first | (rw [iq_le] at cq24; have h9 : ¬ (100 : Int) ≤ zq4.toInt := cq24; have h := iq_add1 eq126 (by omega); omega) | (have h := iq_add1 eq126 (by omega); omega) | decide) (by first | exact i20_1 | exact hp6.1) (by first | exact i20_2 | exact hp6.2) (by first | exact absurd cq103 cq116 | exact absurd cq116 cq103 | exact rnI_keep i20_3 i98_0 i20_1 i98_1 i98_2 cq103 eq126 | exact rnI_take i20_3 i98_0 i20_1 i98_1 i98_2 cq103 eq126 | exact rnI_0) (iq_upm hm20 (by omega) eq126) _ (lv_sub hl [4, 5, 2, 1, 0] rfl)
      have hJ38 : ∀ (n38 : Nat) (H : Heap) (locs : List Loc) (zq5 : Int32) (zq6 : Int32), (va_P K.1 vwCl (mW K a thL umL smL sL uL kL iL wL fL cL yL tL) H) → (va_D A (mW K a thL umL smL sL uL kL iL wL fL cL yL tL)) → (va_S A s.heap H locs) → (okS sL) → (okU umL) → (okM smL) → (okR umL uL) → (okK kL iL) → (okZ K smL wL fL) → (3 ≤ zq6.toInt) → (zq4.toInt < 100) → (¬ zq1 ≤ 1) → (yeI (snK K) zq4 zq5 zq6) → ((2147483647 - zq6.toInt).toNat < n38) → ∀ (ls : Array Slot), lv_has ls 7 [(0, .ref (a 0)), (1, .int zq1), (2, .int zq2), (3, .int zq3), (4, .int zq4), (5, .int zq5), (6, .int zq6)] → W p l e rmX6_next s m [.ref (a 0)].toArray below meth c H locs 0 0 (MQ below (va_Qi (fun (r : Int32) (u : MZ) => (fun (r : Int32) _ => nxA (snK K) r) r u ∧ MI (K) u) (fun u t => va_P K.1 vwCl (mZ K a u) t.heap ∧ va_D A (mZ K a u)) A) [.ref (a 0)].toArray s 0 0 A) (F0 m 38 ls []) := by
        intro n38
        induction n38 with
        | zero =>
          intro H locs zq5 zq6 hP hD hS hMS hMU hMM hMR hMK hMZ i38_0 i38_1 i38_2 i38_3 hm38 ls hl
          exact absurd hm38 (Nat.not_lt_zero _)
        | succ n38 ih38 =>
          intro H locs zq5 zq6 hP hD hS hMS hMU hMM hMR hMK hMZ i38_0 i38_1 i38_2 i38_3 hm38 ls hl
          refine lv_iload hx hb dX6_next_38 (lv_at hl 6 rfl) ?_
          refine lv_sipush (v := 200) hx hb dX6_next_40 (by decide) ?_
          refine lv_icmp_ge (tgt := 80) hx hb dX6_next_43 (by decide) (fun cq43 => ?_) (fun cq43 => ?_)
          · skip
            refine lv_iload hx hb dX6_next_80 (lv_at hl 5 rfl) ?_
            refine lv_iload_n hx hb dX6_next_82 rfl (lv_at hl 1 rfl) ?_
            refine lv_iload hx hb dX6_next_83 (lv_at hl 5 rfl) ?_
            refine lv_isub hx hb dX6_next_85 ?_
            refine lv_topi (fun vq85 eq85 => ?_)
            refine lv_icmp_le (tgt := 94) hx hb dX6_next_86 (by decide) (fun cq86 => ?_) (fun cq86 => ?_)
            · skip
              refine lv_iload_n hx hb dX6_next_94 rfl (lv_at hl 1 rfl) ?_
              refine lv_iload hx hb dX6_next_95 (lv_at hl 5 rfl) ?_
              refine lv_isub hx hb dX6_next_97 ?_
              refine lv_topi (fun vq97 eq97 => ?_)
              exact hJ98 _ _ vq97 hP hD hS hMS hMU hMM hMR hMK hMZ (i38_1) (i38_2) (by first | exact yeI_end i38_3 (by obtain ⟨m9, _, hm9, _⟩ := i20_3; omega) cq43 i20_1 eq85 (Or.inl ⟨cq86, eq97⟩) | exact yeI_end i38_3 (by obtain ⟨m9, _, hm9, _⟩ := i20_3; omega) cq43 i20_1 eq85 (Or.inr ⟨cq86, rfl⟩)) _ (lv_sub hl [0, 1, 2, 3, 4] rfl)
            · skip
              refine lv_iload hx hb dX6_next_89 (lv_at hl 5 rfl) ?_
              refine lv_goto (tgt := 98) hx hb dX6_next_91 (by decide) ?_
              exact hJ98 _ _ zq5 hP hD hS hMS hMU hMM hMR hMK hMZ (i38_1) (i38_2) (by first | exact yeI_end i38_3 (by obtain ⟨m9, _, hm9, _⟩ := i20_3; omega) cq43 i20_1 eq85 (Or.inl ⟨cq86, eq97⟩) | exact yeI_end i38_3 (by obtain ⟨m9, _, hm9, _⟩ := i20_3; omega) cq43 i20_1 eq85 (Or.inr ⟨cq86, rfl⟩)) _ (lv_sub hl [0, 1, 2, 3, 4] rfl)
          · skip
            refine lv_iload hx hb dX6_next_46 (lv_at hl 5 rfl) ?_
            refine lv_aload_n hx hb dX6_next_48 rfl (lv_at hl 0 rfl) ?_
            refine va_get (D := K.1) (ci := 6) (v := .ref (a 9)) (C := RX6) (T := TX6) (N := 12) hx hb hts hinX6 hown hK hP 0 rfl rfl 11 (by decide) (hts (.fieldLink RX6 36 "CodedWordsModel" "can" "[Z") (by decide +kernel)) (fun _ h9 => h9) rfl dX6_next_49 ?_
            refine lv_iload hx hb dX6_next_52 (lv_at hl 6 rfl) ?_
            refine va_zald hx hb hK hP 9 2 rfl rfl (iq_in (by omega) (by rw [iq_le] at cq43; have h9 : ¬ (200 : Int) ≤ zq6.toInt := cq43; omega)) dX6_next_54 ?_
            refine lv_topi (fun vq54 eq54 => ?_)
            refine lv_if_eq (tgt := 70) hx hb dX6_next_55 (by decide) (fun cq55 => ?_) (fun cq55 => ?_)
            · skip
              refine lv_iconst (v := 0) hx hb dX6_next_70 (by decide) ?_
              refine lv_iadd hx hb dX6_next_71 ?_
              refine lv_topi (fun vq71 eq71 => ?_)
              refine lv_istore (lv' := [(5, .int vq71), (0, .ref (a 0)), (1, .int zq1), (2, .int zq2), (3, .int zq3), (4, .int zq4), (6, .int zq6)]) hx hb dX6_next_72 hl (by decide) rfl (fun ls hl => ?_)
              obtain ⟨vq74, eq74⟩ : ∃ y : Int32, y = zq6 + 2 := ⟨_, rfl⟩
              refine lv_iinc (v := vq74) (lv' := [(6, .int vq74), (5, .int vq71), (0, .ref (a 0)), (1, .int zq1), (2, .int zq2), (3, .int zq3), (4, .int zq4)]) hx hb dX6_next_74 hl (k := 6) rfl (by rw [eq74]; rfl) (by decide) rfl (fun ls hl => ?_)
              refine lv_goto (tgt := 38) hx hb dX6_next_77 (by decide) ?_
              exact ih38 _ _ vq71 vq74 hP hD hS hMS hMU hMM hMR hMK hMZ (by first | (have h := iq_add2 eq74 (by rw [iq_le] at cq43; have h9 : ¬ (200 : Int) ≤ zq6.toInt := cq43; omega); omega) | decide) (by first | exact i38_1 | (rw [iq_le] at cq24; exact Int.not_le.mp cq24)) (by first | exact i38_2 | exact cq29) (by first | exact yeI_yes i38_3 (by obtain ⟨m9, _, hm9, _⟩ := i20_3; omega) i20_2 cq43 eq54 cq55 eq62 cq63 eq71 eq74 | exact yeI_no2 i38_3 (by obtain ⟨m9, _, hm9, _⟩ := i20_3; omega) i20_2 cq43 eq54 eq62 cq63 eq71 eq74 | exact yeI_no1 i38_3 i20_2 cq43 eq54 cq55 eq71 eq74 | exact yeI_0) (iq_upg2 hm38 cq43 (by decide) eq74) _ (lv_sub hl [2, 3, 4, 5, 6, 1, 0] rfl)
            · skip
              refine lv_iload hx hb dX6_next_58 (lv_at hl 4 rfl) ?_
              refine lv_iload hx hb dX6_next_60 (lv_at hl 6 rfl) ?_
              refine lv_irem hx hb dX6_next_62 (fun q => by rw [q] at i38_0; exact absurd i38_0 (by decide)) ?_
              refine lv_topi (fun vq62 eq62 => ?_)
              refine lv_if_ne (tgt := 70) hx hb dX6_next_63 (by decide) (fun cq63 => ?_) (fun cq63 => ?_)
              · skip
                refine lv_iconst (v := 0) hx hb dX6_next_70 (by decide) ?_
                refine lv_iadd hx hb dX6_next_71 ?_
                refine lv_topi (fun vq71 eq71 => ?_)
                refine lv_istore (lv' := [(5, .int vq71), (0, .ref (a 0)), (1, .int zq1), (2, .int zq2), (3, .int zq3), (4, .int zq4), (6, .int zq6)]) hx hb dX6_next_72 hl (by decide) rfl (fun ls hl => ?_)
                obtain ⟨vq74, eq74⟩ : ∃ y : Int32, y = zq6 + 2 := ⟨_, rfl⟩
                refine lv_iinc (v := vq74) (lv' := [(6, .int vq74), (5, .int vq71), (0, .ref (a 0)), (1, .int zq1), (2, .int zq2), (3, .int zq3), (4, .int zq4)]) hx hb dX6_next_74 hl (k := 6) rfl (by rw [eq74]; rfl) (by decide) rfl (fun ls hl => ?_)
                refine lv_goto (tgt := 38) hx hb dX6_next_77 (by decide) ?_
                exact ih38 _ _ vq71 vq74 hP hD hS hMS hMU hMM hMR hMK hMZ (by first | (have h := iq_add2 eq74 (by rw [iq_le] at cq43; have h9 : ¬ (200 : Int) ≤ zq6.toInt := cq43; omega); omega) | decide) (by first | exact i38_1 | (rw [iq_le] at cq24; exact Int.not_le.mp cq24)) (by first | exact i38_2 | exact cq29) (by first | exact yeI_yes i38_3 (by obtain ⟨m9, _, hm9, _⟩ := i20_3; omega) i20_2 cq43 eq54 cq55 eq62 cq63 eq71 eq74 | exact yeI_no2 i38_3 (by obtain ⟨m9, _, hm9, _⟩ := i20_3; omega) i20_2 cq43 eq54 eq62 cq63 eq71 eq74 | exact yeI_no1 i38_3 i20_2 cq43 eq54 cq55 eq71 eq74 | exact yeI_0) (iq_upg2 hm38 cq43 (by decide) eq74) _ (lv_sub hl [2, 3, 4, 5, 6, 1, 0] rfl)
              · skip
                refine lv_iconst (v := 1) hx hb dX6_next_66 (by decide) ?_
                refine lv_goto (tgt := 71) hx hb dX6_next_67 (by decide) ?_
                refine lv_iadd hx hb dX6_next_71 ?_
                refine lv_topi (fun vq71 eq71 => ?_)
                refine lv_istore (lv' := [(5, .int vq71), (0, .ref (a 0)), (1, .int zq1), (2, .int zq2), (3, .int zq3), (4, .int zq4), (6, .int zq6)]) hx hb dX6_next_72 hl (by decide) rfl (fun ls hl => ?_)
                obtain ⟨vq74, eq74⟩ : ∃ y : Int32, y = zq6 + 2 := ⟨_, rfl⟩
                refine lv_iinc (v := vq74) (lv' := [(6, .int vq74), (5, .int vq71), (0, .ref (a 0)), (1, .int zq1), (2, .int zq2), (3, .int zq3), (4, .int zq4)]) hx hb dX6_next_74 hl (k := 6) rfl (by rw [eq74]; rfl) (by decide) rfl (fun ls hl => ?_)
                refine lv_goto (tgt := 38) hx hb dX6_next_77 (by decide) ?_
                exact ih38 _ _ vq71 vq74 hP hD hS hMS hMU hMM hMR hMK hMZ (by first | (have h := iq_add2 eq74 (by rw [iq_le] at cq43; have h9 : ¬ (200 : Int) ≤ zq6.toInt := cq43; omega); omega) | decide) (by first | exact i38_1 | (rw [iq_le] at cq24; exact Int.not_le.mp cq24)) (by first | exact i38_2 | exact cq29) (by first | exact yeI_yes i38_3 (by obtain ⟨m9, _, hm9, _⟩ := i20_3; omega) i20_2 cq43 eq54 cq55 eq62 cq63 eq71 eq74 | exact yeI_no2 i38_3 (by obtain ⟨m9, _, hm9, _⟩ := i20_3; omega) i20_2 cq43 eq54 eq62 cq63 eq71 eq74 | exact yeI_no1 i38_3 i20_2 cq43 eq54 cq55 eq71 eq74 | exact yeI_0) (iq_upg2 hm38 cq43 (by decide) eq74) _ (lv_sub hl [2, 3, 4, 5, 6, 1, 0] rfl)
      refine lv_iload hx hb dX6_next_20 (lv_at hl 4 rfl) ?_
      refine lv_bipush (v := 100) hx hb dX6_next_22 (by decide) ?_
      refine lv_icmp_ge (tgt := 132) hx hb dX6_next_24 (by decide) (fun cq24 => ?_) (fun cq24 => ?_)
      · skip
        refine lv_iload_n hx hb dX6_next_132 rfl (lv_at hl 2 rfl) ?_
        exact W.iret (v := zq2) hx hb hr (fun t ht hW => ⟨⟨zq2, (thL, umL, smL, sL, uL, kL, iL, wL, fL, cL, yL, tL), rfl, ⟨rnI_end i20_3 i20_1 (by first | exact Or.inl cq24 | exact Or.inr cq29), ⟨hMS, hMU, hMM, hMR, hMK, hMZ⟩⟩, by rw [ht]; exact hP, hD⟩, hS.F ht⟩) hS.2.2 dX6_next_133
      · skip
        refine lv_iload_n hx hb dX6_next_27 rfl (lv_at hl 1 rfl) ?_
        refine lv_iconst (v := 1) hx hb dX6_next_28 (by decide) ?_
        refine lv_icmp_le (tgt := 132) hx hb dX6_next_29 (by decide) (fun cq29 => ?_) (fun cq29 => ?_)
        · skip
          refine lv_iload_n hx hb dX6_next_132 rfl (lv_at hl 2 rfl) ?_
          exact W.iret (v := zq2) hx hb hr (fun t ht hW => ⟨⟨zq2, (thL, umL, smL, sL, uL, kL, iL, wL, fL, cL, yL, tL), rfl, ⟨rnI_end i20_3 i20_1 (by first | exact Or.inl cq24 | exact Or.inr cq29), ⟨hMS, hMU, hMM, hMR, hMK, hMZ⟩⟩, by rw [ht]; exact hP, hD⟩, hS.F ht⟩) hS.2.2 dX6_next_133
        · skip
          refine lv_iconst (v := 0) hx hb dX6_next_32 (by decide) ?_
          refine lv_istore (lv' := [(5, .int 0), (0, .ref (a 0)), (1, .int zq1), (2, .int zq2), (3, .int zq3), (4, .int zq4)]) hx hb dX6_next_33 hl (by decide) rfl (fun ls hl => ?_)
          refine lv_iconst (v := 3) hx hb dX6_next_35 (by decide) ?_
          refine lv_istore (lv' := [(6, .int 3), (5, .int 0), (0, .ref (a 0)), (1, .int zq1), (2, .int zq2), (3, .int zq3), (4, .int zq4)]) hx hb dX6_next_36 hl (by decide) rfl (fun ls hl => ?_)
          exact hJ38 ((2147483647 - (3 : Int32).toInt).toNat + 1) _ _ 0 3 hP hD hS hMS hMU hMM hMR hMK hMZ (by first | (have h := iq_add2 eq74 (by rw [iq_le] at cq43; have h9 : ¬ (200 : Int) ≤ zq6.toInt := cq43; omega); omega) | decide) (by first | exact i38_1 | (rw [iq_le] at cq24; exact Int.not_le.mp cq24)) (by first | exact i38_2 | exact cq29) (by first | exact yeI_yes i38_3 (by obtain ⟨m9, _, hm9, _⟩ := i20_3; omega) i20_2 cq43 eq54 cq55 eq62 cq63 eq71 eq74 | exact yeI_no2 i38_3 (by obtain ⟨m9, _, hm9, _⟩ := i20_3; omega) i20_2 cq43 eq54 eq62 cq63 eq71 eq74 | exact yeI_no1 i38_3 i20_2 cq43 eq54 cq55 eq71 eq74 | exact yeI_0) (Nat.lt_succ_self _) _ (lv_sub hl [2, 3, 4, 5, 6, 1, 0] rfl)
  refine lv_aload_n hx hb dX6_next_0 rfl (lv_at hl 0 rfl) ?_
  refine lv_iconst (v := 0) hx hb dX6_next_1 (by decide) ?_
  refine va_put (D := K.1) (ci := 6) (v := .int 0) (ty := .int) (C := RX6) (T := TX6) (N := 12) hx hb hts hinX6 tyX6 tyX6_ok nmX6 hown hK hP hD hS 0 rfl rfl 0 (by decide) (hts (.fieldLink RX6 39 "CodedWordsModel" "thrown" "I") (by decide +kernel)) (fun _ h9 => h9) rfl (by decide +kernel) rfl rfl (Nat.le_of_ble_eq_true rfl) dX6_next_2 (fun H locs hP hD hS => ?_)
  have hP : va_P K.1 vwCl (mW K a 0 um sm sA uA kA iA wA fA cA yA tA) H := hP
  have hD : va_D A (mW K a 0 um sm sA uA kA iA wA fA cA yA tA) := hD
  refine lv_aload_n hx hb dX6_next_5 rfl (lv_at hl 0 rfl) ?_
  refine m_i (K := K) (K2 := K) (a := a) (w := mW K a 0 um sm sA uA kA iA wA fA cA yA tA) (post := fun (r : Int32) (u : MZ) => mkA (snK K) r u.2.2.2.2.2.2.2.2.2.1) (va_runV (mc := 0) (ms := 0) (rm := rmX6_marks) (As := []) (rest := []) ⟨hx, hb, hml, hown, hts⟩ (k_X6_marks l (a := a) ⟨hMS, hMU, hMM, hMR, hMK, hMZ⟩ H.size ) (cwV 0 hts gX6_next_X6_marks rfl rfl rfl (by decide +kernel) ⟨Nat.le_of_ble_eq_true rfl, Nat.le_of_ble_eq_true rfl⟩) (kPreV (m_rcv hK hP) hP hK hD hN) rfl rfl hl.1 rfl (lv_room (Nat.le_of_ble_eq_true rfl)) dX6_next_6 ⟨Nat.le_of_ble_eq_true rfl, Nat.le_of_ble_eq_true rfl⟩) hD hS hA (fun rq6 uq6 H locs hp6 hM hP hD hS => ?_)
  obtain ⟨thN6, umN6, smN6, sN6, uN6, kN6, iN6, wN6, fN6, cN6, yN6, tN6⟩ := uq6
  have hP : va_P K.1 vwCl (mW K a thN6 umN6 smN6 sN6 uN6 kN6 iN6 wN6 fN6 cN6 yN6 tN6) H := hP
  have hD : va_D A (mW K a thN6 umN6 smN6 sN6 uN6 kN6 iN6 wN6 fN6 cN6 yN6 tN6) := hD
  have hMS : okS sN6 := hM.1
  have hMU : okU umN6 := hM.2.1
  have hMM : okM smN6 := hM.2.2.1
  have hMR : okR umN6 uN6 := hM.2.2.2.1
  have hMK : okK kN6 iN6 := hM.2.2.2.2.1
  have hMZ : okZ K smN6 wN6 fN6 := hM.2.2.2.2.2
  refine lv_istore_n (lv' := [(1, .int rq6), (0, .ref (a 0))]) hx hb dX6_next_9 rfl hl (by decide) rfl (fun ls hl => ?_)
  refine lv_ldc (v := (-1000000)) hx hb hown (hts (.constant RX6 110 (-1000000)) (by decide +kernel)) dX6_next_10 ?_
  refine lv_istore_n (lv' := [(2, .int (-1000000)), (1, .int rq6), (0, .ref (a 0))]) hx hb dX6_next_12 rfl hl (by decide) rfl (fun ls hl => ?_)
  refine lv_sipush (v := 999) hx hb dX6_next_13 (by decide) ?_
  refine lv_istore_n (lv' := [(3, .int 999), (2, .int (-1000000)), (1, .int rq6), (0, .ref (a 0))]) hx hb dX6_next_16 rfl hl (by decide) rfl (fun ls hl => ?_)
  refine lv_iconst (v := 1) hx hb dX6_next_17 (by decide) ?_
  refine lv_istore (lv' := [(4, .int 1), (3, .int 999), (2, .int (-1000000)), (1, .int rq6), (0, .ref (a 0))]) hx hb dX6_next_18 hl (by decide) rfl (fun ls hl => ?_)
  exact hJ20 ((2147483647 - (1 : Int32).toInt).toNat + 1) thN6 umN6 smN6 sN6 uN6 kN6 iN6 wN6 fN6 cN6 yN6 tN6 _ _ rq6 ((-1000000)) 999 1 hP hD hS hMS hMU hMM hMR hMK hMZ (by first | (rw [iq_le] at cq24; have h9 : ¬ (100 : Int) ≤ zq4.toInt := cq24; have h := iq_add1 eq126 (by omega); omega) | (have h := iq_add1 eq126 (by omega); omega) | decide) (by first | exact i20_1 | exact hp6.1) (by first | exact i20_2 | exact hp6.2) (by first | exact absurd cq103 cq116 | exact absurd cq116 cq103 | exact rnI_keep i20_3 i98_0 i20_1 i98_1 i98_2 cq103 eq126 | exact rnI_take i20_3 i98_0 i20_1 i98_1 i98_2 cq103 eq126 | exact rnI_0) (Nat.lt_succ_self _) _ (lv_sub hl [4, 3, 2, 1, 0] rfl)
abbrev rmX6_does : Room := { frames := 2, cells := 0, slots := 0, locals := 42 }
set_option maxHeartbeats 4000000 in
set_option maxRecDepth 100000 in
theorem k_X6_does (l : Launch) {K : Cx} {a : Nat → Nat} {th um sm : Int32} {sA uA kA iA wA fA cA : Nat → Int32} {yA tA : Nat → Int64} (hM : MI K (th, um, sm, sA, uA, kA, iA, wA, fA, cA, yA, tA)) (sz : Nat) (pq1 : Int32) (pq2 : Int32) (pq3 : Int32)  : Mi l K yX6_does wsX6_does rmX6_does [.ref (a 0), .int pq1, .int pq2, .int pq3] a (th, um, sm, sA, uA, kA, iA, wA, fA, cA, yA, tA) sz (fun _ _ => True) := by
  refine Met.ofW (cc := cX6_does) (maxL := 10) (ret := (some .int)) (by decide) rfl ?_
  intro p e s m args below meth c s₁ B hml hv
  obtain ⟨rfl, hsz, hP, hK, hD0, hN⟩ := hv
  have hx := B.exec
  have hb := B.bytes
  have hr := B.returns
  have hts := atoms_spec (ws := wsX6_does) B.pre
  have hown : s.vm.findClass RX6 = some m.cls := findClass_of_methodNamed B.named
  have hlocks := B.notSynchronized
  have hinX6 : ∀ w ∈ wsX60, w ∈ wsX6_does := by decide +kernel
  subst hsz
  have hD := hD0.self (sz := s.heap.size)
  generalize hAe : va_A (mZ K a (th, um, sm, sA, uA, kA, iA, wA, fA, cA, yA, tA)) s.heap.size = A at hD ⊢
  have hA : ∀ q : Nat, s.heap.size ≤ q → A q := fun q h => by rw [← hAe]; exact Or.inr h
  have hS : va_S A s.heap s.heap [] := va_S.rf
  have hP : va_P K.1 vwCl (mW K a th um sm sA uA kA iA wA fA cA yA tA) s.heap := hP
  have hD : va_D A (mW K a th um sm sA uA kA iA wA fA cA yA tA) := hD
  have hMS : okS sA := hM.1
  have hMU : okU um := hM.2.1
  have hMM : okM sm := hM.2.2.1
  have hMR : okR um uA := hM.2.2.2.1
  have hMK : okK kA iA := hM.2.2.2.2.1
  have hMZ : okZ K sm wA fA := hM.2.2.2.2.2
  have hl := lv_entry ([.ref (a 0), .int pq1, .int pq2, .int pq3]) (n := 10) (Nat.le_of_ble_eq_true rfl)
  rw [lg_entry_eq]
  generalize (lg_sl ([.ref (a 0), .int pq1, .int pq2, .int pq3]) ++ List.replicate (10 - (lg_sl ([.ref (a 0), .int pq1, .int pq2, .int pq3])).length) Slot.unset).toArray = ls at hl ⊢
  have hl : lv_has ls 10 [(0, .ref (a 0)), (1, .int pq1), (2, .int pq2), (3, .int pq3)] := hl
  have hJ194 : ∀ (thL : Int32) (umL : Int32) (smL : Int32) (sL : Nat → Int32) (uL : Nat → Int32) (kL : Nat → Int32) (iL : Nat → Int32) (wL : Nat → Int32) (fL : Nat → Int32) (cL : Nat → Int32) (yL : Nat → Int64) (tL : Nat → Int64) (H : Heap) (locs : List Loc) (zq6 : Int64) (sk0 : Int64), (va_P K.1 vwCl (mW K a thL umL smL sL uL kL iL wL fL cL yL tL) H) → (va_D A (mW K a thL umL smL sL uL kL iL wL fL cL yL tL)) → (va_S A s.heap H locs) → (okS sL) → (okU umL) → (okM smL) → (okR umL uL) → (okK kL iL) → (okZ K smL wL fL) → (0 ≤ pq2.toInt ∧ pq2.toInt ≤ 3 ∧ 0 ≤ pq3.toInt ∧ pq3.toInt ≤ 3) → ∀ (ls : Array Slot), lv_has ls 10 [(0, .ref (a 0)), (2, .int pq2), (6, .long zq6)] → W p l e rmX6_does s m [.ref (a 0), .int pq1, .int pq2, .int pq3].toArray below meth c H locs 0 0 (MQ below (va_Qi (fun (r : Int32) (u : MZ) => (fun _ _ => True) r u ∧ MI (K) u) (fun u t => va_P K.1 vwCl (mZ K a u) t.heap ∧ va_D A (mZ K a u)) A) [.ref (a 0), .int pq1, .int pq2, .int pq3].toArray s 0 0 A) (F0 m 194 ls [.long sk0]) := by
    intro thL umL smL sL uL kL iL wL fL cL yL tL H locs zq6 sk0 hP hD hS hMS hMU hMM hMR hMK hMZ i194_0 ls hl
    refine lv_lstore (lv' := [(8, .long sk0), (0, .ref (a 0)), (2, .int pq2), (6, .long zq6)]) hx hb dX6_does_194 hl (by decide) rfl (fun ls hl => ?_)
    refine lv_aload_n hx hb dX6_does_196 rfl (lv_at hl 1 rfl) ?_
    refine m_v (K := K) (K2 := K) (a := a) (w := mW K a thL umL smL sL uL kL iL wL fL cL yL tL) (post := fun u => u.2.2.2.1 = sL) (va_runV (mc := 0) (ms := 0) (rm := rmX6_notes) (As := []) (rest := []) ⟨hx, hb, hml, hown, hts⟩ (k_X6_notes l (a := a) ⟨hMS, hMU, hMM, hMR, hMK, hMZ⟩ H.size ) (cwV 0 hts gX6_does_X6_notes rfl rfl rfl (by decide +kernel) ⟨Nat.le_of_ble_eq_true rfl, Nat.le_of_ble_eq_true rfl⟩) (kPreV (m_rcv hK hP) hP hK hD hN) rfl rfl hl.1 rfl (lv_room (Nat.le_of_ble_eq_true rfl)) dX6_does_197 ⟨Nat.le_of_ble_eq_true rfl, Nat.le_of_ble_eq_true rfl⟩) hD hS hA (fun uq197 H locs hp197 hM hP hD hS => ?_)
    obtain ⟨thN197, umN197, smN197, sN197, uN197, kN197, iN197, wN197, fN197, cN197, yN197, tN197⟩ := uq197
    have hP : va_P K.1 vwCl (mW K a thN197 umN197 smN197 sN197 uN197 kN197 iN197 wN197 fN197 cN197 yN197 tN197) H := hP
    have hD : va_D A (mW K a thN197 umN197 smN197 sN197 uN197 kN197 iN197 wN197 fN197 cN197 yN197 tN197) := hD
    have hMS : okS sN197 := hM.1
    have hMU : okU umN197 := hM.2.1
    have hMM : okM smN197 := hM.2.2.1
    have hMR : okR umN197 uN197 := hM.2.2.2.1
    have hMK : okK kN197 iN197 := hM.2.2.2.2.1
    have hMZ : okZ K smN197 wN197 fN197 := hM.2.2.2.2.2
    refine lv_aload_n hx hb dX6_does_200 rfl (lv_at hl 1 rfl) ?_
    refine va_get (D := K.1) (ci := 6) (v := .ref (a 1)) (C := RX6) (T := TX6) (N := 12) hx hb hts hinX6 hown hK hP 0 rfl rfl 1 (by decide) (hts (.fieldLink RX6 7 "CodedWordsModel" "s" "[I") (by decide +kernel)) (fun _ h9 => h9) rfl dX6_does_201 ?_
    refine lv_iconst (v := 2) hx hb dX6_does_204 (by decide) ?_
    refine lv_iload_n hx hb dX6_does_205 rfl (lv_at hl 2 rfl) ?_
    refine lv_iadd hx hb dX6_does_206 ?_
    refine lv_topi (fun vq206 eq206 => ?_)
    refine lv_lload hx hb dX6_does_207 (lv_at hl 3 rfl) ?_
    refine lv_l2i (v := (zq6 : Int64).toInt32) hx hb dX6_does_209 rfl ?_
    refine lv_topi (fun vq209 eq209 => ?_)
    refine va_iast hx hb hK hP hD hS 1 0 rfl rfl (by have h9 : 0 ≤ pq2.toInt ∧ pq2.toInt ≤ 3 ∧ 0 ≤ pq3.toInt ∧ pq3.toInt ≤ 3 := (by first | exact i41_0 | exact i84_0 | exact i119_0 | exact i147_0 | exact i194_0 | exact ⟨(hp15.resolve_left cq18).2.1, (hp15.resolve_left cq18).2.2, (hp22.resolve_left cq25).2.1, (hp22.resolve_left cq25).2.2⟩); exact iq_inreg (by decide) (by decide) h9.1 h9.2.1 eq206) dX6_does_210 (fun H locs hP hD hS => ?_)
    have hP : va_P K.1 vwCl (mW K a thN197 umN197 smN197 (upd sN197 (vq206 : Int32).toNatClampNeg vq209) uN197 kN197 iN197 wN197 fN197 cN197 yN197 tN197) H := hP
    have hD : va_D A (mW K a thN197 umN197 smN197 (upd sN197 (vq206 : Int32).toNatClampNeg vq209) uN197 kN197 iN197 wN197 fN197 cN197 yN197 tN197) := hD
    generalize en210 : upd sN197 (vq206 : Int32).toNatClampNeg vq209 = sN210 at hP hD
    have hMS : okS sN210 := by have h9 : 0 ≤ pq2.toInt ∧ pq2.toInt ≤ 3 ∧ 0 ≤ pq3.toInt ∧ pq3.toInt ≤ 3 := (by first | exact i41_0 | exact i84_0 | exact i119_0 | exact i147_0 | exact i194_0 | exact ⟨(hp15.resolve_left cq18).2.1, (hp15.resolve_left cq18).2.2, (hp22.resolve_left cq25).2.1, (hp22.resolve_left cq25).2.2⟩); exact hMS.upr (by decide) (by decide) h9.1 h9.2.1 eq206 en210
    refine lv_aload_n hx hb dX6_does_211 rfl (lv_at hl 1 rfl) ?_
    refine va_get (D := K.1) (ci := 6) (v := .ref (a 1)) (C := RX6) (T := TX6) (N := 12) hx hb hts hinX6 hown hK hP 0 rfl rfl 1 (by decide) (hts (.fieldLink RX6 7 "CodedWordsModel" "s" "[I") (by decide +kernel)) (fun _ h9 => h9) rfl dX6_does_212 ?_
    refine lv_bipush (v := 6) hx hb dX6_does_215 (by decide) ?_
    refine lv_iload_n hx hb dX6_does_217 rfl (lv_at hl 2 rfl) ?_
    refine lv_iadd hx hb dX6_does_218 ?_
    refine lv_topi (fun vq218 eq218 => ?_)
    refine lv_lload hx hb dX6_does_219 (lv_at hl 0 rfl) ?_
    refine lv_bipush (v := 15) hx hb dX6_does_221 (by decide) ?_
    refine r_i (va_runS (As := [.long sk0, .int 15]) (rest := [.int vq218, .ref (a 1)]) ⟨hx, hb, hml, hown, hts⟩ (k_X6_rest l sk0 15 (by decide)) (va_cwS 2 hts gX6_does_X6_rest rfl rfl rfl (by decide +kernel) ⟨Nat.le_of_ble_eq_true rfl, Nat.le_of_ble_eq_true rfl⟩) (pPreS) rfl rfl hl.1 rfl (lv_room (Nat.le_of_ble_eq_true rfl)) dX6_does_223 ⟨Nat.le_of_ble_eq_true rfl, Nat.le_of_ble_eq_true rfl⟩) hP hS (fun rq223 H locs hp223 hP hS => ?_)
    refine va_iast hx hb hK hP hD hS 1 0 rfl rfl (by have h9 : 0 ≤ pq2.toInt ∧ pq2.toInt ≤ 3 ∧ 0 ≤ pq3.toInt ∧ pq3.toInt ≤ 3 := (by first | exact i41_0 | exact i84_0 | exact i119_0 | exact i147_0 | exact i194_0 | exact ⟨(hp15.resolve_left cq18).2.1, (hp15.resolve_left cq18).2.2, (hp22.resolve_left cq25).2.1, (hp22.resolve_left cq25).2.2⟩); exact iq_inreg (by decide) (by decide) h9.1 h9.2.1 eq218) dX6_does_226 (fun H locs hP hD hS => ?_)
    have hP : va_P K.1 vwCl (mW K a thN197 umN197 smN197 (upd sN210 (vq218 : Int32).toNatClampNeg rq223) uN197 kN197 iN197 wN197 fN197 cN197 yN197 tN197) H := hP
    have hD : va_D A (mW K a thN197 umN197 smN197 (upd sN210 (vq218 : Int32).toNatClampNeg rq223) uN197 kN197 iN197 wN197 fN197 cN197 yN197 tN197) := hD
    generalize en226 : upd sN210 (vq218 : Int32).toNatClampNeg rq223 = sN226 at hP hD
    have hMS : okS sN226 := by have h9 : 0 ≤ pq2.toInt ∧ pq2.toInt ≤ 3 ∧ 0 ≤ pq3.toInt ∧ pq3.toInt ≤ 3 := (by first | exact i41_0 | exact i84_0 | exact i119_0 | exact i147_0 | exact i194_0 | exact ⟨(hp15.resolve_left cq18).2.1, (hp15.resolve_left cq18).2.2, (hp22.resolve_left cq25).2.1, (hp22.resolve_left cq25).2.2⟩); exact hMS.upr (by decide) (by decide) h9.1 h9.2.1 eq218 en226
    refine lv_aload_n hx hb dX6_does_227 rfl (lv_at hl 1 rfl) ?_
    refine va_get (D := K.1) (ci := 6) (v := .ref (a 1)) (C := RX6) (T := TX6) (N := 12) hx hb hts hinX6 hown hK hP 0 rfl rfl 1 (by decide) (hts (.fieldLink RX6 7 "CodedWordsModel" "s" "[I") (by decide +kernel)) (fun _ h9 => h9) rfl dX6_does_228 ?_
    refine lv_iconst (v := 2) hx hb dX6_does_231 (by decide) ?_
    refine lv_iload_n hx hb dX6_does_232 rfl (lv_at hl 2 rfl) ?_
    refine lv_iadd hx hb dX6_does_233 ?_
    refine lv_topi (fun vq233 eq233 => ?_)
    refine va_iald hx hb hK hP 1 0 rfl rfl (by have h9 : 0 ≤ pq2.toInt ∧ pq2.toInt ≤ 3 ∧ 0 ≤ pq3.toInt ∧ pq3.toInt ≤ 3 := (by first | exact i41_0 | exact i84_0 | exact i119_0 | exact i147_0 | exact i194_0 | exact ⟨(hp15.resolve_left cq18).2.1, (hp15.resolve_left cq18).2.2, (hp22.resolve_left cq25).2.1, (hp22.resolve_left cq25).2.2⟩); exact iq_inreg (by decide) (by decide) h9.1 h9.2.1 eq233) dX6_does_234 ?_
    refine lv_topi (fun vq234 eq234 => ?_)
    exact W.iret (v := vq234) hx hb hr (fun t ht hW => ⟨⟨vq234, (thN197, umN197, smN197, sN226, uN197, kN197, iN197, wN197, fN197, cN197, yN197, tN197), rfl, ⟨trivial, ⟨hMS, hMU, hMM, hMR, hMK, hMZ⟩⟩, by rw [ht]; exact hP, hD⟩, hS.F ht⟩) hS.2.2 dX6_does_235
  have hJ119 : ∀ (thL : Int32) (umL : Int32) (smL : Int32) (sL : Nat → Int32) (uL : Nat → Int32) (kL : Nat → Int32) (iL : Nat → Int32) (wL : Nat → Int32) (fL : Nat → Int32) (cL : Nat → Int32) (yL : Nat → Int64) (tL : Nat → Int64) (H : Heap) (locs : List Loc) (zq4 : Int32) (sk0 : Int64), (va_P K.1 vwCl (mW K a thL umL smL sL uL kL iL wL fL cL yL tL) H) → (va_D A (mW K a thL umL smL sL uL kL iL wL fL cL yL tL)) → (va_S A s.heap H locs) → (okS sL) → (okU umL) → (okM smL) → (okR umL uL) → (okK kL iL) → (okZ K smL wL fL) → (0 ≤ pq2.toInt ∧ pq2.toInt ≤ 3 ∧ 0 ≤ pq3.toInt ∧ pq3.toInt ≤ 3) → ∀ (ls : Array Slot), lv_has ls 10 [(0, .ref (a 0)), (1, .int pq1), (2, .int pq2), (3, .int pq3), (4, .int zq4)] → W p l e rmX6_does s m [.ref (a 0), .int pq1, .int pq2, .int pq3].toArray below meth c H locs 0 0 (MQ below (va_Qi (fun (r : Int32) (u : MZ) => (fun _ _ => True) r u ∧ MI (K) u) (fun u t => va_P K.1 vwCl (mZ K a u) t.heap ∧ va_D A (mZ K a u)) A) [.ref (a 0), .int pq1, .int pq2, .int pq3].toArray s 0 0 A) (F0 m 119 ls [.long sk0]) := by
    intro thL umL smL sL uL kL iL wL fL cL yL tL H locs zq4 sk0 hP hD hS hMS hMU hMM hMR hMK hMZ i119_0 ls hl
    refine lv_lstore (lv' := [(6, .long sk0), (0, .ref (a 0)), (1, .int pq1), (2, .int pq2), (3, .int pq3), (4, .int zq4)]) hx hb dX6_does_119 hl (by decide) rfl (fun ls hl => ?_)
    refine lv_lload hx hb dX6_does_121 (lv_at hl 0 rfl) ?_
    refine lv_aload_n hx hb dX6_does_123 rfl (lv_at hl 1 rfl) ?_
    refine r_i (K := K) (w := mW K a thL umL smL sL uL kL iL wL fL cL yL tL) (va_runV (As := []) (rest := [.long sk0]) ⟨hx, hb, hml, hown, hts⟩ (k_X6_top l hMS) (cwV 0 hts gX6_does_X6_top rfl rfl rfl (by decide +kernel) ⟨Nat.le_of_ble_eq_true rfl, Nat.le_of_ble_eq_true rfl⟩) (rPreV (m_rcv hK hP) hP hK hD hN) rfl rfl hl.1 rfl (lv_room (Nat.le_of_ble_eq_true rfl)) dX6_does_124 ⟨Nat.le_of_ble_eq_true rfl, Nat.le_of_ble_eq_true rfl⟩) hP hS (fun rq124 H locs hp124 hP hS => ?_)
    refine lv_i2l (v := (rq124 : Int32).toInt64) hx hb dX6_does_127 rfl ?_
    refine lv_topl (fun vq127 eq127 => ?_)
    refine W.lcmp hx hb dX6_does_128 ?_
    refine lv_topi (fun vq128 eq128 => ?_)
    refine lv_if_gt (tgt := 144) hx hb dX6_does_129 (by decide) (fun cq129 => ?_) (fun cq129 => ?_)
    · skip
      refine lv_ldc (v := (-1000004)) hx hb hown (hts (.constant RX6 83 (-1000004)) (by decide +kernel)) dX6_does_144 ?_
      exact W.iret (v := (-1000004)) hx hb hr (fun t ht hW => ⟨⟨(-1000004), (thL, umL, smL, sL, uL, kL, iL, wL, fL, cL, yL, tL), rfl, ⟨trivial, ⟨hMS, hMU, hMM, hMR, hMK, hMZ⟩⟩, by rw [ht]; exact hP, hD⟩, hS.F ht⟩) hS.2.2 dX6_does_146
    · skip
      refine lv_lload hx hb dX6_does_132 (lv_at hl 0 rfl) ?_
      refine lv_aload_n hx hb dX6_does_134 rfl (lv_at hl 1 rfl) ?_
      refine r_i (K := K) (w := mW K a thL umL smL sL uL kL iL wL fL cL yL tL) (va_runV (As := []) (rest := [.long sk0]) ⟨hx, hb, hml, hown, hts⟩ (k_X6_top l hMS) (cwV 0 hts gX6_does_X6_top rfl rfl rfl (by decide +kernel) ⟨Nat.le_of_ble_eq_true rfl, Nat.le_of_ble_eq_true rfl⟩) (rPreV (m_rcv hK hP) hP hK hD hN) rfl rfl hl.1 rfl (lv_room (Nat.le_of_ble_eq_true rfl)) dX6_does_135 ⟨Nat.le_of_ble_eq_true rfl, Nat.le_of_ble_eq_true rfl⟩) hP hS (fun rq135 H locs hp135 hP hS => ?_)
      refine lv_ineg hx hb dX6_does_138 ?_
      refine lv_topi (fun vq138 eq138 => ?_)
      refine lv_i2l (v := (vq138 : Int32).toInt64) hx hb dX6_does_139 rfl ?_
      refine lv_topl (fun vq139 eq139 => ?_)
      refine W.lcmp hx hb dX6_does_140 ?_
      refine lv_topi (fun vq140 eq140 => ?_)
      refine lv_if_ge (tgt := 147) hx hb dX6_does_141 (by decide) (fun cq141 => ?_) (fun cq141 => ?_)
      · skip
        refine lv_iload hx hb dX6_does_147 (lv_at hl 5 rfl) ?_
        refine lv_if_eq (tgt := 169) hx hb dX6_does_149 (by decide) (fun cq149 => ?_) (fun cq149 => ?_)
        · skip
          refine lv_iload_n hx hb dX6_does_169 rfl (lv_at hl 2 rfl) ?_
          refine lv_aload_n hx hb dX6_does_170 rfl (lv_at hl 1 rfl) ?_
          refine va_get (D := K.1) (ci := 6) (v := .ref (a 1)) (C := RX6) (T := TX6) (N := 12) hx hb hts hinX6 hown hK hP 0 rfl rfl 1 (by decide) (hts (.fieldLink RX6 7 "CodedWordsModel" "s" "[I") (by decide +kernel)) (fun _ h9 => h9) rfl dX6_does_171 ?_
          refine lv_bipush (v := 6) hx hb dX6_does_174 (by decide) ?_
          refine lv_iload_n hx hb dX6_does_176 rfl (lv_at hl 3 rfl) ?_
          refine lv_iadd hx hb dX6_does_177 ?_
          refine lv_topi (fun vq177 eq177 => ?_)
          refine va_iald hx hb hK hP 1 0 rfl rfl (by have h9 : 0 ≤ pq2.toInt ∧ pq2.toInt ≤ 3 ∧ 0 ≤ pq3.toInt ∧ pq3.toInt ≤ 3 := (by first | exact i41_0 | exact i84_0 | exact i119_0 | exact i147_0 | exact i194_0 | exact ⟨(hp15.resolve_left cq18).2.1, (hp15.resolve_left cq18).2.2, (hp22.resolve_left cq25).2.1, (hp22.resolve_left cq25).2.2⟩); exact iq_inreg (by decide) (by decide) h9.1 h9.2.1 eq177) dX6_does_178 ?_
          refine lv_topi (fun vq178 eq178 => ?_)
          refine lv_i2l (v := (vq178 : Int32).toInt64) hx hb dX6_does_179 rfl ?_
          refine lv_topl (fun vq179 eq179 => ?_)
          refine lv_aload_n hx hb dX6_does_180 rfl (lv_at hl 1 rfl) ?_
          refine va_get (D := K.1) (ci := 6) (v := .ref (a 1)) (C := RX6) (T := TX6) (N := 12) hx hb hts hinX6 hown hK hP 0 rfl rfl 1 (by decide) (hts (.fieldLink RX6 7 "CodedWordsModel" "s" "[I") (by decide +kernel)) (fun _ h9 => h9) rfl dX6_does_181 ?_
          refine lv_bipush (v := 6) hx hb dX6_does_184 (by decide) ?_
          refine lv_iload_n hx hb dX6_does_186 rfl (lv_at hl 4 rfl) ?_
          refine lv_iadd hx hb dX6_does_187 ?_
          refine lv_topi (fun vq187 eq187 => ?_)
          refine va_iald hx hb hK hP 1 0 rfl rfl (by have h9 : 0 ≤ pq2.toInt ∧ pq2.toInt ≤ 3 ∧ 0 ≤ pq3.toInt ∧ pq3.toInt ≤ 3 := (by first | exact i41_0 | exact i84_0 | exact i119_0 | exact i147_0 | exact i194_0 | exact ⟨(hp15.resolve_left cq18).2.1, (hp15.resolve_left cq18).2.2, (hp22.resolve_left cq25).2.1, (hp22.resolve_left cq25).2.2⟩); exact iq_inreg (by decide) (by decide) h9.2.2.1 h9.2.2.2 eq187) dX6_does_188 ?_
          refine lv_topi (fun vq188 eq188 => ?_)
          refine lv_i2l (v := (vq188 : Int32).toInt64) hx hb dX6_does_189 rfl ?_
          refine lv_topl (fun vq189 eq189 => ?_)
          refine lv_iconst (v := 1) hx hb dX6_does_190 (by decide) ?_
          refine r_l (va_runS (As := [.int pq1, .long vq179, .long vq189, .int 1]) (rest := []) ⟨hx, hb, hml, hown, hts⟩ (k_X6_makes l pq1 vq179 vq189 1 (by decide)) (va_cwS 4 hts gX6_does_X6_makes rfl rfl rfl (by decide +kernel) ⟨Nat.le_of_ble_eq_true rfl, Nat.le_of_ble_eq_true rfl⟩) (pPreS) rfl rfl hl.1 rfl (lv_room (Nat.le_of_ble_eq_true rfl)) dX6_does_191 ⟨Nat.le_of_ble_eq_true rfl, Nat.le_of_ble_eq_true rfl⟩) hP hS (fun rq191 H locs hp191 hP hS => ?_)
          exact hJ194 thL umL smL sL uL kL iL wL fL cL yL tL _ _ sk0 rq191 hP hD hS hMS hMU hMM hMR hMK hMZ (by first | exact i41_0 | exact i84_0 | exact i119_0 | exact i147_0 | exact i194_0 | exact ⟨(hp15.resolve_left cq18).2.1, (hp15.resolve_left cq18).2.2, (hp22.resolve_left cq25).2.1, (hp22.resolve_left cq25).2.2⟩) _ (lv_sub hl [1, 3, 0] rfl)
        · skip
          refine lv_ldc2 (v := 8) hx hb hown (hts (.constantLong RX6 84 8) (by decide +kernel)) dX6_does_152 ?_
          refine lv_aload_n hx hb dX6_does_155 rfl (lv_at hl 1 rfl) ?_
          refine va_get (D := K.1) (ci := 6) (v := .ref (a 1)) (C := RX6) (T := TX6) (N := 12) hx hb hts hinX6 hown hK hP 0 rfl rfl 1 (by decide) (hts (.fieldLink RX6 7 "CodedWordsModel" "s" "[I") (by decide +kernel)) (fun _ h9 => h9) rfl dX6_does_156 ?_
          refine lv_bipush (v := 6) hx hb dX6_does_159 (by decide) ?_
          refine lv_iload_n hx hb dX6_does_161 rfl (lv_at hl 3 rfl) ?_
          refine lv_iadd hx hb dX6_does_162 ?_
          refine lv_topi (fun vq162 eq162 => ?_)
          refine va_iald hx hb hK hP 1 0 rfl rfl (by have h9 : 0 ≤ pq2.toInt ∧ pq2.toInt ≤ 3 ∧ 0 ≤ pq3.toInt ∧ pq3.toInt ≤ 3 := (by first | exact i41_0 | exact i84_0 | exact i119_0 | exact i147_0 | exact i194_0 | exact ⟨(hp15.resolve_left cq18).2.1, (hp15.resolve_left cq18).2.2, (hp22.resolve_left cq25).2.1, (hp22.resolve_left cq25).2.2⟩); exact iq_inreg (by decide) (by decide) h9.1 h9.2.1 eq162) dX6_does_163 ?_
          refine lv_topi (fun vq163 eq163 => ?_)
          refine lv_i2l (v := (vq163 : Int32).toInt64) hx hb dX6_does_164 rfl ?_
          refine lv_topl (fun vq164 eq164 => ?_)
          refine lv_lmul hx hb dX6_does_165 ?_
          refine lv_topl (fun vq165 eq165 => ?_)
          refine lv_goto (tgt := 194) hx hb dX6_does_166 (by decide) ?_
          exact hJ194 thL umL smL sL uL kL iL wL fL cL yL tL _ _ sk0 vq165 hP hD hS hMS hMU hMM hMR hMK hMZ (by first | exact i41_0 | exact i84_0 | exact i119_0 | exact i147_0 | exact i194_0 | exact ⟨(hp15.resolve_left cq18).2.1, (hp15.resolve_left cq18).2.2, (hp22.resolve_left cq25).2.1, (hp22.resolve_left cq25).2.2⟩) _ (lv_sub hl [1, 3, 0] rfl)
      · skip
        refine lv_ldc (v := (-1000004)) hx hb hown (hts (.constant RX6 83 (-1000004)) (by decide +kernel)) dX6_does_144 ?_
        exact W.iret (v := (-1000004)) hx hb hr (fun t ht hW => ⟨⟨(-1000004), (thL, umL, smL, sL, uL, kL, iL, wL, fL, cL, yL, tL), rfl, ⟨trivial, ⟨hMS, hMU, hMM, hMR, hMK, hMZ⟩⟩, by rw [ht]; exact hP, hD⟩, hS.F ht⟩) hS.2.2 dX6_does_146
  have hJ84 : ∀ (thL : Int32) (umL : Int32) (smL : Int32) (sL : Nat → Int32) (uL : Nat → Int32) (kL : Nat → Int32) (iL : Nat → Int32) (wL : Nat → Int32) (fL : Nat → Int32) (cL : Nat → Int32) (yL : Nat → Int64) (tL : Nat → Int64) (H : Heap) (locs : List Loc) (zq4 : Int32) (zq5 : Int32), (va_P K.1 vwCl (mW K a thL umL smL sL uL kL iL wL fL cL yL tL) H) → (va_D A (mW K a thL umL smL sL uL kL iL wL fL cL yL tL)) → (va_S A s.heap H locs) → (okS sL) → (okU umL) → (okM smL) → (okR umL uL) → (okK kL iL) → (okZ K smL wL fL) → (0 ≤ pq2.toInt ∧ pq2.toInt ≤ 3 ∧ 0 ≤ pq3.toInt ∧ pq3.toInt ≤ 3) → ∀ (ls : Array Slot), lv_has ls 10 [(0, .ref (a 0)), (1, .int pq1), (2, .int pq2), (3, .int pq3), (4, .int zq4), (5, .int zq5)] → W p l e rmX6_does s m [.ref (a 0), .int pq1, .int pq2, .int pq3].toArray below meth c H locs 0 0 (MQ below (va_Qi (fun (r : Int32) (u : MZ) => (fun _ _ => True) r u ∧ MI (K) u) (fun u t => va_P K.1 vwCl (mZ K a u) t.heap ∧ va_D A (mZ K a u)) A) [.ref (a 0), .int pq1, .int pq2, .int pq3].toArray s 0 0 A) (F0 m 84 ls []) := by
    intro thL umL smL sL uL kL iL wL fL cL yL tL H locs zq4 zq5 hP hD hS hMS hMU hMM hMR hMK hMZ i84_0 ls hl
    refine lv_iload hx hb dX6_does_84 (lv_at hl 4 rfl) ?_
    refine lv_if_eq (tgt := 97) hx hb dX6_does_86 (by decide) (fun cq86 => ?_) (fun cq86 => ?_)
    · skip
      refine lv_iload_n hx hb dX6_does_97 rfl (lv_at hl 1 rfl) ?_
      refine lv_iload hx hb dX6_does_98 (lv_at hl 5 rfl) ?_
      refine lv_i2l (v := (zq5 : Int32).toInt64) hx hb dX6_does_100 rfl ?_
      refine lv_topl (fun vq100 eq100 => ?_)
      refine lv_aload_n hx hb dX6_does_101 rfl (lv_at hl 0 rfl) ?_
      refine va_get (D := K.1) (ci := 6) (v := .ref (a 1)) (C := RX6) (T := TX6) (N := 12) hx hb hts hinX6 hown hK hP 0 rfl rfl 1 (by decide) (hts (.fieldLink RX6 7 "CodedWordsModel" "s" "[I") (by decide +kernel)) (fun _ h9 => h9) rfl dX6_does_102 ?_
      refine lv_iconst (v := 2) hx hb dX6_does_105 (by decide) ?_
      refine lv_iload_n hx hb dX6_does_106 rfl (lv_at hl 3 rfl) ?_
      refine lv_iadd hx hb dX6_does_107 ?_
      refine lv_topi (fun vq107 eq107 => ?_)
      refine va_iald hx hb hK hP 1 0 rfl rfl (by have h9 : 0 ≤ pq2.toInt ∧ pq2.toInt ≤ 3 ∧ 0 ≤ pq3.toInt ∧ pq3.toInt ≤ 3 := (by first | exact i41_0 | exact i84_0 | exact i119_0 | exact i147_0 | exact i194_0 | exact ⟨(hp15.resolve_left cq18).2.1, (hp15.resolve_left cq18).2.2, (hp22.resolve_left cq25).2.1, (hp22.resolve_left cq25).2.2⟩); exact iq_inreg (by decide) (by decide) h9.2.2.1 h9.2.2.2 eq107) dX6_does_108 ?_
      refine lv_topi (fun vq108 eq108 => ?_)
      refine lv_i2l (v := (vq108 : Int32).toInt64) hx hb dX6_does_109 rfl ?_
      refine lv_topl (fun vq109 eq109 => ?_)
      refine lv_aload_n hx hb dX6_does_110 rfl (lv_at hl 0 rfl) ?_
      refine va_get (D := K.1) (ci := 6) (v := .ref (a 1)) (C := RX6) (T := TX6) (N := 12) hx hb hts hinX6 hown hK hP 0 rfl rfl 1 (by decide) (hts (.fieldLink RX6 7 "CodedWordsModel" "s" "[I") (by decide +kernel)) (fun _ h9 => h9) rfl dX6_does_111 ?_
      refine lv_iconst (v := 0) hx hb dX6_does_114 (by decide) ?_
      refine va_iald hx hb hK hP 1 0 rfl rfl (iq_in (by decide) (by decide)) dX6_does_115 ?_
      refine lv_topi (fun vq115 eq115 => ?_)
      refine r_l (va_runS (As := [.int pq1, .long vq100, .long vq109, .int vq115]) (rest := []) ⟨hx, hb, hml, hown, hts⟩ (k_X6_makes l pq1 vq100 vq109 vq115 (hMS.pos eq115)) (va_cwS 4 hts gX6_does_X6_makes rfl rfl rfl (by decide +kernel) ⟨Nat.le_of_ble_eq_true rfl, Nat.le_of_ble_eq_true rfl⟩) (pPreS) rfl rfl hl.1 rfl (lv_room (Nat.le_of_ble_eq_true rfl)) dX6_does_116 ⟨Nat.le_of_ble_eq_true rfl, Nat.le_of_ble_eq_true rfl⟩) hP hS (fun rq116 H locs hp116 hP hS => ?_)
      exact hJ119 thL umL smL sL uL kL iL wL fL cL yL tL _ _ zq4 rq116 hP hD hS hMS hMU hMM hMR hMK hMZ (by first | exact i41_0 | exact i84_0 | exact i119_0 | exact i147_0 | exact i194_0 | exact ⟨(hp15.resolve_left cq18).2.1, (hp15.resolve_left cq18).2.2, (hp22.resolve_left cq25).2.1, (hp22.resolve_left cq25).2.2⟩) _ (lv_sub hl [0, 1, 2, 3, 4] rfl)
    · skip
      refine lv_iload hx hb dX6_does_89 (lv_at hl 5 rfl) ?_
      refine lv_iconst (v := 2) hx hb dX6_does_91 (by decide) ?_
      refine lv_idiv hx hb dX6_does_92 (by decide) ?_
      refine lv_topi (fun vq92 eq92 => ?_)
      refine lv_i2l (v := (vq92 : Int32).toInt64) hx hb dX6_does_93 rfl ?_
      refine lv_topl (fun vq93 eq93 => ?_)
      refine lv_goto (tgt := 119) hx hb dX6_does_94 (by decide) ?_
      exact hJ119 thL umL smL sL uL kL iL wL fL cL yL tL _ _ zq4 vq93 hP hD hS hMS hMU hMM hMR hMK hMZ (by first | exact i41_0 | exact i84_0 | exact i119_0 | exact i147_0 | exact i194_0 | exact ⟨(hp15.resolve_left cq18).2.1, (hp15.resolve_left cq18).2.2, (hp22.resolve_left cq25).2.1, (hp22.resolve_left cq25).2.2⟩) _ (lv_sub hl [0, 1, 2, 3, 4] rfl)
  have hJ41 : ∀ (thL : Int32) (umL : Int32) (smL : Int32) (sL : Nat → Int32) (uL : Nat → Int32) (kL : Nat → Int32) (iL : Nat → Int32) (wL : Nat → Int32) (fL : Nat → Int32) (cL : Nat → Int32) (yL : Nat → Int64) (tL : Nat → Int64) (H : Heap) (locs : List Loc) (sk0 : Int32), (va_P K.1 vwCl (mW K a thL umL smL sL uL kL iL wL fL cL yL tL) H) → (va_D A (mW K a thL umL smL sL uL kL iL wL fL cL yL tL)) → (va_S A s.heap H locs) → (okS sL) → (okU umL) → (okM smL) → (okR umL uL) → (okK kL iL) → (okZ K smL wL fL) → (0 ≤ pq2.toInt ∧ pq2.toInt ≤ 3 ∧ 0 ≤ pq3.toInt ∧ pq3.toInt ≤ 3) → ∀ (ls : Array Slot), lv_has ls 10 [(0, .ref (a 0)), (1, .int pq1), (2, .int pq2), (3, .int pq3)] → W p l e rmX6_does s m [.ref (a 0), .int pq1, .int pq2, .int pq3].toArray below meth c H locs 0 0 (MQ below (va_Qi (fun (r : Int32) (u : MZ) => (fun _ _ => True) r u ∧ MI (K) u) (fun u t => va_P K.1 vwCl (mZ K a u) t.heap ∧ va_D A (mZ K a u)) A) [.ref (a 0), .int pq1, .int pq2, .int pq3].toArray s 0 0 A) (F0 m 41 ls [.int sk0]) := by
    intro thL umL smL sL uL kL iL wL fL cL yL tL H locs sk0 hP hD hS hMS hMU hMM hMR hMK hMZ i41_0 ls hl
    refine lv_istore (lv' := [(4, .int sk0), (0, .ref (a 0)), (1, .int pq1), (2, .int pq2), (3, .int pq3)]) hx hb dX6_does_41 hl (by decide) rfl (fun ls hl => ?_)
    refine lv_aload_n hx hb dX6_does_43 rfl (lv_at hl 1 rfl) ?_
    refine va_get (D := K.1) (ci := 6) (v := .ref (a 1)) (C := RX6) (T := TX6) (N := 12) hx hb hts hinX6 hown hK hP 0 rfl rfl 1 (by decide) (hts (.fieldLink RX6 7 "CodedWordsModel" "s" "[I") (by decide +kernel)) (fun _ h9 => h9) rfl dX6_does_44 ?_
    refine lv_iconst (v := 2) hx hb dX6_does_47 (by decide) ?_
    refine lv_iload_n hx hb dX6_does_48 rfl (lv_at hl 3 rfl) ?_
    refine lv_iadd hx hb dX6_does_49 ?_
    refine lv_topi (fun vq49 eq49 => ?_)
    refine va_iald hx hb hK hP 1 0 rfl rfl (by have h9 : 0 ≤ pq2.toInt ∧ pq2.toInt ≤ 3 ∧ 0 ≤ pq3.toInt ∧ pq3.toInt ≤ 3 := (by first | exact i41_0 | exact i84_0 | exact i119_0 | exact i147_0 | exact i194_0 | exact ⟨(hp15.resolve_left cq18).2.1, (hp15.resolve_left cq18).2.2, (hp22.resolve_left cq25).2.1, (hp22.resolve_left cq25).2.2⟩); exact iq_inreg (by decide) (by decide) h9.1 h9.2.1 eq49) dX6_does_50 ?_
    refine lv_topi (fun vq50 eq50 => ?_)
    refine lv_istore (lv' := [(5, .int vq50), (4, .int sk0), (0, .ref (a 0)), (1, .int pq1), (2, .int pq2), (3, .int pq3)]) hx hb dX6_does_51 hl (by decide) rfl (fun ls hl => ?_)
    refine lv_iload hx hb dX6_does_53 (lv_at hl 1 rfl) ?_
    refine lv_if_eq (tgt := 84) hx hb dX6_does_55 (by decide) (fun cq55 => ?_) (fun cq55 => ?_)
    · skip
      exact hJ84 thL umL smL sL uL kL iL wL fL cL yL tL _ _ sk0 vq50 hP hD hS hMS hMU hMM hMR hMK hMZ (by first | exact i41_0 | exact i84_0 | exact i119_0 | exact i147_0 | exact i194_0 | exact ⟨(hp15.resolve_left cq18).2.1, (hp15.resolve_left cq18).2.2, (hp22.resolve_left cq25).2.1, (hp22.resolve_left cq25).2.2⟩) _ (lv_sub hl [2, 3, 4, 5, 1, 0] rfl)
    · skip
      refine lv_aload_n hx hb dX6_does_58 rfl (lv_at hl 2 rfl) ?_
      refine lv_iload hx hb dX6_does_59 (lv_at hl 0 rfl) ?_
      refine r_i (K := K) (w := mW K a thL umL smL sL uL kL iL wL fL cL yL tL) (va_runV (As := [.int vq50]) (rest := []) ⟨hx, hb, hml, hown, hts⟩ (k_X6_fits l hMS vq50) (cwV 1 hts gX6_does_X6_fits rfl rfl rfl (by decide +kernel) ⟨Nat.le_of_ble_eq_true rfl, Nat.le_of_ble_eq_true rfl⟩) (rPreV (m_rcv hK hP) hP hK hD hN) rfl rfl hl.1 rfl (lv_room (Nat.le_of_ble_eq_true rfl)) dX6_does_61 ⟨Nat.le_of_ble_eq_true rfl, Nat.le_of_ble_eq_true rfl⟩) hP hS (fun rq61 H locs hp61 hP hS => ?_)
      refine lv_if_eq (tgt := 81) hx hb dX6_does_64 (by decide) (fun cq64 => ?_) (fun cq64 => ?_)
      · skip
        refine lv_ldc (v := (-1000002)) hx hb hown (hts (.constant RX6 78 (-1000002)) (by decide +kernel)) dX6_does_81 ?_
        exact W.iret (v := (-1000002)) hx hb hr (fun t ht hW => ⟨⟨(-1000002), (thL, umL, smL, sL, uL, kL, iL, wL, fL, cL, yL, tL), rfl, ⟨trivial, ⟨hMS, hMU, hMM, hMR, hMK, hMZ⟩⟩, by rw [ht]; exact hP, hD⟩, hS.F ht⟩) hS.2.2 dX6_does_83
      · skip
        refine lv_iload hx hb dX6_does_67 (lv_at hl 0 rfl) ?_
        refine lv_aload_n hx hb dX6_does_69 rfl (lv_at hl 2 rfl) ?_
        refine va_get (D := K.1) (ci := 6) (v := .ref (a 1)) (C := RX6) (T := TX6) (N := 12) hx hb hts hinX6 hown hK hP 0 rfl rfl 1 (by decide) (hts (.fieldLink RX6 7 "CodedWordsModel" "s" "[I") (by decide +kernel)) (fun _ h9 => h9) rfl dX6_does_70 ?_
        refine lv_iconst (v := 0) hx hb dX6_does_73 (by decide) ?_
        refine va_iald hx hb hK hP 1 0 rfl rfl (iq_in (by decide) (by decide)) dX6_does_74 ?_
        refine lv_topi (fun vq74 eq74 => ?_)
        refine lv_idiv hx hb dX6_does_75 (hMS.nz eq74) ?_
        refine lv_topi (fun vq75 eq75 => ?_)
        refine lv_iconst (v := 2) hx hb dX6_does_76 (by decide) ?_
        refine lv_irem hx hb dX6_does_77 (by decide) ?_
        refine lv_topi (fun vq77 eq77 => ?_)
        refine lv_if_eq (tgt := 84) hx hb dX6_does_78 (by decide) (fun cq78 => ?_) (fun cq78 => ?_)
        · skip
          exact hJ84 thL umL smL sL uL kL iL wL fL cL yL tL _ _ sk0 vq50 hP hD hS hMS hMU hMM hMR hMK hMZ (by first | exact i41_0 | exact i84_0 | exact i119_0 | exact i147_0 | exact i194_0 | exact ⟨(hp15.resolve_left cq18).2.1, (hp15.resolve_left cq18).2.2, (hp22.resolve_left cq25).2.1, (hp22.resolve_left cq25).2.2⟩) _ (lv_sub hl [2, 3, 4, 5, 1, 0] rfl)
        · skip
          refine lv_ldc (v := (-1000002)) hx hb hown (hts (.constant RX6 78 (-1000002)) (by decide +kernel)) dX6_does_81 ?_
          exact W.iret (v := (-1000002)) hx hb hr (fun t ht hW => ⟨⟨(-1000002), (thL, umL, smL, sL, uL, kL, iL, wL, fL, cL, yL, tL), rfl, ⟨trivial, ⟨hMS, hMU, hMM, hMR, hMK, hMZ⟩⟩, by rw [ht]; exact hP, hD⟩, hS.F ht⟩) hS.2.2 dX6_does_83
  refine lv_aload_n hx hb dX6_does_0 rfl (lv_at hl 0 rfl) ?_
  refine lv_iconst (v := 0) hx hb dX6_does_1 (by decide) ?_
  refine va_put (D := K.1) (ci := 6) (v := .int 0) (ty := .int) (C := RX6) (T := TX6) (N := 12) hx hb hts hinX6 tyX6 tyX6_ok nmX6 hown hK hP hD hS 0 rfl rfl 0 (by decide) (hts (.fieldLink RX6 39 "CodedWordsModel" "thrown" "I") (by decide +kernel)) (fun _ h9 => h9) rfl (by decide +kernel) rfl rfl (Nat.le_of_ble_eq_true rfl) dX6_does_2 (fun H locs hP hD hS => ?_)
  have hP : va_P K.1 vwCl (mW K a 0 um sm sA uA kA iA wA fA cA yA tA) H := hP
  have hD : va_D A (mW K a 0 um sm sA uA kA iA wA fA cA yA tA) := hD
  refine lv_iload_n hx hb dX6_does_5 rfl (lv_at hl 1 rfl) ?_
  refine lv_iconst (v := 0) hx hb dX6_does_6 (by decide) ?_
  refine lv_iconst (v := 5) hx hb dX6_does_7 (by decide) ?_
  refine r_i (va_runS (As := [.int pq1, .int 0, .int 5]) (rest := []) ⟨hx, hb, hml, hown, hts⟩ (k_X6_in l pq1 0 5) (va_cwS 3 hts gX6_does_X6_in rfl rfl rfl (by decide +kernel) ⟨Nat.le_of_ble_eq_true rfl, Nat.le_of_ble_eq_true rfl⟩) (pPreS) rfl rfl hl.1 rfl (lv_room (Nat.le_of_ble_eq_true rfl)) dX6_does_8 ⟨Nat.le_of_ble_eq_true rfl, Nat.le_of_ble_eq_true rfl⟩) hP hS (fun rq8 H locs hp8 hP hS => ?_)
  refine lv_if_eq (tgt := 28) hx hb dX6_does_11 (by decide) (fun cq11 => ?_) (fun cq11 => ?_)
  · skip
    refine lv_ldc (v := (-1000001)) hx hb hown (hts (.constant RX6 71 (-1000001)) (by decide +kernel)) dX6_does_28 ?_
    exact W.iret (v := (-1000001)) hx hb hr (fun t ht hW => ⟨⟨(-1000001), (0, um, sm, sA, uA, kA, iA, wA, fA, cA, yA, tA), rfl, ⟨trivial, ⟨hMS, hMU, hMM, hMR, hMK, hMZ⟩⟩, by rw [ht]; exact hP, hD⟩, hS.F ht⟩) hS.2.2 dX6_does_30
  · skip
    refine lv_iload_n hx hb dX6_does_14 rfl (lv_at hl 2 rfl) ?_
    refine r_i (va_runS (As := [.int pq2]) (rest := []) ⟨hx, hb, hml, hown, hts⟩ (k_X6_isRegister l pq2) (va_cwS 1 hts gX6_does_X6_isRegister rfl rfl rfl (by decide +kernel) ⟨Nat.le_of_ble_eq_true rfl, Nat.le_of_ble_eq_true rfl⟩) (pPreS) rfl rfl hl.1 rfl (lv_room (Nat.le_of_ble_eq_true rfl)) dX6_does_15 ⟨Nat.le_of_ble_eq_true rfl, Nat.le_of_ble_eq_true rfl⟩) hP hS (fun rq15 H locs hp15 hP hS => ?_)
    refine lv_if_eq (tgt := 28) hx hb dX6_does_18 (by decide) (fun cq18 => ?_) (fun cq18 => ?_)
    · skip
      refine lv_ldc (v := (-1000001)) hx hb hown (hts (.constant RX6 71 (-1000001)) (by decide +kernel)) dX6_does_28 ?_
      exact W.iret (v := (-1000001)) hx hb hr (fun t ht hW => ⟨⟨(-1000001), (0, um, sm, sA, uA, kA, iA, wA, fA, cA, yA, tA), rfl, ⟨trivial, ⟨hMS, hMU, hMM, hMR, hMK, hMZ⟩⟩, by rw [ht]; exact hP, hD⟩, hS.F ht⟩) hS.2.2 dX6_does_30
    · skip
      refine lv_iload_n hx hb dX6_does_21 rfl (lv_at hl 3 rfl) ?_
      refine r_i (va_runS (As := [.int pq3]) (rest := []) ⟨hx, hb, hml, hown, hts⟩ (k_X6_isRegister l pq3) (va_cwS 1 hts gX6_does_X6_isRegister rfl rfl rfl (by decide +kernel) ⟨Nat.le_of_ble_eq_true rfl, Nat.le_of_ble_eq_true rfl⟩) (pPreS) rfl rfl hl.1 rfl (lv_room (Nat.le_of_ble_eq_true rfl)) dX6_does_22 ⟨Nat.le_of_ble_eq_true rfl, Nat.le_of_ble_eq_true rfl⟩) hP hS (fun rq22 H locs hp22 hP hS => ?_)
      refine lv_if_ne (tgt := 31) hx hb dX6_does_25 (by decide) (fun cq25 => ?_) (fun cq25 => ?_)
      · skip
        refine lv_iload_n hx hb dX6_does_31 rfl (lv_at hl 1 rfl) ?_
        refine lv_iconst (v := 5) hx hb dX6_does_32 (by decide) ?_
        refine lv_icmp_ne (tgt := 40) hx hb dX6_does_33 (by decide) (fun cq33 => ?_) (fun cq33 => ?_)
        · skip
          refine lv_iconst (v := 0) hx hb dX6_does_40 (by decide) ?_
          exact hJ41 0 um sm sA uA kA iA wA fA cA yA tA _ _ 0 hP hD hS hMS hMU hMM hMR hMK hMZ (by first | exact i41_0 | exact i84_0 | exact i119_0 | exact i147_0 | exact i194_0 | exact ⟨(hp15.resolve_left cq18).2.1, (hp15.resolve_left cq18).2.2, (hp22.resolve_left cq25).2.1, (hp22.resolve_left cq25).2.2⟩) _ (lv_sub hl [0, 1, 2, 3] rfl)
        · skip
          refine lv_iconst (v := 1) hx hb dX6_does_36 (by decide) ?_
          refine lv_goto (tgt := 41) hx hb dX6_does_37 (by decide) ?_
          exact hJ41 0 um sm sA uA kA iA wA fA cA yA tA _ _ 1 hP hD hS hMS hMU hMM hMR hMK hMZ (by first | exact i41_0 | exact i84_0 | exact i119_0 | exact i147_0 | exact i194_0 | exact ⟨(hp15.resolve_left cq18).2.1, (hp15.resolve_left cq18).2.2, (hp22.resolve_left cq25).2.1, (hp22.resolve_left cq25).2.2⟩) _ (lv_sub hl [0, 1, 2, 3] rfl)
      · skip
        refine lv_ldc (v := (-1000001)) hx hb hown (hts (.constant RX6 71 (-1000001)) (by decide +kernel)) dX6_does_28 ?_
        exact W.iret (v := (-1000001)) hx hb hr (fun t ht hW => ⟨⟨(-1000001), (0, um, sm, sA, uA, kA, iA, wA, fA, cA, yA, tA), rfl, ⟨trivial, ⟨hMS, hMU, hMM, hMR, hMK, hMZ⟩⟩, by rw [ht]; exact hP, hD⟩, hS.F ht⟩) hS.2.2 dX6_does_30

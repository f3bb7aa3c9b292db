abbrev rmX2_init : Room := { frames := 1, cells := 2, slots := 8, locals := 12 }
set_option maxHeartbeats 4000000 in
set_option maxRecDepth 100000 in
theorem k_X2_init (l : Launch) {K : Cx} {G0 : Nat → Nat} {w0 : va_W} (hT : TH K G0 w0) (sz : Nat) {h0 : Nat} {k_h0 : Nat} (z_h0 : G0 h0 = 0) (hk_h0 : w0[k_h0]? = some (h0, .inr (2, [.int 0, .int 0, .null, .null])))  : Cv l K yX2_init wsX2_init rmX2_init 2 8 [.ref h0] G0 w0 sz (fun G1 _ => G1 h0 = 3) := by
  refine Met.ofW (cc := cX2_init) (maxL := 1) (ret := none) (by decide) rfl ?_
  intro p e s m args below meth c s₁ B hml hv
  obtain ⟨rfl, hsz, hP, hK, hD0, hN⟩ := hv
  have hx := B.exec
  have hb := B.bytes
  have hr := B.returns
  have hts := atoms_spec (ws := wsX2_init) B.pre
  have hown : s.vm.findClass RX2 = some m.cls := findClass_of_methodNamed B.named
  have hlocks := B.notSynchronized
  have hin : meth.name = "<init>" := (name_of_methodNamed B.named B.method).1
  have hinX2 : ∀ w ∈ wsX20, w ∈ wsX2_init := by decide +kernel
  subst hsz
  have hD := hD0.self (sz := s.heap.size)
  generalize hAe : va_A w0 s.heap.size = A at hD ⊢
  have hA : ∀ q : Nat, s.heap.size ≤ q → A q := fun q h => by rw [← hAe]; exact Or.inr h
  have hS : va_S A s.heap s.heap [] := va_S.rf
  have hG : gLe G0 G0 := gLe.rf
  have hl := lv_entry ([.ref h0]) (n := 1) (Nat.le_of_ble_eq_true rfl)
  rw [lg_entry_eq]
  generalize (lg_sl ([.ref h0]) ++ List.replicate (1 - (lg_sl ([.ref h0])).length) Slot.unset).toArray = ls at hl ⊢
  have hl : lv_has ls 1 [(0, .ref h0)] := hl
  refine lv_aload_n hx hb dX2_init_0 rfl (lv_at hl 0 rfl) ?_
  refine W.objInit hx hb hown (hts (.methodLink RX2 3 objectInit) (by decide +kernel)) (hts (.instanceMethod objectInit) (by decide +kernel)) (hts (.code objectInit ⟨#[0xb1]⟩ 1 none) (by decide +kernel)) rfl (by rw [hml]; exact hl.1) rfl dX2_init_1 (Nat.le_of_ble_eq_true rfl) (Nat.le_of_ble_eq_true rfl) ?_
  refine W.eq (g2 := F0 m 4 ls []) rfl ?_
  refine lv_aload_n hx hb dX2_init_4 rfl (lv_at hl 0 rfl) ?_
  refine lv_bipush (v := 13) hx hb dX2_init_5 (by decide) ?_
  refine va_put (D := K.1) (ci := 2) (v := .int 13) (ty := .int) (C := RX2) (T := TX2) (N := 4) hx hb hts hinX2 tyX2 tyX2_ok nmX2 hown hK hP hD hS k_h0 hk_h0 rfl 0 (by decide) (hts (.fieldLink RX2 9 "CodedWords$Code" "a" "I") (by decide +kernel)) (fun _ h9 => h9) rfl (by decide +kernel) rfl rfl (Nat.le_of_ble_eq_true rfl) dX2_init_7 (fun H locs hP hD hS => ?_)
  have hP : va_P K.1 vwCl (w0.set k_h0 (h0, .inr (2, [.int 13, .int 0, .null, .null]))) H := hP
  have hD : va_D A (w0.set k_h0 (h0, .inr (2, [.int 13, .int 0, .null, .null]))) := hD
  have hT : TH (K) G0 (w0.set k_h0 (h0, .inr (2, [.int 13, .int 0, .null, .null]))) := hT.set hk_h0 (fun qn => absurd z_h0 qn)
  have hk_h0 := tw_set (n := (h0, .inr (2, [.int 13, .int 0, .null, .null]))) hk_h0
  generalize w0.set k_h0 (h0, .inr (2, [.int 13, .int 0, .null, .null])) = w at hP hD hT hk_h0
  refine lv_aload_n hx hb dX2_init_10 rfl (lv_at hl 0 rfl) ?_
  refine lv_bipush (v := 9) hx hb dX2_init_11 (by decide) ?_
  refine va_put (D := K.1) (ci := 2) (v := .int 9) (ty := .int) (C := RX2) (T := TX2) (N := 4) hx hb hts hinX2 tyX2 tyX2_ok nmX2 hown hK hP hD hS k_h0 hk_h0 rfl 1 (by decide) (hts (.fieldLink RX2 15 "CodedWords$Code" "width" "I") (by decide +kernel)) (fun _ h9 => h9) rfl (by decide +kernel) rfl rfl (Nat.le_of_ble_eq_true rfl) dX2_init_13 (fun H locs hP hD hS => ?_)
  have hP : va_P K.1 vwCl (w.set k_h0 (h0, .inr (2, [.int 13, .int 9, .null, .null]))) H := hP
  have hD : va_D A (w.set k_h0 (h0, .inr (2, [.int 13, .int 9, .null, .null]))) := hD
  have hT : TH (K) G0 (w.set k_h0 (h0, .inr (2, [.int 13, .int 9, .null, .null]))) := hT.set hk_h0 (fun qn => absurd z_h0 qn)
  have hk_h0 := tw_set (n := (h0, .inr (2, [.int 13, .int 9, .null, .null]))) hk_h0
  generalize w.set k_h0 (h0, .inr (2, [.int 13, .int 9, .null, .null])) = w at hP hD hT hk_h0
  refine lv_aload_n hx hb dX2_init_16 rfl (lv_at hl 0 rfl) ?_
  refine lv_iconst (v := 4) hx hb dX2_init_17 (by decide) ?_
  refine t_newi (K := K) hx hb (hts (.arrayClass .int) (by decide +kernel)) hK hP hD hS hA hT 7 rfl (by decide) (by decide) (Nat.le_of_ble_eq_true rfl) (Nat.le_of_ble_eq_true rfl) dX2_init_18 (fun qq18 G w H hg g_q18 hzz hT hkq hP hD hS => ?_)
  have hG := hG.tr hg
  obtain ⟨hk_h0, hne_h0⟩ := hkq _ _ hk_h0
  have z_h0 := (hzz _ hne_h0).trans z_h0
  refine va_putF (D := K.1) (ci := 2) (v := .ref qq18) (ty := .array .int) (C := RX2) (T := TX2) (N := 4) hx hb hts hinX2 tyX2 tyX2_ok nmX2 hown hK hP hD hS k_h0 hk_h0 rfl 2 (by decide) (hts (.fieldLink RX2 18 "CodedWords$Code" "words" "[I") (by decide +kernel)) (fun _ h9 => h9) rfl hin rfl (by decide +kernel) rfl rfl (Nat.le_of_ble_eq_true rfl) dX2_init_20 (fun H locs hP hD hS => ?_)
  have hP : va_P K.1 vwCl (w.set k_h0 (h0, .inr (2, [.int 13, .int 9, .ref qq18, .null]))) H := hP
  have hD : va_D A (w.set k_h0 (h0, .inr (2, [.int 13, .int 9, .ref qq18, .null]))) := hD
  have hT : TH (K) G (w.set k_h0 (h0, .inr (2, [.int 13, .int 9, .ref qq18, .null]))) := hT.set hk_h0 (fun qn => absurd z_h0 qn)
  have hk_h0 := tw_set (n := (h0, .inr (2, [.int 13, .int 9, .ref qq18, .null]))) hk_h0
  generalize w.set k_h0 (h0, .inr (2, [.int 13, .int 9, .ref qq18, .null])) = w at hP hD hT hk_h0
  refine lv_aload_n hx hb dX2_init_23 rfl (lv_at hl 0 rfl) ?_
  refine lv_iconst (v := 4) hx hb dX2_init_24 (by decide) ?_
  refine t_newi (K := K) hx hb (hts (.arrayClass .int) (by decide +kernel)) hK hP hD hS hA hT 7 rfl (by decide) (by decide) (Nat.le_of_ble_eq_true rfl) (Nat.le_of_ble_eq_true rfl) dX2_init_25 (fun qq25 G w H hg g_q25 hzz hT hkq hP hD hS => ?_)
  have hG := hG.tr hg
  obtain ⟨hk_h0, hne_h0⟩ := hkq _ _ hk_h0
  have z_h0 := (hzz _ hne_h0).trans z_h0
  have g_q18 := hg.at g_q18 (by decide)
  refine va_putF (D := K.1) (ci := 2) (v := .ref qq25) (ty := .array .int) (C := RX2) (T := TX2) (N := 4) hx hb hts hinX2 tyX2 tyX2_ok nmX2 hown hK hP hD hS k_h0 hk_h0 rfl 3 (by decide) (hts (.fieldLink RX2 22 "CodedWords$Code" "residues" "[I") (by decide +kernel)) (fun _ h9 => h9) rfl hin rfl (by decide +kernel) rfl rfl (Nat.le_of_ble_eq_true rfl) dX2_init_27 (fun H locs hP hD hS => ?_)
  have hP : va_P K.1 vwCl (w.set k_h0 (h0, .inr (2, [.int 13, .int 9, .ref qq18, .ref qq25]))) H := hP
  have hD : va_D A (w.set k_h0 (h0, .inr (2, [.int 13, .int 9, .ref qq18, .ref qq25]))) := hD
  have hT : TH (K) G (w.set k_h0 (h0, .inr (2, [.int 13, .int 9, .ref qq18, .ref qq25]))) := hT.set hk_h0 (fun qn => absurd z_h0 qn)
  have hk_h0 := tw_set (n := (h0, .inr (2, [.int 13, .int 9, .ref qq18, .ref qq25]))) hk_h0
  generalize w.set k_h0 (h0, .inr (2, [.int 13, .int 9, .ref qq18, .ref qq25])) = w at hP hD hT hk_h0
  obtain ⟨G, hg, g_h0, hT⟩ := hT.type (kd := 3) hk_h0 z_h0 (fun qu => absurd qu (by decide)) (fun G1 hg1 => ⟨_, _, _, _, rfl, hg1.at g_q18 (by decide), hg1.at g_q25 (by decide)⟩)
  have hG := hG.tr hg
  exact W.vret hx hb hr (fun t ht hW => ⟨⟨(G, w), rfl, ⟨g_h0, hG, hT⟩, by rw [ht]; exact hP, hD⟩, hS.F ht⟩) hS.2.2 dX2_init_30
abbrev rmX0_init : Room := { frames := 1, cells := 1, slots := 2, locals := 12 }
set_option maxHeartbeats 4000000 in
set_option maxRecDepth 100000 in
theorem k_X0_init (l : Launch) {K : Cx} {G0 : Nat → Nat} {w0 : va_W} (hT : TH K G0 w0) (sz : Nat) {h0 : Nat} {k_h0 : Nat} (z_h0 : G0 h0 = 0) (hk_h0 : w0[k_h0]? = some (h0, .inr (0, [.null])))  : Cv l K yX0_init wsX0_init rmX0_init 1 2 [.ref h0] G0 w0 sz (fun G1 _ => G1 h0 = 1) := by
  refine Met.ofW (cc := cX0_init) (maxL := 1) (ret := none) (by decide) rfl ?_
  intro p e s m args below meth c s₁ B hml hv
  obtain ⟨rfl, hsz, hP, hK, hD0, hN⟩ := hv
  have hx := B.exec
  have hb := B.bytes
  have hr := B.returns
  have hts := atoms_spec (ws := wsX0_init) B.pre
  have hown : s.vm.findClass RX0 = some m.cls := findClass_of_methodNamed B.named
  have hlocks := B.notSynchronized
  have hin : meth.name = "<init>" := (name_of_methodNamed B.named B.method).1
  have hinX0 : ∀ w ∈ wsX00, w ∈ wsX0_init := by decide +kernel
  subst hsz
  have hD := hD0.self (sz := s.heap.size)
  generalize hAe : va_A w0 s.heap.size = A at hD ⊢
  have hA : ∀ q : Nat, s.heap.size ≤ q → A q := fun q h => by rw [← hAe]; exact Or.inr h
  have hS : va_S A s.heap s.heap [] := va_S.rf
  have hG : gLe G0 G0 := gLe.rf
  have hl := lv_entry ([.ref h0]) (n := 1) (Nat.le_of_ble_eq_true rfl)
  rw [lg_entry_eq]
  generalize (lg_sl ([.ref h0]) ++ List.replicate (1 - (lg_sl ([.ref h0])).length) Slot.unset).toArray = ls at hl ⊢
  have hl : lv_has ls 1 [(0, .ref h0)] := hl
  refine lv_aload_n hx hb dX0_init_0 rfl (lv_at hl 0 rfl) ?_
  refine W.objInit hx hb hown (hts (.methodLink RX0 3 objectInit) (by decide +kernel)) (hts (.instanceMethod objectInit) (by decide +kernel)) (hts (.code objectInit ⟨#[0xb1]⟩ 1 none) (by decide +kernel)) rfl (by rw [hml]; exact hl.1) rfl dX0_init_1 (Nat.le_of_ble_eq_true rfl) (Nat.le_of_ble_eq_true rfl) ?_
  refine W.eq (g2 := F0 m 4 ls []) rfl ?_
  refine lv_aload_n hx hb dX0_init_4 rfl (lv_at hl 0 rfl) ?_
  refine lv_iconst (v := 2) hx hb dX0_init_5 (by decide) ?_
  refine t_newq hx hb hown (hts (.classLink RX0 9 RX2) (by decide +kernel)) hN hK hP hD hS hA hT 12 rfl (by decide) (by decide) (by decide) (Nat.le_of_ble_eq_true rfl) (Nat.le_of_ble_eq_true rfl) dX0_init_6 (fun qq6 G w H hg g_q6 hzz hT hkq hP hD hS => ?_)
  have hG := hG.tr hg
  obtain ⟨hk_h0, hne_h0⟩ := hkq _ _ hk_h0
  have z_h0 := (hzz _ hne_h0).trans z_h0
  refine va_putF (D := K.1) (ci := 0) (v := .ref qq6) (ty := .array (.object "CodedWords$Code")) (C := RX0) (T := TX0) (N := 1) hx hb hts hinX0 tyX0 tyX0_ok nmX0 hown hK hP hD hS k_h0 hk_h0 rfl 0 (by decide) (hts (.fieldLink RX0 11 "CodedWords$Album" "kept" "[LCodedWords$Code;") (by decide +kernel)) (fun _ h9 => h9) rfl hin rfl (by decide +kernel) rfl rfl (Nat.le_of_ble_eq_true rfl) dX0_init_9 (fun H locs hP hD hS => ?_)
  have hP : va_P K.1 vwCl (w.set k_h0 (h0, .inr (0, [.ref qq6]))) H := hP
  have hD : va_D A (w.set k_h0 (h0, .inr (0, [.ref qq6]))) := hD
  have hT : TH (K) G (w.set k_h0 (h0, .inr (0, [.ref qq6]))) := hT.set hk_h0 (fun qn => absurd z_h0 qn)
  have hk_h0 := tw_set (n := (h0, .inr (0, [.ref qq6]))) hk_h0
  generalize w.set k_h0 (h0, .inr (0, [.ref qq6])) = w at hP hD hT hk_h0
  obtain ⟨G, hg, g_h0, hT⟩ := hT.type (kd := 1) hk_h0 z_h0 (fun qu => absurd qu (by decide)) (fun G1 hg1 => ⟨_, rfl, hg1.at g_q6 (by decide)⟩)
  have hG := hG.tr hg
  exact W.vret hx hb hr (fun t ht hW => ⟨⟨(G, w), rfl, ⟨g_h0, hG, hT⟩, by rw [ht]; exact hP, hD⟩, hS.F ht⟩) hS.2.2 dX0_init_12
abbrev rmX1_init : Room := { frames := 1, cells := 2, slots := 398, locals := 12 }
set_option maxHeartbeats 4000000 in
set_option maxRecDepth 100000 in
theorem k_X1_init (l : Launch) {K : Cx} {G0 : Nat → Nat} {w0 : va_W} (hT : TH K G0 w0) (sz : Nat) {h0 : Nat} {k_h0 : Nat} (z_h0 : G0 h0 = 0) (hk_h0 : w0[k_h0]? = some (h0, .inr (1, [.null, .null])))  : Cv l K yX1_init wsX1_init rmX1_init 2 398 [.ref h0] G0 w0 sz (fun G1 _ => G1 h0 = 2) := by
  refine Met.ofW (cc := cX1_init) (maxL := 1) (ret := none) (by decide) rfl ?_
  intro p e s m args below meth c s₁ B hml hv
  obtain ⟨rfl, hsz, hP, hK, hD0, hN⟩ := hv
  have hx := B.exec
  have hb := B.bytes
  have hr := B.returns
  have hts := atoms_spec (ws := wsX1_init) B.pre
  have hown : s.vm.findClass RX1 = some m.cls := findClass_of_methodNamed B.named
  have hlocks := B.notSynchronized
  have hin : meth.name = "<init>" := (name_of_methodNamed B.named B.method).1
  have hinX1 : ∀ w ∈ wsX10, w ∈ wsX1_init := by decide +kernel
  subst hsz
  have hD := hD0.self (sz := s.heap.size)
  generalize hAe : va_A w0 s.heap.size = A at hD ⊢
  have hA : ∀ q : Nat, s.heap.size ≤ q → A q := fun q h => by rw [← hAe]; exact Or.inr h
  have hS : va_S A s.heap s.heap [] := va_S.rf
  have hG : gLe G0 G0 := gLe.rf
  have hl := lv_entry ([.ref h0]) (n := 1) (Nat.le_of_ble_eq_true rfl)
  rw [lg_entry_eq]
  generalize (lg_sl ([.ref h0]) ++ List.replicate (1 - (lg_sl ([.ref h0])).length) Slot.unset).toArray = ls at hl ⊢
  have hl : lv_has ls 1 [(0, .ref h0)] := hl
  refine lv_aload_n hx hb dX1_init_0 rfl (lv_at hl 0 rfl) ?_
  refine W.objInit hx hb hown (hts (.methodLink RX1 3 objectInit) (by decide +kernel)) (hts (.instanceMethod objectInit) (by decide +kernel)) (hts (.code objectInit ⟨#[0xb1]⟩ 1 none) (by decide +kernel)) rfl (by rw [hml]; exact hl.1) rfl dX1_init_1 (Nat.le_of_ble_eq_true rfl) (Nat.le_of_ble_eq_true rfl) ?_
  refine W.eq (g2 := F0 m 4 ls []) rfl ?_
  refine lv_aload_n hx hb dX1_init_4 rfl (lv_at hl 0 rfl) ?_
  refine lv_sipush (v := 199) hx hb dX1_init_5 (by decide) ?_
  refine t_newi (K := K) hx hb (hts (.arrayClass .int) (by decide +kernel)) hK hP hD hS hA hT 10 rfl (by decide) (by decide) (Nat.le_of_ble_eq_true rfl) (Nat.le_of_ble_eq_true rfl) dX1_init_8 (fun qq8 G w H hg g_q8 hzz hT hkq hP hD hS => ?_)
  have hG := hG.tr hg
  obtain ⟨hk_h0, hne_h0⟩ := hkq _ _ hk_h0
  have z_h0 := (hzz _ hne_h0).trans z_h0
  refine va_putF (D := K.1) (ci := 1) (v := .ref qq8) (ty := .array .int) (C := RX1) (T := TX1) (N := 2) hx hb hts hinX1 tyX1 tyX1_ok nmX1 hown hK hP hD hS k_h0 hk_h0 rfl 0 (by decide) (hts (.fieldLink RX1 9 "CodedWords$Chances" "ways" "[I") (by decide +kernel)) (fun _ h9 => h9) rfl hin rfl (by decide +kernel) rfl rfl (Nat.le_of_ble_eq_true rfl) dX1_init_10 (fun H locs hP hD hS => ?_)
  have hP : va_P K.1 vwCl (w.set k_h0 (h0, .inr (1, [.ref qq8, .null]))) H := hP
  have hD : va_D A (w.set k_h0 (h0, .inr (1, [.ref qq8, .null]))) := hD
  have hT : TH (K) G (w.set k_h0 (h0, .inr (1, [.ref qq8, .null]))) := hT.set hk_h0 (fun qn => absurd z_h0 qn)
  have hk_h0 := tw_set (n := (h0, .inr (1, [.ref qq8, .null]))) hk_h0
  generalize w.set k_h0 (h0, .inr (1, [.ref qq8, .null])) = w at hP hD hT hk_h0
  refine lv_aload_n hx hb dX1_init_13 rfl (lv_at hl 0 rfl) ?_
  refine lv_sipush (v := 199) hx hb dX1_init_14 (by decide) ?_
  refine t_newi (K := K) hx hb (hts (.arrayClass .int) (by decide +kernel)) hK hP hD hS hA hT 10 rfl (by decide) (by decide) (Nat.le_of_ble_eq_true rfl) (Nat.le_of_ble_eq_true rfl) dX1_init_17 (fun qq17 G w H hg g_q17 hzz hT hkq hP hD hS => ?_)
  have hG := hG.tr hg
  obtain ⟨hk_h0, hne_h0⟩ := hkq _ _ hk_h0
  have z_h0 := (hzz _ hne_h0).trans z_h0
  have g_q8 := hg.at g_q8 (by decide)
  refine va_putF (D := K.1) (ci := 1) (v := .ref qq17) (ty := .array .int) (C := RX1) (T := TX1) (N := 2) hx hb hts hinX1 tyX1 tyX1_ok nmX1 hown hK hP hD hS k_h0 hk_h0 rfl 1 (by decide) (hts (.fieldLink RX1 15 "CodedWords$Chances" "waysOneMore" "[I") (by decide +kernel)) (fun _ h9 => h9) rfl hin rfl (by decide +kernel) rfl rfl (Nat.le_of_ble_eq_true rfl) dX1_init_19 (fun H locs hP hD hS => ?_)
  have hP : va_P K.1 vwCl (w.set k_h0 (h0, .inr (1, [.ref qq8, .ref qq17]))) H := hP
  have hD : va_D A (w.set k_h0 (h0, .inr (1, [.ref qq8, .ref qq17]))) := hD
  have hT : TH (K) G (w.set k_h0 (h0, .inr (1, [.ref qq8, .ref qq17]))) := hT.set hk_h0 (fun qn => absurd z_h0 qn)
  have hk_h0 := tw_set (n := (h0, .inr (1, [.ref qq8, .ref qq17]))) hk_h0
  generalize w.set k_h0 (h0, .inr (1, [.ref qq8, .ref qq17])) = w at hP hD hT hk_h0
  obtain ⟨G, hg, g_h0, hT⟩ := hT.type (kd := 2) hk_h0 z_h0 (fun qu => absurd qu (by decide)) (fun G1 hg1 => ⟨_, _, rfl, hg1.at g_q8 (by decide), hg1.at g_q17 (by decide)⟩)
  have hG := hG.tr hg
  exact W.vret hx hb hr (fun t ht hW => ⟨⟨(G, w), rfl, ⟨g_h0, hG, hT⟩, by rw [ht]; exact hP, hD⟩, hS.F ht⟩) hS.2.2 dX1_init_22
abbrev rmX4_init : Room := { frames := 1, cells := 3, slots := 111, locals := 12 }
set_option maxHeartbeats 4000000 in
set_option maxRecDepth 100000 in
theorem k_X4_init (l : Launch) {K : Cx} {G0 : Nat → Nat} {w0 : va_W} (hT : TH K G0 w0) (sz : Nat) {h0 : Nat} {k_h0 : Nat} (z_h0 : G0 h0 = 0) (hk_h0 : w0[k_h0]? = some (h0, .inr (4, [.null, .null, .null, .int 0]))) (hK0 : ¬ okN (snK K)) : CvK l K (Kw K sn0) yX4_init wsX4_init rmX4_init 3 111 [.ref h0] G0 w0 sz (fun G1 _ => G1 h0 = 5) := by
  refine Met.ofW (cc := cX4_init) (maxL := 1) (ret := none) (by decide) rfl ?_
  intro p e s m args below meth c s₁ B hml hv
  obtain ⟨rfl, hsz, hP, hK, hD0, hN⟩ := hv
  have hx := B.exec
  have hb := B.bytes
  have hr := B.returns
  have hts := atoms_spec (ws := wsX4_init) B.pre
  have hown : s.vm.findClass RX4 = some m.cls := findClass_of_methodNamed B.named
  have hlocks := B.notSynchronized
  have hin : meth.name = "<init>" := (name_of_methodNamed B.named B.method).1
  have hinX4 : ∀ w ∈ wsX40, w ∈ wsX4_init := by decide +kernel
  subst hsz
  have hD := hD0.self (sz := s.heap.size)
  generalize hAe : va_A w0 s.heap.size = A at hD ⊢
  have hA : ∀ q : Nat, s.heap.size ≤ q → A q := fun q h => by rw [← hAe]; exact Or.inr h
  have hS : va_S A s.heap s.heap [] := va_S.rf
  have hG : gLe G0 G0 := gLe.rf
  have hl := lv_entry ([.ref h0]) (n := 1) (Nat.le_of_ble_eq_true rfl)
  rw [lg_entry_eq]
  generalize (lg_sl ([.ref h0]) ++ List.replicate (1 - (lg_sl ([.ref h0])).length) Slot.unset).toArray = ls at hl ⊢
  have hl : lv_has ls 1 [(0, .ref h0)] := hl
  have hu := hT.none hK0
  have hT : TH (Kw K sn0) G0 w0 := hT.sn0 hu sn0
  have hu8 : ∀ b : Nat, G0 b ≠ 8 := fun b q => hu b (Or.inr (Or.inl q))
  have hu13 : ∀ b : Nat, G0 b ≠ 13 := fun b q => hu b (Or.inr (Or.inr q))
  have hu5 : ∀ b : Nat, G0 b ≠ 5 := fun b q => hu b (Or.inl q)
  refine lv_aload_n hx hb dX4_init_0 rfl (lv_at hl 0 rfl) ?_
  refine W.objInit hx hb hown (hts (.methodLink RX4 3 objectInit) (by decide +kernel)) (hts (.instanceMethod objectInit) (by decide +kernel)) (hts (.code objectInit ⟨#[0xb1]⟩ 1 none) (by decide +kernel)) rfl (by rw [hml]; exact hl.1) rfl dX4_init_1 (Nat.le_of_ble_eq_true rfl) (Nat.le_of_ble_eq_true rfl) ?_
  refine W.eq (g2 := F0 m 4 ls []) rfl ?_
  refine lv_aload_n hx hb dX4_init_4 rfl (lv_at hl 0 rfl) ?_
  refine lv_bipush (v := 6) hx hb dX4_init_5 (by decide) ?_
  refine t_newi6 (K := Kw K sn0) hx hb (hts (.arrayClass .int) (by decide +kernel)) hK hP hD hS hA hT 8 rfl (by decide) hu8 (fun _ => ⟨rfl, okN0⟩) (by decide) (by decide) (Nat.le_of_ble_eq_true rfl) (Nat.le_of_ble_eq_true rfl) dX4_init_7 (fun qq7 G w H hg g_q7 hzz hT hkq hP hD hS => ?_)
  have hG := hG.tr hg
  obtain ⟨hk_h0, hne_h0⟩ := hkq _ _ hk_h0
  have z_h0 := (hzz _ hne_h0).trans z_h0
  have hu13 : ∀ b : Nat, G b ≠ 13 := nw_ne hu13 hzz g_q7 (by decide)
  have hu5 : ∀ b : Nat, G b ≠ 5 := nw_ne hu5 hzz g_q7 (by decide)
  refine va_putF (D := K.1) (ci := 4) (v := .ref qq7) (ty := .array .int) (C := RX4) (T := TX4) (N := 4) hx hb hts hinX4 tyX4 tyX4_ok nmX4 hown hK hP hD hS k_h0 hk_h0 rfl 0 (by decide) (hts (.fieldLink RX4 9 "CodedWords$Search" "words" "[I") (by decide +kernel)) (fun _ h9 => h9) rfl hin rfl (by decide +kernel) rfl rfl (Nat.le_of_ble_eq_true rfl) dX4_init_9 (fun H locs hP hD hS => ?_)
  have hP : va_P K.1 vwCl (w.set k_h0 (h0, .inr (4, [.ref qq7, .null, .null, .int 0]))) H := hP
  have hD : va_D A (w.set k_h0 (h0, .inr (4, [.ref qq7, .null, .null, .int 0]))) := hD
  have hT : TH (Kw K sn0) G (w.set k_h0 (h0, .inr (4, [.ref qq7, .null, .null, .int 0]))) := hT.set hk_h0 (fun qn => absurd z_h0 qn)
  have hk_h0 := tw_set (n := (h0, .inr (4, [.ref qq7, .null, .null, .int 0]))) hk_h0
  generalize w.set k_h0 (h0, .inr (4, [.ref qq7, .null, .null, .int 0])) = w at hP hD hT hk_h0
  refine lv_aload_n hx hb dX4_init_12 rfl (lv_at hl 0 rfl) ?_
  refine lv_bipush (v := 6) hx hb dX4_init_13 (by decide) ?_
  refine t_newi6 (K := Kw K sn0) hx hb (hts (.arrayClass .int) (by decide +kernel)) hK hP hD hS hA hT 13 rfl (by decide) hu13 (fun _ => ⟨rfl, okN0⟩) (by decide) (by decide) (Nat.le_of_ble_eq_true rfl) (Nat.le_of_ble_eq_true rfl) dX4_init_15 (fun qq15 G w H hg g_q15 hzz hT hkq hP hD hS => ?_)
  have hG := hG.tr hg
  obtain ⟨hk_h0, hne_h0⟩ := hkq _ _ hk_h0
  have z_h0 := (hzz _ hne_h0).trans z_h0
  skip
  have hu5 : ∀ b : Nat, G b ≠ 5 := nw_ne hu5 hzz g_q15 (by decide)
  have g_q7 := hg.at g_q7 (by decide)
  refine va_putF (D := K.1) (ci := 4) (v := .ref qq15) (ty := .array .int) (C := RX4) (T := TX4) (N := 4) hx hb hts hinX4 tyX4 tyX4_ok nmX4 hown hK hP hD hS k_h0 hk_h0 rfl 1 (by decide) (hts (.fieldLink RX4 15 "CodedWords$Search" "fits" "[I") (by decide +kernel)) (fun _ h9 => h9) rfl hin rfl (by decide +kernel) rfl rfl (Nat.le_of_ble_eq_true rfl) dX4_init_17 (fun H locs hP hD hS => ?_)
  have hP : va_P K.1 vwCl (w.set k_h0 (h0, .inr (4, [.ref qq7, .ref qq15, .null, .int 0]))) H := hP
  have hD : va_D A (w.set k_h0 (h0, .inr (4, [.ref qq7, .ref qq15, .null, .int 0]))) := hD
  have hT : TH (Kw K sn0) G (w.set k_h0 (h0, .inr (4, [.ref qq7, .ref qq15, .null, .int 0]))) := hT.set hk_h0 (fun qn => absurd z_h0 qn)
  have hk_h0 := tw_set (n := (h0, .inr (4, [.ref qq7, .ref qq15, .null, .int 0]))) hk_h0
  generalize w.set k_h0 (h0, .inr (4, [.ref qq7, .ref qq15, .null, .int 0])) = w at hP hD hT hk_h0
  refine lv_aload_n hx hb dX4_init_20 rfl (lv_at hl 0 rfl) ?_
  refine lv_bipush (v := 99) hx hb dX4_init_21 (by decide) ?_
  refine t_newi (K := Kw K sn0) hx hb (hts (.arrayClass .int) (by decide +kernel)) hK hP hD hS hA hT 9 rfl (by decide) (by decide) (Nat.le_of_ble_eq_true rfl) (Nat.le_of_ble_eq_true rfl) dX4_init_23 (fun qq23 G w H hg g_q23 hzz hT hkq hP hD hS => ?_)
  have hG := hG.tr hg
  obtain ⟨hk_h0, hne_h0⟩ := hkq _ _ hk_h0
  have z_h0 := (hzz _ hne_h0).trans z_h0
  skip
  skip
  have hu5 : ∀ b : Nat, G b ≠ 5 := nw_ne hu5 hzz g_q23 (by decide)
  have g_q7 := hg.at g_q7 (by decide)
  have g_q15 := hg.at g_q15 (by decide)
  refine va_putF (D := K.1) (ci := 4) (v := .ref qq23) (ty := .array .int) (C := RX4) (T := TX4) (N := 4) hx hb hts hinX4 tyX4 tyX4_ok nmX4 hown hK hP hD hS k_h0 hk_h0 rfl 2 (by decide) (hts (.fieldLink RX4 18 "CodedWords$Search" "open" "[I") (by decide +kernel)) (fun _ h9 => h9) rfl hin rfl (by decide +kernel) rfl rfl (Nat.le_of_ble_eq_true rfl) dX4_init_25 (fun H locs hP hD hS => ?_)
  have hP : va_P K.1 vwCl (w.set k_h0 (h0, .inr (4, [.ref qq7, .ref qq15, .ref qq23, .int 0]))) H := hP
  have hD : va_D A (w.set k_h0 (h0, .inr (4, [.ref qq7, .ref qq15, .ref qq23, .int 0]))) := hD
  have hT : TH (Kw K sn0) G (w.set k_h0 (h0, .inr (4, [.ref qq7, .ref qq15, .ref qq23, .int 0]))) := hT.set hk_h0 (fun qn => absurd z_h0 qn)
  have hk_h0 := tw_set (n := (h0, .inr (4, [.ref qq7, .ref qq15, .ref qq23, .int 0]))) hk_h0
  generalize w.set k_h0 (h0, .inr (4, [.ref qq7, .ref qq15, .ref qq23, .int 0])) = w at hP hD hT hk_h0
  refine lv_aload_n hx hb dX4_init_28 rfl (lv_at hl 0 rfl) ?_
  refine lv_iconst (v := 0) hx hb dX4_init_29 (by decide) ?_
  refine va_put (D := K.1) (ci := 4) (v := .int 0) (ty := .int) (C := RX4) (T := TX4) (N := 4) hx hb hts hinX4 tyX4 tyX4_ok nmX4 hown hK hP hD hS k_h0 hk_h0 rfl 3 (by decide) (hts (.fieldLink RX4 21 "CodedWords$Search" "seen" "I") (by decide +kernel)) (fun _ h9 => h9) rfl (by decide +kernel) rfl rfl (Nat.le_of_ble_eq_true rfl) dX4_init_30 (fun H locs hP hD hS => ?_)
  have hP : va_P K.1 vwCl (w.set k_h0 (h0, .inr (4, [.ref qq7, .ref qq15, .ref qq23, .int 0]))) H := hP
  have hD : va_D A (w.set k_h0 (h0, .inr (4, [.ref qq7, .ref qq15, .ref qq23, .int 0]))) := hD
  have hT : TH (Kw K sn0) G (w.set k_h0 (h0, .inr (4, [.ref qq7, .ref qq15, .ref qq23, .int 0]))) := hT.set hk_h0 (fun qn => absurd z_h0 qn)
  have hk_h0 := tw_set (n := (h0, .inr (4, [.ref qq7, .ref qq15, .ref qq23, .int 0]))) hk_h0
  generalize w.set k_h0 (h0, .inr (4, [.ref qq7, .ref qq15, .ref qq23, .int 0])) = w at hP hD hT hk_h0
  obtain ⟨G, hg, g_h0, hT⟩ := hT.type (kd := 5) hk_h0 z_h0 (fun _ => hu5) (fun G1 hg1 => ⟨_, _, _, _, rfl, hg1.at g_q7 (by decide), hg1.at g_q15 (by decide), hg1.at g_q23 (by decide), rfl, okN0⟩)
  have hG := hG.tr hg
  exact W.vret hx hb hr (fun t ht hW => ⟨⟨(G, w), rfl, ⟨g_h0, hG, hT⟩, by rw [ht]; exact hP, hD⟩, hS.F ht⟩) hS.2.2 dX4_init_33
abbrev rmX0_store : Room := { frames := 3, cells := 3, slots := 12, locals := 65 }
set_option maxHeartbeats 4000000 in
set_option maxRecDepth 100000 in
theorem k_X0_store (l : Launch) {K : Cx} {G0 : Nat → Nat} {w0 : va_W} (hT : TH K G0 w0) (sz : Nat) {h0 : Nat} (g_h0 : G0 h0 = 1) (pq1 : Int32) {h2 : Nat} (g_h2 : G0 h2 = 3)  : Cv l K yX0_store wsX0_store rmX0_store 3 12 [.ref h0, .int pq1, .ref h2] G0 w0 sz (fun _ _ => True) := by
  refine Met.ofW (cc := cX0_store) (maxL := 4) (ret := none) (by decide) rfl ?_
  intro p e s m args below meth c s₁ B hml hv
  obtain ⟨rfl, hsz, hP, hK, hD0, hN⟩ := hv
  have hx := B.exec
  have hb := B.bytes
  have hr := B.returns
  have hts := atoms_spec (ws := wsX0_store) B.pre
  have hown : s.vm.findClass RX0 = some m.cls := findClass_of_methodNamed B.named
  have hlocks := B.notSynchronized
  have hinX0 : ∀ w ∈ wsX00, w ∈ wsX0_store := by decide +kernel
  have hinX2 : ∀ w ∈ wsX20, w ∈ wsX0_store := by decide +kernel
  subst hsz
  have hD := hD0.self (sz := s.heap.size)
  generalize hAe : va_A w0 s.heap.size = A at hD ⊢
  have hA : ∀ q : Nat, s.heap.size ≤ q → A q := fun q h => by rw [← hAe]; exact Or.inr h
  have hS : va_S A s.heap s.heap [] := va_S.rf
  have hG : gLe G0 G0 := gLe.rf
  have hl := lv_entry ([.ref h0, .int pq1, .ref h2]) (n := 4) (Nat.le_of_ble_eq_true rfl)
  rw [lg_entry_eq]
  generalize (lg_sl ([.ref h0, .int pq1, .ref h2]) ++ List.replicate (4 - (lg_sl ([.ref h0, .int pq1, .ref h2])).length) Slot.unset).toArray = ls at hl ⊢
  have hl : lv_has ls 4 [(0, .ref h0), (1, .int pq1), (2, .ref h2)] := hl
  refine lv_iload_n hx hb dX0_store_0 rfl (lv_at hl 1 rfl) ?_
  refine r_i (va_runSN (As := [.int pq1]) (rest := []) ⟨hx, hb, hml, hown, hts⟩ (k_X5_isImage l pq1) ⟨va_cnB 1 hts gX0_store_X5_isImage_n17 rfl rfl rfl (hN.m (o := RX5) (by decide +kernel)) (hts (.initialized RX5) (by decide +kernel)) (by decide +kernel) ⟨Nat.le_of_ble_eq_true rfl, Nat.le_of_ble_eq_true rfl⟩, hts (.static yX5_isImage) (by decide +kernel), trivial⟩ (pPreS) rfl rfl hl.1 rfl (lv_room (Nat.le_of_ble_eq_true rfl)) dX0_store_1 ⟨Nat.le_of_ble_eq_true rfl, Nat.le_of_ble_eq_true rfl⟩) hP hS (fun rq1 H locs hp1 hP hS => ?_)
  refine lv_if_ne (tgt := 8) hx hb dX0_store_4 (by decide) (fun cq4 => ?_) (fun cq4 => ?_)
  · skip
    refine lv_aload_n hx hb dX0_store_8 rfl (lv_at hl 0 rfl) ?_
    obtain ⟨kq9, qq9, hk9, g_q9⟩ := hT.k1 g_h0
    refine va_get (D := K.1) (ci := 0) (v := .ref qq9) (C := RX0) (T := TX0) (N := 1) hx hb hts hinX0 hown hK hP kq9 hk9 rfl 0 (by decide) (hts (.fieldLink RX0 11 "CodedWords$Album" "kept" "[LCodedWords$Code;") (by decide +kernel)) (fun _ h9 => h9) rfl dX0_store_9 ?_
    refine lv_iload_n hx hb dX0_store_12 rfl (lv_at hl 1 rfl) ?_
    refine t_aald hx hb hK hP hT g_q9 rfl (iq_in (hp1.resolve_left cq4).2.1 (hp1.resolve_left cq4).2.2) dX0_store_13 ?_ (fun qq13 g_q13 => ?_)
    · skip
      refine lv_astore_nN (lv' := [(3, .null), (0, .ref h0), (1, .int pq1), (2, .ref h2)]) hx hb dX0_store_14 rfl hl (by decide) rfl (fun ls hl => ?_)
      refine lv_aload_nN hx hb dX0_store_15 rfl (lv_at hl 0 rfl) ?_
      refine lv_ifnonnullN hx hb dX0_store_16 ?_
      refine t_new (ci := 2) (fs := [.int 0, .int 0, .null, .null]) (C := RX2) (T := TX2) (N := 4) hx hb hts hinX2 tyX2 tyX2_ok hown (hts (.classLink RX0 9 RX2) (by decide +kernel)) (hts (.instantiable RX2 4) (by decide +kernel)) (hts (.initialized RX2) (by decide +kernel)) hK hP hD hS hA hT rfl (fun j hj => by rcases (show j = 0 ∨ j = 1 ∨ j = 2 ∨ j = 3 by omega) with rfl | rfl | rfl | rfl <;> rfl) (Nat.le_of_ble_eq_true rfl) (Nat.le_of_ble_eq_true rfl) dX0_store_19 (fun qq19 k_q19 w H z_q19 hT hk_q19 hkq hP hD hS => ?_)
      refine lv_dup hx hb dX0_store_22 rfl ?_
      refine c_v (K := K) (K2 := K) (G := G0) (w := w) (post := fun G1 _ => G1 qq19 = 3) (va_runIN (mc := 2) (ms := 8) (rm := rmX2_init) (As := []) (rest := [.ref qq19]) ⟨hx, hb, hml, hown, hts⟩ (k_X2_init l hT H.size z_q19 hk_q19) ⟨va_cnB 0 hts gX0_store_X2_init_n21 rfl rfl rfl (hN.m (o := RX5) (by decide +kernel)) (hts (.initialized RX2) (by decide +kernel)) (by decide +kernel) ⟨Nat.le_of_ble_eq_true rfl, Nat.le_of_ble_eq_true rfl⟩, rfl, hts (.instanceMethod yX2_init) (by decide +kernel)⟩ (kPreS hP hK hD hN) rfl rfl hl.1 rfl (lv_room (Nat.le_of_ble_eq_true rfl)) dX0_store_23 ⟨Nat.le_of_ble_eq_true rfl, Nat.le_of_ble_eq_true rfl⟩) hD hS hA (fun G w H locs g_q19 hg hT hP hD hS => ?_)
      have hG := hG.tr hg
      have g_h0 := hg.at g_h0 (by decide)
      have g_h2 := hg.at g_h2 (by decide)
      refine lv_astore_n (lv' := [(3, .ref qq19), (0, .ref h0), (1, .int pq1), (2, .ref h2)]) hx hb dX0_store_26 rfl hl (by decide) rfl (fun ls hl => ?_)
      refine lv_aload_n hx hb dX0_store_27 rfl (lv_at hl 1 rfl) ?_
      obtain ⟨kq28, qq28, hk28, g_q28⟩ := hT.k1 g_h0
      refine va_get (D := K.1) (ci := 0) (v := .ref qq28) (C := RX0) (T := TX0) (N := 1) hx hb hts hinX0 hown hK hP kq28 hk28 rfl 0 (by decide) (hts (.fieldLink RX0 11 "CodedWords$Album" "kept" "[LCodedWords$Code;") (by decide +kernel)) (fun _ h9 => h9) rfl dX0_store_28 ?_
      refine lv_iload_n hx hb dX0_store_31 rfl (lv_at hl 2 rfl) ?_
      refine lv_aload_n hx hb dX0_store_32 rfl (lv_at hl 0 rfl) ?_
      refine t_aast hx hb hK hP hD hS hT g_q28 rfl g_q19 (iq_in (hp1.resolve_left cq4).2.1 (hp1.resolve_left cq4).2.2) dX0_store_33 (fun w H locs hT hP hD hS => ?_)
      refine lv_aload_n hx hb dX0_store_34 rfl (lv_at hl 0 rfl) ?_
      refine lv_aload_n hx hb dX0_store_35 rfl (lv_at hl 3 rfl) ?_
      refine c_v (K := K) (K2 := K) (G := G) (w := w) (post := fun _ _ => True) (va_runV (mc := 0) (ms := 0) (rm := rmX2_copyFrom) (As := [.ref h2]) (rest := []) ⟨hx, hb, hml, hown, hts⟩ (k_X2_copyFrom l hT H.size g_q19 g_h2) (cwV 1 hts gX0_store_X2_copyFrom rfl rfl rfl (by decide +kernel) ⟨Nat.le_of_ble_eq_true rfl, Nat.le_of_ble_eq_true rfl⟩) (kPreV (hT.rcv3 g_q19 hK hP) hP hK hD hN) rfl rfl hl.1 rfl (lv_room (Nat.le_of_ble_eq_true rfl)) dX0_store_36 ⟨Nat.le_of_ble_eq_true rfl, Nat.le_of_ble_eq_true rfl⟩) hD hS hA (fun G w H locs hp36 hg hT hP hD hS => ?_)
      have hG := hG.tr hg
      have g_q19 := hg.at g_q19 (by decide)
      have g_h0 := hg.at g_h0 (by decide)
      have g_h2 := hg.at g_h2 (by decide)
      exact W.vret hx hb hr (fun t ht hW => ⟨⟨(G, w), rfl, ⟨trivial, hG, hT⟩, by rw [ht]; exact hP, hD⟩, hS.F ht⟩) hS.2.2 dX0_store_39
    · skip
      refine lv_astore_n (lv' := [(3, .ref qq13), (0, .ref h0), (1, .int pq1), (2, .ref h2)]) hx hb dX0_store_14 rfl hl (by decide) rfl (fun ls hl => ?_)
      refine lv_aload_n hx hb dX0_store_15 rfl (lv_at hl 0 rfl) ?_
      refine lv_ifnonnull (tgt := 34) hx hb dX0_store_16 (by decide) ?_
      refine lv_aload_n hx hb dX0_store_34 rfl (lv_at hl 0 rfl) ?_
      refine lv_aload_n hx hb dX0_store_35 rfl (lv_at hl 3 rfl) ?_
      refine c_v (K := K) (K2 := K) (G := G0) (w := w0) (post := fun _ _ => True) (va_runV (mc := 0) (ms := 0) (rm := rmX2_copyFrom) (As := [.ref h2]) (rest := []) ⟨hx, hb, hml, hown, hts⟩ (k_X2_copyFrom l hT H.size g_q13 g_h2) (cwV 1 hts gX0_store_X2_copyFrom rfl rfl rfl (by decide +kernel) ⟨Nat.le_of_ble_eq_true rfl, Nat.le_of_ble_eq_true rfl⟩) (kPreV (hT.rcv3 g_q13 hK hP) hP hK hD hN) rfl rfl hl.1 rfl (lv_room (Nat.le_of_ble_eq_true rfl)) dX0_store_36 ⟨Nat.le_of_ble_eq_true rfl, Nat.le_of_ble_eq_true rfl⟩) hD hS hA (fun G w H locs hp36 hg hT hP hD hS => ?_)
      have hG := hG.tr hg
      have g_q13 := hg.at g_q13 (by decide)
      have g_h0 := hg.at g_h0 (by decide)
      have g_h2 := hg.at g_h2 (by decide)
      refine W.widen (k := 3) (n := 12) (by omega) (by omega) ?_
      exact W.vret hx hb hr (fun t ht hW => ⟨⟨(G, w), rfl, ⟨trivial, hG, hT⟩, by rw [ht]; exact hP, hD⟩, hS.F ht⟩) hS.2.2 dX0_store_39
  · skip
    refine W.widen (k := 3) (n := 12) (by omega) (by omega) ?_
    exact W.vret hx hb hr (fun t ht hW => ⟨⟨(G0, w0), rfl, ⟨trivial, hG, hT⟩, by rw [ht]; exact hP, hD⟩, hS.F ht⟩) hS.2.2 dX0_store_7
abbrev rmX5_keep : Room := { frames := 4, cells := 3, slots := 12, locals := 88 }
set_option maxHeartbeats 4000000 in
set_option maxRecDepth 100000 in
theorem k_X5_keep (l : Launch) {K : Cx} {G0 : Nat → Nat} {w0 : va_W} (hT : TH K G0 w0) (sz : Nat) {h0 : Nat} (g_h0 : G0 h0 = 6) (pq1 : Int32)  : Ci l K yX5_keep wsX5_keep rmX5_keep 3 12 [.ref h0, .int pq1] G0 w0 sz (fun _ _ _ => True) := by
  refine Met.ofW (cc := cX5_keep) (maxL := 2) (ret := (some .int)) (by decide) rfl ?_
  intro p e s m args below meth c s₁ B hml hv
  obtain ⟨rfl, hsz, hP, hK, hD0, hN⟩ := hv
  have hx := B.exec
  have hb := B.bytes
  have hr := B.returns
  have hts := atoms_spec (ws := wsX5_keep) B.pre
  have hown : s.vm.findClass RX5 = some m.cls := findClass_of_methodNamed B.named
  have hlocks := B.notSynchronized
  have hinX2 : ∀ w ∈ wsX20, w ∈ wsX5_keep := by decide +kernel
  have hinX5 : ∀ w ∈ wsX50, w ∈ wsX5_keep := by decide +kernel
  subst hsz
  have hD := hD0.self (sz := s.heap.size)
  generalize hAe : va_A w0 s.heap.size = A at hD ⊢
  have hA : ∀ q : Nat, s.heap.size ≤ q → A q := fun q h => by rw [← hAe]; exact Or.inr h
  have hS : va_S A s.heap s.heap [] := va_S.rf
  have hG : gLe G0 G0 := gLe.rf
  have hl := lv_entry ([.ref h0, .int pq1]) (n := 2) (Nat.le_of_ble_eq_true rfl)
  rw [lg_entry_eq]
  generalize (lg_sl ([.ref h0, .int pq1]) ++ List.replicate (2 - (lg_sl ([.ref h0, .int pq1])).length) Slot.unset).toArray = ls at hl ⊢
  have hl : lv_has ls 2 [(0, .ref h0), (1, .int pq1)] := hl
  refine lv_iload_n hx hb dX5_keep_0 rfl (lv_at hl 1 rfl) ?_
  refine r_i (va_runS (As := [.int pq1]) (rest := []) ⟨hx, hb, hml, hown, hts⟩ (k_X5_isImage l pq1) (va_cwS 1 hts gX5_keep_X5_isImage rfl rfl rfl (by decide +kernel) ⟨Nat.le_of_ble_eq_true rfl, Nat.le_of_ble_eq_true rfl⟩) (pPreS) rfl rfl hl.1 rfl (lv_room (Nat.le_of_ble_eq_true rfl)) dX5_keep_1 ⟨Nat.le_of_ble_eq_true rfl, Nat.le_of_ble_eq_true rfl⟩) hP hS (fun rq1 H locs hp1 hP hS => ?_)
  refine lv_if_ne (tgt := 10) hx hb dX5_keep_4 (by decide) (fun cq4 => ?_) (fun cq4 => ?_)
  · skip
    refine lv_aload_n hx hb dX5_keep_10 rfl (lv_at hl 0 rfl) ?_
    obtain ⟨kq11, qq11, rq11, tq11, uq11, vq11, hk11, g_q11, g_r11, g_t11, g_u11, g_v11⟩ := hT.k6 g_h0
    refine va_get (D := K.1) (ci := 5) (v := .ref tq11) (C := RX5) (T := TX5) (N := 5) hx hb hts hinX5 hown hK hP kq11 hk11 rfl 2 (by decide) (hts (.fieldLink RX5 26 "CodedWords" "album" "LCodedWords$Album;") (by decide +kernel)) (fun _ h9 => h9) rfl dX5_keep_11 ?_
    refine lv_iload_n hx hb dX5_keep_14 rfl (lv_at hl 1 rfl) ?_
    refine lv_aload_n hx hb dX5_keep_15 rfl (lv_at hl 0 rfl) ?_
    refine va_get (D := K.1) (ci := 5) (v := .ref qq11) (C := RX5) (T := TX5) (N := 5) hx hb hts hinX5 hown hK hP kq11 hk11 rfl 0 (by decide) (hts (.fieldLink RX5 10 "CodedWords" "code" "LCodedWords$Code;") (by decide +kernel)) (fun _ h9 => h9) rfl dX5_keep_16 ?_
    refine c_v (K := K) (K2 := K) (G := G0) (w := w0) (post := fun _ _ => True) (va_runV (mc := 3) (ms := 12) (rm := rmX0_store) (As := [.int pq1, .ref qq11]) (rest := []) ⟨hx, hb, hml, hown, hts⟩ (k_X0_store l hT H.size g_t11 pq1 g_q11) (cwV 2 hts gX5_keep_X0_store rfl rfl rfl (by decide +kernel) ⟨Nat.le_of_ble_eq_true rfl, Nat.le_of_ble_eq_true rfl⟩) (kPreV (hT.rcv1 g_t11 hK hP) hP hK hD hN) rfl rfl hl.1 rfl (lv_room (Nat.le_of_ble_eq_true rfl)) dX5_keep_19 ⟨Nat.le_of_ble_eq_true rfl, Nat.le_of_ble_eq_true rfl⟩) hD hS hA (fun G w H locs hp19 hg hT hP hD hS => ?_)
    have hG := hG.tr hg
    have g_h0 := hg.at g_h0 (by decide)
    refine lv_aload_n hx hb dX5_keep_22 rfl (lv_at hl 0 rfl) ?_
    obtain ⟨kq23, qq23, rq23, tq23, uq23, vq23, hk23, g_q23, g_r23, g_t23, g_u23, g_v23⟩ := hT.k6 g_h0
    refine va_get (D := K.1) (ci := 5) (v := .ref qq23) (C := RX5) (T := TX5) (N := 5) hx hb hts hinX5 hown hK hP kq23 hk23 rfl 0 (by decide) (hts (.fieldLink RX5 10 "CodedWords" "code" "LCodedWords$Code;") (by decide +kernel)) (fun _ h9 => h9) rfl dX5_keep_23 ?_
    obtain ⟨kq26, xq26, yq26, qq26, rq26, hk26, g_q26, g_r26⟩ := hT.k3 g_q23
    refine va_getN (host := RX5) (D := K.1) (ci := 2) (v := .int xq26) (C := RX2) (T := TX2) (N := 4) hx hb hts hinX2 hown hK hP kq26 hk26 rfl 0 (by decide) (hN.f (by decide +kernel)) (fun _ h9 => h9) rfl dX5_keep_26 ?_
    exact W.iret (v := xq26) hx hb hr (fun t ht hW => ⟨⟨xq26, (G, w), rfl, ⟨trivial, hG, hT⟩, by rw [ht]; exact hP, hD⟩, hS.F ht⟩) hS.2.2 dX5_keep_29
  · skip
    refine lv_ldc (v := (-1000001)) hx hb hown (hts (.constant RX5 51 (-1000001)) (by decide +kernel)) dX5_keep_7 ?_
    refine W.widen (k := 3) (n := 12) (by omega) (by omega) ?_
    exact W.iret (v := (-1000001)) hx hb hr (fun t ht hW => ⟨⟨(-1000001), (G0, w0), rfl, ⟨trivial, hG, hT⟩, by rw [ht]; exact hP, hD⟩, hS.F ht⟩) hS.2.2 dX5_keep_9
abbrev rmX3_init : Room := { frames := 2, cells := 37, slots := 156, locals := 32 }
set_option maxHeartbeats 4000000 in
set_option maxRecDepth 100000 in
theorem k_X3_init (l : Launch) {K : Cx} {G0 : Nat → Nat} {w0 : va_W} (hT : TH K G0 w0) (sz : Nat) {h0 : Nat} {k_h0 : Nat} (z_h0 : G0 h0 = 0) (hk_h0 : w0[k_h0]? = some (h0, .inr (3, [.null, .int 0, .int 0])))  : Cv l K yX3_init wsX3_init rmX3_init 37 156 [.ref h0] G0 w0 sz (fun G1 _ => G1 h0 = 4) := by
  refine Met.ofW (cc := cX3_init) (maxL := 2) (ret := none) (by decide) rfl ?_
  intro p e s m args below meth c s₁ B hml hv
  obtain ⟨rfl, hsz, hP, hK, hD0, hN⟩ := hv
  have hx := B.exec
  have hb := B.bytes
  have hr := B.returns
  have hts := atoms_spec (ws := wsX3_init) B.pre
  have hown : s.vm.findClass RX3 = some m.cls := findClass_of_methodNamed B.named
  have hlocks := B.notSynchronized
  have hin : meth.name = "<init>" := (name_of_methodNamed B.named B.method).1
  have hinX2 : ∀ w ∈ wsX20, w ∈ wsX3_init := by decide +kernel
  have hinX3 : ∀ w ∈ wsX30, w ∈ wsX3_init := by decide +kernel
  subst hsz
  have hD := hD0.self (sz := s.heap.size)
  generalize hAe : va_A w0 s.heap.size = A at hD ⊢
  have hA : ∀ q : Nat, s.heap.size ≤ q → A q := fun q h => by rw [← hAe]; exact Or.inr h
  have hS : va_S A s.heap s.heap [] := va_S.rf
  have hG : gLe G0 G0 := gLe.rf
  have hl := lv_entry ([.ref h0]) (n := 2) (Nat.le_of_ble_eq_true rfl)
  rw [lg_entry_eq]
  generalize (lg_sl ([.ref h0]) ++ List.replicate (2 - (lg_sl ([.ref h0])).length) Slot.unset).toArray = ls at hl ⊢
  have hl : lv_has ls 2 [(0, .ref h0)] := hl
  have hJ25 : ∀ (n25 : Nat) (cN sN : Nat) (G : Nat → Nat) (w : va_W) (H : Heap) (locs : List Loc) (zq1 : Int32), (gLe G0 G) → (TH K G w) → (va_P K.1 vwCl w H) → (va_D A w) → (va_S A s.heap H locs) → (G h0 = 4) → (0 ≤ zq1.toInt) → (cN + 3 * (12 - zq1.toInt).toNat ≤ 37) → (sN + 12 * (12 - zq1.toInt).toNat ≤ 156) → ((2147483647 - zq1.toInt).toNat < n25) → ∀ (ls : Array Slot), lv_has ls 2 [(0, .ref h0), (1, .int zq1)] → W p l e rmX3_init s m [.ref h0].toArray below meth c H locs cN sN (MQ below (va_Qv (fun (u : (Nat → Nat) × va_W) => (fun G1 _ => G1 h0 = 4) u.1 u.2 ∧ gLe G0 u.1 ∧ TH (K) u.1 u.2) (fun u t => va_P K.1 vwCl u.2 t.heap ∧ va_D A u.2) A) [.ref h0].toArray s 37 156 A) (F0 m 25 ls []) := by
    intro n25
    induction n25 with
    | zero =>
      intro cN sN G w H locs zq1 hG hT hP hD hS g_h0 i25_0 i25_1 i25_2 hm25 ls hl
      exact absurd hm25 (Nat.not_lt_zero _)
    | succ n25 ih25 =>
      intro cN sN G w H locs zq1 hG hT hP hD hS g_h0 i25_0 i25_1 i25_2 hm25 ls hl
      refine lv_iload_n hx hb dX3_init_25 rfl (lv_at hl 1 rfl) ?_
      refine lv_bipush (v := 12) hx hb dX3_init_26 (by decide) ?_
      refine lv_icmp_ge (tgt := 50) hx hb dX3_init_28 (by decide) (fun cq28 => ?_) (fun cq28 => ?_)
      · skip
        refine W.widen (k := 37) (n := 156) (by omega) (by omega) ?_
        exact W.vret hx hb hr (fun t ht hW => ⟨⟨(G, w), rfl, ⟨g_h0, hG, hT⟩, by rw [ht]; exact hP, hD⟩, hS.F ht⟩) hS.2.2 dX3_init_50
      · skip
        refine lv_aload_n hx hb dX3_init_31 rfl (lv_at hl 0 rfl) ?_
        obtain ⟨kq32, qq32, xq32, yq32, hk32, g_q32⟩ := hT.k4 g_h0
        refine va_get (D := K.1) (ci := 3) (v := .ref qq32) (C := RX3) (T := TX3) (N := 3) hx hb hts hinX3 hown hK hP kq32 hk32 rfl 0 (by decide) (hts (.fieldLink RX3 11 "CodedWords$Past" "ring" "[LCodedWords$Code;") (by decide +kernel)) (fun _ h9 => h9) rfl dX3_init_32 ?_
        refine lv_iload_n hx hb dX3_init_35 rfl (lv_at hl 1 rfl) ?_
        refine t_new (ci := 2) (fs := [.int 0, .int 0, .null, .null]) (C := RX2) (T := TX2) (N := 4) hx hb hts hinX2 tyX2 tyX2_ok hown (hts (.classLink RX3 9 RX2) (by decide +kernel)) (hts (.instantiable RX2 4) (by decide +kernel)) (hts (.initialized RX2) (by decide +kernel)) hK hP hD hS hA hT rfl (fun j hj => by rcases (show j = 0 ∨ j = 1 ∨ j = 2 ∨ j = 3 by omega) with rfl | rfl | rfl | rfl <;> rfl) (show cN + 1 ≤ 37 by rw [iq_le] at cq28; have h9 : ¬ (12 : Int) ≤ zq1.toInt := cq28; omega) (show sN + 4 ≤ 156 by rw [iq_le] at cq28; have h9 : ¬ (12 : Int) ≤ zq1.toInt := cq28; omega) dX3_init_36 (fun qq36 k_q36 w H z_q36 hT hk_q36 hkq hP hD hS => ?_)
        refine lv_dup hx hb dX3_init_39 rfl ?_
        refine c_v (K := K) (K2 := K) (G := G) (w := w) (post := fun G1 _ => G1 qq36 = 3) (va_runIN (mc := 2) (ms := 8) (rm := rmX2_init) (As := []) (rest := [.ref qq36, .int zq1, .ref qq32]) ⟨hx, hb, hml, hown, hts⟩ (k_X2_init l hT H.size z_q36 hk_q36) ⟨va_cnB 0 hts gX3_init_X2_init_n24 rfl rfl rfl (hN.m (o := RX5) (by decide +kernel)) (hts (.initialized RX2) (by decide +kernel)) (by decide +kernel) ⟨Nat.le_of_ble_eq_true rfl, Nat.le_of_ble_eq_true rfl⟩, rfl, hts (.instanceMethod yX2_init) (by decide +kernel)⟩ (kPreS hP hK hD hN) rfl rfl hl.1 rfl (lv_room (Nat.le_of_ble_eq_true rfl)) dX3_init_40 ⟨show cN + 1 + 2 ≤ 37 by rw [iq_le] at cq28; have h9 : ¬ (12 : Int) ≤ zq1.toInt := cq28; omega, show sN + 4 + 8 ≤ 156 by rw [iq_le] at cq28; have h9 : ¬ (12 : Int) ≤ zq1.toInt := cq28; omega⟩) hD hS hA (fun G w H locs g_q36 hg hT hP hD hS => ?_)
        have hG := hG.tr hg
        have g_h0 := hg.at g_h0 (by decide)
        have g_q32 := hg.at g_q32 (by decide)
        refine t_aast hx hb hK hP hD hS hT g_q32 rfl g_q36 (iq_inr i25_0 cq28 (by decide)) dX3_init_43 (fun w H locs hT hP hD hS => ?_)
        obtain ⟨vq44, eq44⟩ : ∃ y : Int32, y = zq1 + 1 := ⟨_, rfl⟩
        refine lv_iinc (v := vq44) (lv' := [(1, .int vq44), (0, .ref h0)]) hx hb dX3_init_44 hl (k := 1) rfl (by rw [eq44]; rfl) (by decide) rfl (fun ls hl => ?_)
        refine lv_goto (tgt := 25) hx hb dX3_init_47 (by decide) ?_
        exact ih25 (cN + 1 + 2) (sN + 4 + 8) _ _ _ _ vq44 hG hT hP hD hS g_h0 (by first | exact iq_nn1 i25_0 cq28 eq44 | decide) (by first | decide | (have h := iq_add1 eq44 (iq_below cq28); rw [iq_le] at cq28; have h9 : ¬ (12 : Int) ≤ zq1.toInt := cq28; omega)) (by first | decide | (have h := iq_add1 eq44 (iq_below cq28); rw [iq_le] at cq28; have h9 : ¬ (12 : Int) ≤ zq1.toInt := cq28; omega)) (iq_up hm25 cq28 eq44) _ (lv_sub hl [1, 0] rfl)
  refine lv_aload_n hx hb dX3_init_0 rfl (lv_at hl 0 rfl) ?_
  refine W.objInit hx hb hown (hts (.methodLink RX3 3 objectInit) (by decide +kernel)) (hts (.instanceMethod objectInit) (by decide +kernel)) (hts (.code objectInit ⟨#[0xb1]⟩ 1 none) (by decide +kernel)) rfl (by rw [hml]; exact hl.1) rfl dX3_init_1 (Nat.le_of_ble_eq_true rfl) (Nat.le_of_ble_eq_true rfl) ?_
  refine W.eq (g2 := F0 m 4 ls []) rfl ?_
  refine lv_aload_n hx hb dX3_init_4 rfl (lv_at hl 0 rfl) ?_
  refine lv_bipush (v := 12) hx hb dX3_init_5 (by decide) ?_
  refine t_newq hx hb hown (hts (.classLink RX3 9 RX2) (by decide +kernel)) hN hK hP hD hS hA hT 11 rfl (by decide) (by decide) (by decide) (Nat.le_of_ble_eq_true rfl) (Nat.le_of_ble_eq_true rfl) dX3_init_7 (fun qq7 G w H hg g_q7 hzz hT hkq hP hD hS => ?_)
  have hG := hG.tr hg
  obtain ⟨hk_h0, hne_h0⟩ := hkq _ _ hk_h0
  have z_h0 := (hzz _ hne_h0).trans z_h0
  refine va_putF (D := K.1) (ci := 3) (v := .ref qq7) (ty := .array (.object "CodedWords$Code")) (C := RX3) (T := TX3) (N := 3) hx hb hts hinX3 tyX3 tyX3_ok nmX3 hown hK hP hD hS k_h0 hk_h0 rfl 0 (by decide) (hts (.fieldLink RX3 11 "CodedWords$Past" "ring" "[LCodedWords$Code;") (by decide +kernel)) (fun _ h9 => h9) rfl hin rfl (by decide +kernel) rfl rfl (Nat.le_of_ble_eq_true rfl) dX3_init_10 (fun H locs hP hD hS => ?_)
  have hP : va_P K.1 vwCl (w.set k_h0 (h0, .inr (3, [.ref qq7, .int 0, .int 0]))) H := hP
  have hD : va_D A (w.set k_h0 (h0, .inr (3, [.ref qq7, .int 0, .int 0]))) := hD
  have hT : TH (K) G (w.set k_h0 (h0, .inr (3, [.ref qq7, .int 0, .int 0]))) := hT.set hk_h0 (fun qn => absurd z_h0 qn)
  have hk_h0 := tw_set (n := (h0, .inr (3, [.ref qq7, .int 0, .int 0]))) hk_h0
  generalize w.set k_h0 (h0, .inr (3, [.ref qq7, .int 0, .int 0])) = w at hP hD hT hk_h0
  refine lv_aload_n hx hb dX3_init_13 rfl (lv_at hl 0 rfl) ?_
  refine lv_iconst (v := 0) hx hb dX3_init_14 (by decide) ?_
  refine va_put (D := K.1) (ci := 3) (v := .int 0) (ty := .int) (C := RX3) (T := TX3) (N := 3) hx hb hts hinX3 tyX3 tyX3_ok nmX3 hown hK hP hD hS k_h0 hk_h0 rfl 1 (by decide) (hts (.fieldLink RX3 17 "CodedWords$Past" "oldest" "I") (by decide +kernel)) (fun _ h9 => h9) rfl (by decide +kernel) rfl rfl (Nat.le_of_ble_eq_true rfl) dX3_init_15 (fun H locs hP hD hS => ?_)
  have hP : va_P K.1 vwCl (w.set k_h0 (h0, .inr (3, [.ref qq7, .int 0, .int 0]))) H := hP
  have hD : va_D A (w.set k_h0 (h0, .inr (3, [.ref qq7, .int 0, .int 0]))) := hD
  have hT : TH (K) G (w.set k_h0 (h0, .inr (3, [.ref qq7, .int 0, .int 0]))) := hT.set hk_h0 (fun qn => absurd z_h0 qn)
  have hk_h0 := tw_set (n := (h0, .inr (3, [.ref qq7, .int 0, .int 0]))) hk_h0
  generalize w.set k_h0 (h0, .inr (3, [.ref qq7, .int 0, .int 0])) = w at hP hD hT hk_h0
  refine lv_aload_n hx hb dX3_init_18 rfl (lv_at hl 0 rfl) ?_
  refine lv_iconst (v := 0) hx hb dX3_init_19 (by decide) ?_
  refine va_put (D := K.1) (ci := 3) (v := .int 0) (ty := .int) (C := RX3) (T := TX3) (N := 3) hx hb hts hinX3 tyX3 tyX3_ok nmX3 hown hK hP hD hS k_h0 hk_h0 rfl 2 (by decide) (hts (.fieldLink RX3 21 "CodedWords$Past" "known" "I") (by decide +kernel)) (fun _ h9 => h9) rfl (by decide +kernel) rfl rfl (Nat.le_of_ble_eq_true rfl) dX3_init_20 (fun H locs hP hD hS => ?_)
  have hP : va_P K.1 vwCl (w.set k_h0 (h0, .inr (3, [.ref qq7, .int 0, .int 0]))) H := hP
  have hD : va_D A (w.set k_h0 (h0, .inr (3, [.ref qq7, .int 0, .int 0]))) := hD
  have hT : TH (K) G (w.set k_h0 (h0, .inr (3, [.ref qq7, .int 0, .int 0]))) := hT.set hk_h0 (fun qn => absurd z_h0 qn)
  have hk_h0 := tw_set (n := (h0, .inr (3, [.ref qq7, .int 0, .int 0]))) hk_h0
  generalize w.set k_h0 (h0, .inr (3, [.ref qq7, .int 0, .int 0])) = w at hP hD hT hk_h0
  obtain ⟨G, hg, g_h0, hT⟩ := hT.type (kd := 4) hk_h0 z_h0 (fun qu => absurd qu (by decide)) (fun G1 hg1 => ⟨_, _, _, rfl, hg1.at g_q7 (by decide)⟩)
  have hG := hG.tr hg
  refine lv_iconst (v := 0) hx hb dX3_init_23 (by decide) ?_
  refine lv_istore_n (lv' := [(1, .int 0), (0, .ref h0)]) hx hb dX3_init_24 rfl hl (by decide) rfl (fun ls hl => ?_)
  exact hJ25 ((2147483647 - (0 : Int32).toInt).toNat + 1) (1) (12) _ _ _ _ 0 hG hT hP hD hS g_h0 (by first | exact iq_nn1 i25_0 cq28 eq44 | decide) (by first | decide | (have h := iq_add1 eq44 (iq_below cq28); rw [iq_le] at cq28; have h9 : ¬ (12 : Int) ≤ zq1.toInt := cq28; omega)) (by first | decide | (have h := iq_add1 eq44 (iq_below cq28); rw [iq_le] at cq28; have h9 : ¬ (12 : Int) ≤ zq1.toInt := cq28; omega)) (Nat.lt_succ_self _) _ (lv_sub hl [1, 0] rfl)

abbrev rmX1_addStrike : Room := { frames := 2, cells := 0, slots := 0, locals := 43 }
set_option maxHeartbeats 4000000 in
set_option maxRecDepth 100000 in
theorem k_X1_addStrike (l : Launch) {K : Cx} {G0 : Nat → Nat} {w0 : va_W} (hT : TH K G0 w0) (sz : Nat) {h0 : Nat} (g_h0 : G0 h0 = 2) (pq1 : Int32) (pq2 : Int32)  : Cv l K yX1_addStrike wsX1_addStrike rmX1_addStrike 0 0 [.ref h0, .int pq1, .int pq2] G0 w0 sz (fun _ _ => True) := by
  refine Met.ofW (cc := cX1_addStrike) (maxL := 7) (ret := none) (by decide) rfl ?_
  intro p e s m args below meth c s₁ B hml hv
  obtain ⟨rfl, hsz, hP, hK, hD0, hN⟩ := hv
  have hx := B.exec
  have hb := B.bytes
  have hr := B.returns
  have hts := atoms_spec (ws := wsX1_addStrike) B.pre
  have hown : s.vm.findClass RX1 = some m.cls := findClass_of_methodNamed B.named
  have hlocks := B.notSynchronized
  have hinX1 : ∀ w ∈ wsX10, w ∈ wsX1_addStrike := by decide +kernel
  subst hsz
  have hD := hD0.self (sz := s.heap.size)
  generalize hAe : va_A w0 s.heap.size = A at hD ⊢
  have hA : ∀ q : Nat, s.heap.size ≤ q → A q := fun q h => by rw [← hAe]; exact Or.inr h
  have hS : va_S A s.heap s.heap [] := va_S.rf
  have hG : gLe G0 G0 := gLe.rf
  have hl := lv_entry ([.ref h0, .int pq1, .int pq2]) (n := 7) (Nat.le_of_ble_eq_true rfl)
  rw [lg_entry_eq]
  generalize (lg_sl ([.ref h0, .int pq1, .int pq2]) ++ List.replicate (7 - (lg_sl ([.ref h0, .int pq1, .int pq2])).length) Slot.unset).toArray = ls at hl ⊢
  have hl : lv_has ls 7 [(0, .ref h0), (1, .int pq1), (2, .int pq2)] := hl
  have hJ109 : ∀ (n109 : Nat) (G : Nat → Nat) (w : va_W) (H : Heap) (locs : List Loc) (zq3 : Int32) (zq4 : Int32), (gLe G0 G) → (TH K G w) → (va_P K.1 vwCl w H) → (va_D A w) → (va_S A s.heap H locs) → (G h0 = 2) → (zq3.toInt ≤ 199) → (0 ≤ zq4.toInt) → ((2147483647 - zq4.toInt).toNat < n109) → ∀ (ls : Array Slot), lv_has ls 7 [(0, .ref h0), (3, .int zq3), (4, .int zq4)] → W p l e rmX1_addStrike s m [.ref h0, .int pq1, .int pq2].toArray below meth c H locs 0 0 (MQ below (va_Qv (fun (u : (Nat → Nat) × va_W) => (fun _ _ => True) u.1 u.2 ∧ gLe G0 u.1 ∧ TH (K) u.1 u.2) (fun u t => va_P K.1 vwCl u.2 t.heap ∧ va_D A u.2) A) [.ref h0, .int pq1, .int pq2].toArray s 0 0 A) (F0 m 109 ls []) := by
    intro n109
    induction n109 with
    | zero =>
      intro G w H locs zq3 zq4 hG hT hP hD hS g_h0 i109_0 i109_1 hm109 ls hl
      exact absurd hm109 (Nat.not_lt_zero _)
    | succ n109 ih109 =>
      intro G w H locs zq3 zq4 hG hT hP hD hS g_h0 i109_0 i109_1 hm109 ls hl
      refine lv_iload hx hb dX1_addStrike_109 (lv_at hl 2 rfl) ?_
      refine lv_iload_n hx hb dX1_addStrike_111 rfl (lv_at hl 1 rfl) ?_
      refine lv_icmp_ge (tgt := 135) hx hb dX1_addStrike_112 (by decide) (fun cq112 => ?_) (fun cq112 => ?_)
      · skip
        exact W.vret hx hb hr (fun t ht hW => ⟨⟨(G, w), rfl, ⟨trivial, hG, hT⟩, by rw [ht]; exact hP, hD⟩, hS.F ht⟩) hS.2.2 dX1_addStrike_135
      · skip
        refine lv_aload_n hx hb dX1_addStrike_115 rfl (lv_at hl 0 rfl) ?_
        obtain ⟨kq116, qq116, rq116, hk116, g_q116, g_r116⟩ := hT.k2 g_h0
        refine va_get (D := K.1) (ci := 1) (v := .ref qq116) (C := RX1) (T := TX1) (N := 2) hx hb hts hinX1 hown hK hP kq116 hk116 rfl 0 (by decide) (hts (.fieldLink RX1 9 "CodedWords$Chances" "ways" "[I") (by decide +kernel)) (fun _ h9 => h9) rfl dX1_addStrike_116 ?_
        refine lv_iload hx hb dX1_addStrike_119 (lv_at hl 2 rfl) ?_
        refine lv_aload_n hx hb dX1_addStrike_121 rfl (lv_at hl 0 rfl) ?_
        refine va_get (D := K.1) (ci := 1) (v := .ref rq116) (C := RX1) (T := TX1) (N := 2) hx hb hts hinX1 hown hK hP kq116 hk116 rfl 1 (by decide) (hts (.fieldLink RX1 15 "CodedWords$Chances" "waysOneMore" "[I") (by decide +kernel)) (fun _ h9 => h9) rfl dX1_addStrike_122 ?_
        refine lv_iload hx hb dX1_addStrike_125 (lv_at hl 2 rfl) ?_
        refine t_iald hx hb hK hP hT g_r116 rfl (iq_inr i109_1 cq112 i109_0) dX1_addStrike_127 (fun vq127 => ?_)
        refine t_iast hx hb hK hP hD hS hT g_q116 rfl (iq_inr i109_1 cq112 i109_0) dX1_addStrike_128 (fun w H locs hT hP hD hS hkp => ?_)
        have hk116 := hkp _ _ _ hk116
        obtain ⟨vq129, eq129⟩ : ∃ y : Int32, y = zq4 + 1 := ⟨_, rfl⟩
        refine lv_iinc (v := vq129) (lv' := [(4, .int vq129), (0, .ref h0), (3, .int zq3)]) hx hb dX1_addStrike_129 hl (k := 2) rfl (by rw [eq129]; rfl) (by decide) rfl (fun ls hl => ?_)
        refine lv_goto (tgt := 109) hx hb dX1_addStrike_132 (by decide) ?_
        exact ih109 _ _ _ _ zq3 vq129 hG hT hP hD hS g_h0 (by first | exact i19_0 | exact i109_0) (by first | exact iq_nn1 i109_1 cq112 eq129 | decide) (iq_up hm109 cq112 eq129) _ (lv_sub hl [1, 2, 0] rfl)
  have hJ19 : ∀ (n19 : Nat) (G : Nat → Nat) (w : va_W) (H : Heap) (locs : List Loc) (zq3 : Int32) (zq4 : Int32), (gLe G0 G) → (TH K G w) → (va_P K.1 vwCl w H) → (va_D A w) → (va_S A s.heap H locs) → (G h0 = 2) → (zq3.toInt ≤ 199) → ((2147483647 - zq4.toInt).toNat < n19) → ∀ (ls : Array Slot), lv_has ls 7 [(0, .ref h0), (2, .int pq2), (3, .int zq3), (4, .int zq4)] → W p l e rmX1_addStrike s m [.ref h0, .int pq1, .int pq2].toArray below meth c H locs 0 0 (MQ below (va_Qv (fun (u : (Nat → Nat) × va_W) => (fun _ _ => True) u.1 u.2 ∧ gLe G0 u.1 ∧ TH (K) u.1 u.2) (fun u t => va_P K.1 vwCl u.2 t.heap ∧ va_D A u.2) A) [.ref h0, .int pq1, .int pq2].toArray s 0 0 A) (F0 m 19 ls []) := by
    intro n19
    induction n19 with
    | zero =>
      intro G w H locs zq3 zq4 hG hT hP hD hS g_h0 i19_0 hm19 ls hl
      exact absurd hm19 (Nat.not_lt_zero _)
    | succ n19 ih19 =>
      intro G w H locs zq3 zq4 hG hT hP hD hS g_h0 i19_0 hm19 ls hl
      have hJ42 : ∀ (n42 : Nat) (G : Nat → Nat) (w : va_W) (H : Heap) (locs : List Loc) (zq5 : Int32) (zq6 : Int32), (gLe G0 G) → (TH K G w) → (va_P K.1 vwCl w H) → (va_D A w) → (va_S A s.heap H locs) → (G h0 = 2) → (0 ≤ zq6.toInt) → (zq4.toInt < 2147483647) → ((2147483647 - zq6.toInt).toNat < n42) → ∀ (ls : Array Slot), lv_has ls 7 [(0, .ref h0), (2, .int pq2), (3, .int zq3), (4, .int zq4), (5, .int zq5), (6, .int zq6)] → W p l e rmX1_addStrike s m [.ref h0, .int pq1, .int pq2].toArray below meth c H locs 0 0 (MQ below (va_Qv (fun (u : (Nat → Nat) × va_W) => (fun _ _ => True) u.1 u.2 ∧ gLe G0 u.1 ∧ TH (K) u.1 u.2) (fun u t => va_P K.1 vwCl u.2 t.heap ∧ va_D A u.2) A) [.ref h0, .int pq1, .int pq2].toArray s 0 0 A) (F0 m 42 ls []) := by
        intro n42
        induction n42 with
        | zero =>
          intro G w H locs zq5 zq6 hG hT hP hD hS g_h0 i42_0 i42_1 hm42 ls hl
          exact absurd hm42 (Nat.not_lt_zero _)
        | succ n42 ih42 =>
          intro G w H locs zq5 zq6 hG hT hP hD hS g_h0 i42_0 i42_1 hm42 ls hl
          have hJ76 : ∀ (G : Nat → Nat) (w : va_W) (H : Heap) (locs : List Loc), (gLe G0 G) → (TH K G w) → (va_P K.1 vwCl w H) → (va_D A w) → (va_S A s.heap H locs) → (G h0 = 2) → (¬ zq3 ≤ zq6) → ∀ (ls : Array Slot), lv_has ls 7 [(0, .ref h0), (2, .int pq2), (3, .int zq3), (4, .int zq4), (5, .int zq5), (6, .int zq6)] → W p l e rmX1_addStrike s m [.ref h0, .int pq1, .int pq2].toArray below meth c H locs 0 0 (MQ below (va_Qv (fun (u : (Nat → Nat) × va_W) => (fun _ _ => True) u.1 u.2 ∧ gLe G0 u.1 ∧ TH (K) u.1 u.2) (fun u t => va_P K.1 vwCl u.2 t.heap ∧ va_D A u.2) A) [.ref h0, .int pq1, .int pq2].toArray s 0 0 A) (F0 m 76 ls []) := by
            intro G w H locs hG hT hP hD hS g_h0 i76_0 ls hl
            refine lv_iload hx hb dX1_addStrike_76 (lv_at hl 4 rfl) ?_
            refine lv_iconst (v := 1) hx hb dX1_addStrike_78 (by decide) ?_
            refine lv_iadd hx hb dX1_addStrike_79 ?_
            refine lv_topi (fun vq79 eq79 => ?_)
            refine lv_iload_n hx hb dX1_addStrike_80 rfl (lv_at hl 2 rfl) ?_
            refine lv_icmp_ge (tgt := 91) hx hb dX1_addStrike_81 (by decide) (fun cq81 => ?_) (fun cq81 => ?_)
            · skip
              refine lv_iconst (v := 0) hx hb dX1_addStrike_91 (by decide) ?_
              refine lv_istore (lv' := [(5, .int 0), (0, .ref h0), (2, .int pq2), (3, .int zq3), (4, .int zq4), (6, .int zq6)]) hx hb dX1_addStrike_92 hl (by decide) rfl (fun ls hl => ?_)
              obtain ⟨vq94, eq94⟩ : ∃ y : Int32, y = zq6 + 1 := ⟨_, rfl⟩
              refine lv_iinc (v := vq94) (lv' := [(6, .int vq94), (5, .int 0), (0, .ref h0), (2, .int pq2), (3, .int zq3), (4, .int zq4)]) hx hb dX1_addStrike_94 hl (k := 5) rfl (by rw [eq94]; rfl) (by decide) rfl (fun ls hl => ?_)
              refine lv_goto (tgt := 42) hx hb dX1_addStrike_97 (by decide) ?_
              exact ih42 _ _ _ _ 0 vq94 hG hT hP hD hS g_h0 (by first | exact iq_nn1 i42_0 i76_0 eq94 | decide) (by first | exact i42_1 | exact iq_below cq24) (iq_up hm42 i76_0 eq94) _ (lv_sub hl [2, 3, 4, 5, 1, 0] rfl)
            · skip
              refine lv_iload hx hb dX1_addStrike_84 (lv_at hl 4 rfl) ?_
              refine lv_iconst (v := 1) hx hb dX1_addStrike_86 (by decide) ?_
              refine lv_iadd hx hb dX1_addStrike_87 ?_
              refine lv_topi (fun vq87 eq87 => ?_)
              refine lv_goto (tgt := 92) hx hb dX1_addStrike_88 (by decide) ?_
              refine lv_istore (lv' := [(5, .int vq87), (0, .ref h0), (2, .int pq2), (3, .int zq3), (4, .int zq4), (6, .int zq6)]) hx hb dX1_addStrike_92 hl (by decide) rfl (fun ls hl => ?_)
              obtain ⟨vq94, eq94⟩ : ∃ y : Int32, y = zq6 + 1 := ⟨_, rfl⟩
              refine lv_iinc (v := vq94) (lv' := [(6, .int vq94), (5, .int vq87), (0, .ref h0), (2, .int pq2), (3, .int zq3), (4, .int zq4)]) hx hb dX1_addStrike_94 hl (k := 5) rfl (by rw [eq94]; rfl) (by decide) rfl (fun ls hl => ?_)
              refine lv_goto (tgt := 42) hx hb dX1_addStrike_97 (by decide) ?_
              exact ih42 _ _ _ _ vq87 vq94 hG hT hP hD hS g_h0 (by first | exact iq_nn1 i42_0 i76_0 eq94 | decide) (by first | exact i42_1 | exact iq_below cq24) (iq_up hm42 i76_0 eq94) _ (lv_sub hl [2, 3, 4, 5, 1, 0] rfl)
          refine lv_iload hx hb dX1_addStrike_42 (lv_at hl 5 rfl) ?_
          refine lv_iload_n hx hb dX1_addStrike_44 rfl (lv_at hl 2 rfl) ?_
          refine lv_icmp_ge (tgt := 100) hx hb dX1_addStrike_45 (by decide) (fun cq45 => ?_) (fun cq45 => ?_)
          · skip
            obtain ⟨vq100, eq100⟩ : ∃ y : Int32, y = zq4 + 1 := ⟨_, rfl⟩
            refine lv_iinc (v := vq100) (lv' := [(4, .int vq100), (0, .ref h0), (2, .int pq2), (3, .int zq3), (5, .int zq5), (6, .int zq6)]) hx hb dX1_addStrike_100 hl (k := 3) rfl (by rw [eq100]; rfl) (by decide) rfl (fun ls hl => ?_)
            refine lv_goto (tgt := 19) hx hb dX1_addStrike_103 (by decide) ?_
            exact ih19 _ _ _ _ zq3 vq100 hG hT hP hD hS g_h0 (by first | exact i19_0 | exact iq_min eq4) (iq_upm hm19 i42_1 eq100) _ (lv_sub hl [1, 2, 3, 0] rfl)
          · skip
            refine lv_iload hx hb dX1_addStrike_48 (lv_at hl 4 rfl) ?_
            refine lv_if_lt (tgt := 76) hx hb dX1_addStrike_50 (by decide) (fun cq50 => ?_) (fun cq50 => ?_)
            · skip
              exact hJ76 _ _ _ _ hG hT hP hD hS g_h0 (cq45) _ (lv_sub hl [0, 1, 2, 3, 4, 5] rfl)
            · skip
              refine lv_iload hx hb dX1_addStrike_53 (lv_at hl 4 rfl) ?_
              refine lv_iload_n hx hb dX1_addStrike_55 rfl (lv_at hl 2 rfl) ?_
              refine lv_icmp_ge (tgt := 76) hx hb dX1_addStrike_56 (by decide) (fun cq56 => ?_) (fun cq56 => ?_)
              · skip
                exact hJ76 _ _ _ _ hG hT hP hD hS g_h0 (cq45) _ (lv_sub hl [0, 1, 2, 3, 4, 5] rfl)
              · skip
                refine lv_aload_n hx hb dX1_addStrike_59 rfl (lv_at hl 0 rfl) ?_
                obtain ⟨kq60, qq60, rq60, hk60, g_q60, g_r60⟩ := hT.k2 g_h0
                refine va_get (D := K.1) (ci := 1) (v := .ref rq60) (C := RX1) (T := TX1) (N := 2) hx hb hts hinX1 hown hK hP kq60 hk60 rfl 1 (by decide) (hts (.fieldLink RX1 15 "CodedWords$Chances" "waysOneMore" "[I") (by decide +kernel)) (fun _ h9 => h9) rfl dX1_addStrike_60 ?_
                refine lv_iload hx hb dX1_addStrike_63 (lv_at hl 5 rfl) ?_
                refine lv_dup2_11 hx hb dX1_addStrike_65 rfl rfl ?_
                refine t_iald hx hb hK hP hT g_r60 rfl (iq_inr i42_0 cq45 i19_0) dX1_addStrike_66 (fun vq66 => ?_)
                refine lv_aload_n hx hb dX1_addStrike_67 rfl (lv_at hl 0 rfl) ?_
                refine va_get (D := K.1) (ci := 1) (v := .ref qq60) (C := RX1) (T := TX1) (N := 2) hx hb hts hinX1 hown hK hP kq60 hk60 rfl 0 (by decide) (hts (.fieldLink RX1 9 "CodedWords$Chances" "ways" "[I") (by decide +kernel)) (fun _ h9 => h9) rfl dX1_addStrike_68 ?_
                refine lv_iload hx hb dX1_addStrike_71 (lv_at hl 4 rfl) ?_
                refine t_iald hx hb hK hP hT g_q60 rfl (iq_inr (by rw [iq_lt] at cq50; exact Int.not_lt.mp cq50) cq56 i19_0) dX1_addStrike_73 (fun vq73 => ?_)
                refine lv_iadd hx hb dX1_addStrike_74 ?_
                refine lv_topi (fun vq74 eq74 => ?_)
                refine t_iast hx hb hK hP hD hS hT g_r60 rfl (iq_inr i42_0 cq45 i19_0) dX1_addStrike_75 (fun w H locs hT hP hD hS hkp => ?_)
                have hk60 := hkp _ _ _ hk60
                exact hJ76 _ _ _ _ hG hT hP hD hS g_h0 (cq45) _ (lv_sub hl [0, 1, 2, 3, 4, 5] rfl)
      refine lv_iload hx hb dX1_addStrike_19 (lv_at hl 3 rfl) ?_
      refine lv_iconst (v := 2) hx hb dX1_addStrike_21 (by decide) ?_
      refine lv_iload_n hx hb dX1_addStrike_22 rfl (lv_at hl 1 rfl) ?_
      refine lv_imul hx hb dX1_addStrike_23 ?_
      refine lv_topi (fun vq23 eq23 => ?_)
      refine lv_icmp_ge (tgt := 106) hx hb dX1_addStrike_24 (by decide) (fun cq24 => ?_) (fun cq24 => ?_)
      · skip
        refine lv_iconst (v := 0) hx hb dX1_addStrike_106 (by decide) ?_
        refine lv_istore (lv' := [(4, .int 0), (0, .ref h0), (2, .int pq2), (3, .int zq3)]) hx hb dX1_addStrike_107 hl (by decide) rfl (fun ls hl => ?_)
        exact hJ109 ((2147483647 - (0 : Int32).toInt).toNat + 1) _ _ _ _ zq3 0 hG hT hP hD hS g_h0 (by first | exact i19_0 | exact i109_0) (by first | exact iq_nn1 i109_1 cq112 eq129 | decide) (Nat.lt_succ_self _) _ (lv_sub hl [1, 3, 0] rfl)
      · skip
        refine lv_iload hx hb dX1_addStrike_27 (lv_at hl 3 rfl) ?_
        refine r_i (va_runSN (As := [.int zq4]) (rest := []) ⟨hx, hb, hml, hown, hts⟩ (k_X5_change l zq4) ⟨va_cnB 1 hts gX1_addStrike_X5_change_n34 rfl rfl rfl (hN.m (o := RX5) (by decide +kernel)) (hts (.initialized RX5) (by decide +kernel)) (by decide +kernel) ⟨Nat.le_of_ble_eq_true rfl, Nat.le_of_ble_eq_true rfl⟩, hts (.static yX5_change) (by decide +kernel), trivial⟩ (pPreS) rfl rfl hl.1 rfl (lv_room (Nat.le_of_ble_eq_true rfl)) dX1_addStrike_29 ⟨Nat.le_of_ble_eq_true rfl, Nat.le_of_ble_eq_true rfl⟩) hP hS (fun rq29 H locs hp29 hP hS => ?_)
        refine lv_ineg hx hb dX1_addStrike_32 ?_
        refine lv_topi (fun vq32 eq32 => ?_)
        refine lv_iload_n hx hb dX1_addStrike_33 rfl (lv_at hl 2 rfl) ?_
        refine r_i (va_runSN (As := [.int vq32, .int zq3]) (rest := []) ⟨hx, hb, hml, hown, hts⟩ (k_X5_rest l vq32 zq3) ⟨va_cnB 2 hts gX1_addStrike_X5_rest_n38 rfl rfl rfl (hN.m (o := RX5) (by decide +kernel)) (hts (.initialized RX5) (by decide +kernel)) (by decide +kernel) ⟨Nat.le_of_ble_eq_true rfl, Nat.le_of_ble_eq_true rfl⟩, hts (.static yX5_rest) (by decide +kernel), trivial⟩ (pPreS) rfl rfl hl.1 rfl (lv_room (Nat.le_of_ble_eq_true rfl)) dX1_addStrike_34 ⟨Nat.le_of_ble_eq_true rfl, Nat.le_of_ble_eq_true rfl⟩) hP hS (fun rq34 H locs hp34 hP hS => ?_)
        refine lv_istore (lv' := [(5, .int rq34), (0, .ref h0), (2, .int pq2), (3, .int zq3), (4, .int zq4)]) hx hb dX1_addStrike_37 hl (by decide) rfl (fun ls hl => ?_)
        refine lv_iconst (v := 0) hx hb dX1_addStrike_39 (by decide) ?_
        refine lv_istore (lv' := [(6, .int 0), (5, .int rq34), (0, .ref h0), (2, .int pq2), (3, .int zq3), (4, .int zq4)]) hx hb dX1_addStrike_40 hl (by decide) rfl (fun ls hl => ?_)
        exact hJ42 ((2147483647 - (0 : Int32).toInt).toNat + 1) _ _ _ _ rq34 0 hG hT hP hD hS g_h0 (by first | exact iq_nn1 i42_0 i76_0 eq94 | decide) (by first | exact i42_1 | exact iq_below cq24) (Nat.lt_succ_self _) _ (lv_sub hl [2, 3, 4, 5, 1, 0] rfl)
  refine lv_iload_n hx hb dX1_addStrike_0 rfl (lv_at hl 1 rfl) ?_
  refine lv_sipush (v := 199) hx hb dX1_addStrike_1 (by decide) ?_
  refine va_mmin hx hb (hml.trans hl.1.symm) hown (hts (.methodLink RX1 28 Lib.Math.min.name) (by decide +kernel)) (hts (.static Lib.Math.min.name) (by decide +kernel)) (hts (.initialized "java/lang/Math") (by decide +kernel)) (hts (.code Lib.Math.min.name Lib.Math.min.code 2 (some .int)) (by decide +kernel)) (Nat.le_of_ble_eq_true rfl) (Nat.le_of_ble_eq_true rfl) (Nat.le_of_ble_eq_true rfl) (Nat.le_of_ble_eq_true rfl) dX1_addStrike_4 ?_
  refine lv_topi (fun vq4 eq4 => ?_)
  refine lv_istore_n (lv' := [(3, .int vq4), (0, .ref h0), (1, .int pq1), (2, .int pq2)]) hx hb dX1_addStrike_7 rfl hl (by decide) rfl (fun ls hl => ?_)
  refine lv_aload_n hx hb dX1_addStrike_8 rfl (lv_at hl 1 rfl) ?_
  obtain ⟨kq9, qq9, rq9, hk9, g_q9, g_r9⟩ := hT.k2 g_h0
  refine va_get (D := K.1) (ci := 1) (v := .ref rq9) (C := RX1) (T := TX1) (N := 2) hx hb hts hinX1 hown hK hP kq9 hk9 rfl 1 (by decide) (hts (.fieldLink RX1 15 "CodedWords$Chances" "waysOneMore" "[I") (by decide +kernel)) (fun _ h9 => h9) rfl dX1_addStrike_9 ?_
  refine lv_iconst (v := 0) hx hb dX1_addStrike_12 (by decide) ?_
  refine c_v (K := K) (K2 := K) (G := G0) (w := w0) (post := fun _ w1 => kpA w0 w1) (va_runS (mc := 0) (ms := 0) (rm := rmJ7_fill_53178) (As := [.ref rq9, .int 0]) (rest := []) ⟨hx, hb, hml, hown, hts⟩ (k_J7_fill_53178 l hT s.heap.size g_r9 rfl 0) (va_cwS 2 hts gX1_addStrike_J7_fill_53178 rfl rfl rfl (by decide +kernel) ⟨Nat.le_of_ble_eq_true rfl, Nat.le_of_ble_eq_true rfl⟩) (kPreS hP hK hD hN) rfl rfl hl.1 rfl (lv_room (Nat.le_of_ble_eq_true rfl)) dX1_addStrike_13 ⟨Nat.le_of_ble_eq_true rfl, Nat.le_of_ble_eq_true rfl⟩) hD hS hA (fun G w H locs hp13 hg hT hP hD hS => ?_)
  have hG := hG.tr hg
  have g_h0 := hg.at g_h0 (by decide)
  refine lv_iconst (v := 0) hx hb dX1_addStrike_16 (by decide) ?_
  refine lv_istore (lv' := [(4, .int 0), (3, .int vq4), (0, .ref h0), (1, .int pq1), (2, .int pq2)]) hx hb dX1_addStrike_17 hl (by decide) rfl (fun ls hl => ?_)
  exact hJ19 ((2147483647 - (0 : Int32).toInt).toNat + 1) _ _ _ _ vq4 0 hG hT hP hD hS g_h0 (by first | exact i19_0 | exact iq_min eq4) (Nat.lt_succ_self _) _ (lv_sub hl [2, 4, 1, 0] rfl)
abbrev rmX1_waysToFit : Room := { frames := 3, cells := 0, slots := 0, locals := 69 }
set_option maxHeartbeats 4000000 in
set_option maxRecDepth 100000 in
theorem k_X1_waysToFit (l : Launch) {K : Cx} {G0 : Nat → Nat} {w0 : va_W} (hT : TH K G0 w0) (sz : Nat) {h0 : Nat} (g_h0 : G0 h0 = 2) (pq1 : Int32) (pq2 : Int32) (pq3 : Int32)  : Ci l K yX1_waysToFit wsX1_waysToFit rmX1_waysToFit 0 0 [.ref h0, .int pq1, .int pq2, .int pq3] G0 w0 sz (fun _ _ _ => True) := by
  refine Met.ofW (cc := cX1_waysToFit) (maxL := 5) (ret := (some .int)) (by decide) rfl ?_
  intro p e s m args below meth c s₁ B hml hv
  obtain ⟨rfl, hsz, hP, hK, hD0, hN⟩ := hv
  have hx := B.exec
  have hb := B.bytes
  have hr := B.returns
  have hts := atoms_spec (ws := wsX1_waysToFit) B.pre
  have hown : s.vm.findClass RX1 = some m.cls := findClass_of_methodNamed B.named
  have hlocks := B.notSynchronized
  have hinX1 : ∀ w ∈ wsX10, w ∈ wsX1_waysToFit := by decide +kernel
  subst hsz
  have hD := hD0.self (sz := s.heap.size)
  generalize hAe : va_A w0 s.heap.size = A at hD ⊢
  have hA : ∀ q : Nat, s.heap.size ≤ q → A q := fun q h => by rw [← hAe]; exact Or.inr h
  have hS : va_S A s.heap s.heap [] := va_S.rf
  have hG : gLe G0 G0 := gLe.rf
  have hl := lv_entry ([.ref h0, .int pq1, .int pq2, .int pq3]) (n := 5) (Nat.le_of_ble_eq_true rfl)
  rw [lg_entry_eq]
  generalize (lg_sl ([.ref h0, .int pq1, .int pq2, .int pq3]) ++ List.replicate (5 - (lg_sl ([.ref h0, .int pq1, .int pq2, .int pq3])).length) Slot.unset).toArray = ls at hl ⊢
  have hl : lv_has ls 5 [(0, .ref h0), (1, .int pq1), (2, .int pq2), (3, .int pq3)] := hl
  have hJ18 : ∀ (n18 : Nat) (G : Nat → Nat) (w : va_W) (H : Heap) (locs : List Loc) (zq4 : Int32), (gLe G0 G) → (TH K G w) → (va_P K.1 vwCl w H) → (va_D A w) → (va_S A s.heap H locs) → (G h0 = 2) → ((2147483647 - zq4.toInt).toNat < n18) → ∀ (ls : Array Slot), lv_has ls 5 [(0, .ref h0), (1, .int pq1), (2, .int pq2), (3, .int pq3), (4, .int zq4)] → W p l e rmX1_waysToFit s m [.ref h0, .int pq1, .int pq2, .int pq3].toArray below meth c H locs 0 0 (MQ below (va_Qi (fun (r : Int32) (u : (Nat → Nat) × va_W) => (fun _ _ _ => True) r u.1 u.2 ∧ gLe G0 u.1 ∧ TH (K) u.1 u.2) (fun u t => va_P K.1 vwCl u.2 t.heap ∧ va_D A u.2) A) [.ref h0, .int pq1, .int pq2, .int pq3].toArray s 0 0 A) (F0 m 18 ls []) := by
    intro n18
    induction n18 with
    | zero =>
      intro G w H locs zq4 hG hT hP hD hS g_h0 hm18 ls hl
      exact absurd hm18 (Nat.not_lt_zero _)
    | succ n18 ih18 =>
      intro G w H locs zq4 hG hT hP hD hS g_h0 hm18 ls hl
      refine lv_iload hx hb dX1_waysToFit_18 (lv_at hl 4 rfl) ?_
      refine lv_iload_n hx hb dX1_waysToFit_20 rfl (lv_at hl 1 rfl) ?_
      refine lv_icmp_ge (tgt := 36) hx hb dX1_waysToFit_21 (by decide) (fun cq21 => ?_) (fun cq21 => ?_)
      · skip
        refine lv_aload_n hx hb dX1_waysToFit_36 rfl (lv_at hl 0 rfl) ?_
        obtain ⟨kq37, qq37, rq37, hk37, g_q37, g_r37⟩ := hT.k2 g_h0
        refine va_get (D := K.1) (ci := 1) (v := .ref qq37) (C := RX1) (T := TX1) (N := 2) hx hb hts hinX1 hown hK hP kq37 hk37 rfl 0 (by decide) (hts (.fieldLink RX1 9 "CodedWords$Chances" "ways" "[I") (by decide +kernel)) (fun _ h9 => h9) rfl dX1_waysToFit_37 ?_
        refine lv_iconst (v := 0) hx hb dX1_waysToFit_40 (by decide) ?_
        refine t_iald hx hb hK hP hT g_q37 rfl (iq_in (by decide) (by decide)) dX1_waysToFit_41 (fun vq41 => ?_)
        exact W.iret (v := vq41) hx hb hr (fun t ht hW => ⟨⟨vq41, (G, w), rfl, ⟨trivial, hG, hT⟩, by rw [ht]; exact hP, hD⟩, hS.F ht⟩) hS.2.2 dX1_waysToFit_42
      · skip
        refine lv_aload_n hx hb dX1_waysToFit_24 rfl (lv_at hl 0 rfl) ?_
        refine lv_iload_n hx hb dX1_waysToFit_25 rfl (lv_at hl 2 rfl) ?_
        refine lv_iload_n hx hb dX1_waysToFit_26 rfl (lv_at hl 3 rfl) ?_
        refine c_v (K := K) (K2 := K) (G := G) (w := w) (post := fun _ _ => True) (va_runV (mc := 0) (ms := 0) (rm := rmX1_addStrike) (As := [.int pq2, .int pq3]) (rest := []) ⟨hx, hb, hml, hown, hts⟩ (k_X1_addStrike l hT H.size g_h0 pq2 pq3) (cwV 2 hts gX1_waysToFit_X1_addStrike rfl rfl rfl (by decide +kernel) ⟨Nat.le_of_ble_eq_true rfl, Nat.le_of_ble_eq_true rfl⟩) (kPreV (hT.rcv2 g_h0 hK hP) hP hK hD hN) rfl rfl hl.1 rfl (lv_room (Nat.le_of_ble_eq_true rfl)) dX1_waysToFit_27 ⟨Nat.le_of_ble_eq_true rfl, Nat.le_of_ble_eq_true rfl⟩) hD hS hA (fun G w H locs hp27 hg hT hP hD hS => ?_)
        have hG := hG.tr hg
        have g_h0 := hg.at g_h0 (by decide)
        obtain ⟨vq30, eq30⟩ : ∃ y : Int32, y = zq4 + 1 := ⟨_, rfl⟩
        refine lv_iinc (v := vq30) (lv' := [(4, .int vq30), (0, .ref h0), (1, .int pq1), (2, .int pq2), (3, .int pq3)]) hx hb dX1_waysToFit_30 hl (k := 4) rfl (by rw [eq30]; rfl) (by decide) rfl (fun ls hl => ?_)
        refine lv_goto (tgt := 18) hx hb dX1_waysToFit_33 (by decide) ?_
        exact ih18 _ _ _ _ vq30 hG hT hP hD hS g_h0 (iq_up hm18 cq21 eq30) _ (lv_sub hl [1, 2, 3, 4, 0] rfl)
  refine lv_aload_n hx hb dX1_waysToFit_0 rfl (lv_at hl 0 rfl) ?_
  obtain ⟨kq1, qq1, rq1, hk1, g_q1, g_r1⟩ := hT.k2 g_h0
  refine va_get (D := K.1) (ci := 1) (v := .ref qq1) (C := RX1) (T := TX1) (N := 2) hx hb hts hinX1 hown hK hP kq1 hk1 rfl 0 (by decide) (hts (.fieldLink RX1 9 "CodedWords$Chances" "ways" "[I") (by decide +kernel)) (fun _ h9 => h9) rfl dX1_waysToFit_1 ?_
  refine lv_iconst (v := 0) hx hb dX1_waysToFit_4 (by decide) ?_
  refine c_v (K := K) (K2 := K) (G := G0) (w := w0) (post := fun _ w1 => kpA w0 w1) (va_runS (mc := 0) (ms := 0) (rm := rmJ7_fill_53178) (As := [.ref qq1, .int 0]) (rest := []) ⟨hx, hb, hml, hown, hts⟩ (k_J7_fill_53178 l hT s.heap.size g_q1 rfl 0) (va_cwS 2 hts gX1_waysToFit_J7_fill_53178 rfl rfl rfl (by decide +kernel) ⟨Nat.le_of_ble_eq_true rfl, Nat.le_of_ble_eq_true rfl⟩) (kPreS hP hK hD hN) rfl rfl hl.1 rfl (lv_room (Nat.le_of_ble_eq_true rfl)) dX1_waysToFit_5 ⟨Nat.le_of_ble_eq_true rfl, Nat.le_of_ble_eq_true rfl⟩) hD hS hA (fun G w H locs hp5 hg hT hP hD hS => ?_)
  have hG := hG.tr hg
  have g_h0 := hg.at g_h0 (by decide)
  refine lv_aload_n hx hb dX1_waysToFit_8 rfl (lv_at hl 0 rfl) ?_
  obtain ⟨kq9, qq9, rq9, hk9, g_q9, g_r9⟩ := hT.k2 g_h0
  refine va_get (D := K.1) (ci := 1) (v := .ref qq9) (C := RX1) (T := TX1) (N := 2) hx hb hts hinX1 hown hK hP kq9 hk9 rfl 0 (by decide) (hts (.fieldLink RX1 9 "CodedWords$Chances" "ways" "[I") (by decide +kernel)) (fun _ h9 => h9) rfl dX1_waysToFit_9 ?_
  refine lv_iconst (v := 0) hx hb dX1_waysToFit_12 (by decide) ?_
  refine lv_iconst (v := 1) hx hb dX1_waysToFit_13 (by decide) ?_
  refine t_iast hx hb hK hP hD hS hT g_q9 rfl (iq_in (by decide) (by decide)) dX1_waysToFit_14 (fun w H locs hT hP hD hS hkp => ?_)
  have hk9 := hkp _ _ _ hk9
  refine lv_iconst (v := 0) hx hb dX1_waysToFit_15 (by decide) ?_
  refine lv_istore (lv' := [(4, .int 0), (0, .ref h0), (1, .int pq1), (2, .int pq2), (3, .int pq3)]) hx hb dX1_waysToFit_16 hl (by decide) rfl (fun ls hl => ?_)
  exact hJ18 ((2147483647 - (0 : Int32).toInt).toNat + 1) _ _ _ _ 0 hG hT hP hD hS g_h0 (Nat.lt_succ_self _) _ (lv_sub hl [1, 2, 3, 4, 0] rfl)
abbrev rmX3_remember : Room := { frames := 3, cells := 0, slots := 0, locals := 65 }
set_option maxHeartbeats 4000000 in
set_option maxRecDepth 100000 in
theorem k_X3_remember (l : Launch) {K : Cx} {G0 : Nat → Nat} {w0 : va_W} (hT : TH K G0 w0) (sz : Nat) {h0 : Nat} (g_h0 : G0 h0 = 4) {h1 : Nat} (g_h1 : G0 h1 = 3)  : Cv l K yX3_remember wsX3_remember rmX3_remember 0 0 [.ref h0, .ref h1] G0 w0 sz (fun _ _ => True) := by
  refine Met.ofW (cc := cX3_remember) (maxL := 3) (ret := none) (by decide) rfl ?_
  intro p e s m args below meth c s₁ B hml hv
  obtain ⟨rfl, hsz, hP, hK, hD0, hN⟩ := hv
  have hx := B.exec
  have hb := B.bytes
  have hr := B.returns
  have hts := atoms_spec (ws := wsX3_remember) B.pre
  have hown : s.vm.findClass RX3 = some m.cls := findClass_of_methodNamed B.named
  have hlocks := B.notSynchronized
  have hinX3 : ∀ w ∈ wsX30, w ∈ wsX3_remember := by decide +kernel
  subst hsz
  have hD := hD0.self (sz := s.heap.size)
  generalize hAe : va_A w0 s.heap.size = A at hD ⊢
  have hA : ∀ q : Nat, s.heap.size ≤ q → A q := fun q h => by rw [← hAe]; exact Or.inr h
  have hS : va_S A s.heap s.heap [] := va_S.rf
  have hG : gLe G0 G0 := gLe.rf
  have hl := lv_entry ([.ref h0, .ref h1]) (n := 3) (Nat.le_of_ble_eq_true rfl)
  rw [lg_entry_eq]
  generalize (lg_sl ([.ref h0, .ref h1]) ++ List.replicate (3 - (lg_sl ([.ref h0, .ref h1])).length) Slot.unset).toArray = ls at hl ⊢
  have hl : lv_has ls 3 [(0, .ref h0), (1, .ref h1)] := hl
  have hJ34 : ∀ (G : Nat → Nat) (w : va_W) (H : Heap) (locs : List Loc), (gLe G0 G) → (TH K G w) → (va_P K.1 vwCl w H) → (va_D A w) → (va_S A s.heap H locs) → (G h0 = 4) → (G h1 = 3) → ∀ (ls : Array Slot), lv_has ls 3 [(0, .ref h0), (1, .ref h1)] → W p l e rmX3_remember s m [.ref h0, .ref h1].toArray below meth c H locs 0 0 (MQ below (va_Qv (fun (u : (Nat → Nat) × va_W) => (fun _ _ => True) u.1 u.2 ∧ gLe G0 u.1 ∧ TH (K) u.1 u.2) (fun u t => va_P K.1 vwCl u.2 t.heap ∧ va_D A u.2) A) [.ref h0, .ref h1].toArray s 0 0 A) (F0 m 34 ls []) := by
    intro G w H locs hG hT hP hD hS g_h0 g_h1 ls hl
    refine lv_aload_n hx hb dX3_remember_34 rfl (lv_at hl 0 rfl) ?_
    obtain ⟨kq35, qq35, xq35, yq35, hk35, g_q35⟩ := hT.k4 g_h0
    refine va_get (D := K.1) (ci := 3) (v := .ref qq35) (C := RX3) (T := TX3) (N := 3) hx hb hts hinX3 hown hK hP kq35 hk35 rfl 0 (by decide) (hts (.fieldLink RX3 11 "CodedWords$Past" "ring" "[LCodedWords$Code;") (by decide +kernel)) (fun _ h9 => h9) rfl dX3_remember_35 ?_
    refine lv_aload_n hx hb dX3_remember_38 rfl (lv_at hl 0 rfl) ?_
    refine va_get (D := K.1) (ci := 3) (v := .int xq35) (C := RX3) (T := TX3) (N := 3) hx hb hts hinX3 hown hK hP kq35 hk35 rfl 1 (by decide) (hts (.fieldLink RX3 17 "CodedWords$Past" "oldest" "I") (by decide +kernel)) (fun _ h9 => h9) rfl dX3_remember_39 ?_
    refine lv_aload_n hx hb dX3_remember_42 rfl (lv_at hl 0 rfl) ?_
    refine va_get (D := K.1) (ci := 3) (v := .int yq35) (C := RX3) (T := TX3) (N := 3) hx hb hts hinX3 hown hK hP kq35 hk35 rfl 2 (by decide) (hts (.fieldLink RX3 21 "CodedWords$Past" "known" "I") (by decide +kernel)) (fun _ h9 => h9) rfl dX3_remember_43 ?_
    refine lv_iadd hx hb dX3_remember_46 ?_
    refine lv_topi (fun vq46 eq46 => ?_)
    refine lv_bipush (v := 12) hx hb dX3_remember_47 (by decide) ?_
    refine r_i (va_runS (As := [.int vq46, .int 12]) (rest := [.ref qq35]) ⟨hx, hb, hml, hown, hts⟩ (k_J9_floorMod_7cf53 l vq46 12 (by decide)) (va_cwS 2 hts gX3_remember_J9_floorMod_7cf53 rfl rfl rfl (by decide +kernel) ⟨Nat.le_of_ble_eq_true rfl, Nat.le_of_ble_eq_true rfl⟩) (pPreS) rfl rfl hl.1 rfl (lv_room (Nat.le_of_ble_eq_true rfl)) dX3_remember_49 ⟨Nat.le_of_ble_eq_true rfl, Nat.le_of_ble_eq_true rfl⟩) hP hS (fun rq49 H locs hp49 hP hS => ?_)
    refine t_aald hx hb hK hP hT g_q35 rfl (iq_mod (by decide) rfl hp49) dX3_remember_52 ?_ (fun qq52 g_q52 => ?_)
    · skip
      refine lv_astore_nN (lv' := [(2, .null), (0, .ref h0), (1, .ref h1)]) hx hb dX3_remember_53 rfl hl (by decide) rfl (fun ls hl => ?_)
      refine lv_aload_nN hx hb dX3_remember_54 rfl (lv_at hl 0 rfl) ?_
      refine lv_ifnullN (tgt := 73) hx hb dX3_remember_55 (by decide) ?_
      exact W.vret hx hb hr (fun t ht hW => ⟨⟨(G, w), rfl, ⟨trivial, hG, hT⟩, by rw [ht]; exact hP, hD⟩, hS.F ht⟩) hS.2.2 dX3_remember_73
    · skip
      refine lv_astore_n (lv' := [(2, .ref qq52), (0, .ref h0), (1, .ref h1)]) hx hb dX3_remember_53 rfl hl (by decide) rfl (fun ls hl => ?_)
      refine lv_aload_n hx hb dX3_remember_54 rfl (lv_at hl 0 rfl) ?_
      refine lv_ifnull hx hb dX3_remember_55 ?_
      refine lv_aload_n hx hb dX3_remember_58 rfl (lv_at hl 0 rfl) ?_
      refine lv_aload_n hx hb dX3_remember_59 rfl (lv_at hl 2 rfl) ?_
      refine c_v (K := K) (K2 := K) (G := G) (w := w) (post := fun _ _ => True) (va_runV (mc := 0) (ms := 0) (rm := rmX2_copyFrom) (As := [.ref h1]) (rest := []) ⟨hx, hb, hml, hown, hts⟩ (k_X2_copyFrom l hT H.size g_q52 g_h1) (cwV 1 hts gX3_remember_X2_copyFrom rfl rfl rfl (by decide +kernel) ⟨Nat.le_of_ble_eq_true rfl, Nat.le_of_ble_eq_true rfl⟩) (kPreV (hT.rcv3 g_q52 hK hP) hP hK hD hN) rfl rfl hl.1 rfl (lv_room (Nat.le_of_ble_eq_true rfl)) dX3_remember_60 ⟨Nat.le_of_ble_eq_true rfl, Nat.le_of_ble_eq_true rfl⟩) hD hS hA (fun G w H locs hp60 hg hT hP hD hS => ?_)
      have hG := hG.tr hg
      have g_q52 := hg.at g_q52 (by decide)
      have g_h0 := hg.at g_h0 (by decide)
      have g_h1 := hg.at g_h1 (by decide)
      refine lv_aload_n hx hb dX3_remember_63 rfl (lv_at hl 1 rfl) ?_
      refine lv_dup hx hb dX3_remember_64 rfl ?_
      obtain ⟨kq65, qq65, xq65, yq65, hk65, g_q65⟩ := hT.k4 g_h0
      refine va_get (D := K.1) (ci := 3) (v := .int yq65) (C := RX3) (T := TX3) (N := 3) hx hb hts hinX3 hown hK hP kq65 hk65 rfl 2 (by decide) (hts (.fieldLink RX3 21 "CodedWords$Past" "known" "I") (by decide +kernel)) (fun _ h9 => h9) rfl dX3_remember_65 ?_
      refine lv_iconst (v := 1) hx hb dX3_remember_68 (by decide) ?_
      refine lv_iadd hx hb dX3_remember_69 ?_
      refine lv_topi (fun vq69 eq69 => ?_)
      obtain ⟨kq70, qq70, xq70, yq70, hk70, g_q70⟩ := hT.k4 g_h0
      refine t_put (ci := 3) (v := .int vq69) (ty := .int) (C := RX3) (T := TX3) (N := 3) hx hb hts hinX3 tyX3 tyX3_ok nmX3 hown hK hP hD hS hT kq70 hk70 rfl 2 (by decide) (hts (.fieldLink RX3 21 "CodedWords$Past" "known" "I") (by decide +kernel)) (fun _ h9 => h9) rfl (by decide +kernel) rfl rfl (Nat.le_of_ble_eq_true rfl) (by rw [g_h0]; exact ⟨_, _, _, rfl, g_q70⟩) dX3_remember_70 (fun w H locs hT hP hD hS hnw hkp => ?_)
      exact W.vret hx hb hr (fun t ht hW => ⟨⟨(G, w), rfl, ⟨trivial, hG, hT⟩, by rw [ht]; exact hP, hD⟩, hS.F ht⟩) hS.2.2 dX3_remember_73
  refine lv_aload_n hx hb dX3_remember_0 rfl (lv_at hl 0 rfl) ?_
  obtain ⟨kq1, qq1, xq1, yq1, hk1, g_q1⟩ := hT.k4 g_h0
  refine va_get (D := K.1) (ci := 3) (v := .int yq1) (C := RX3) (T := TX3) (N := 3) hx hb hts hinX3 hown hK hP kq1 hk1 rfl 2 (by decide) (hts (.fieldLink RX3 21 "CodedWords$Past" "known" "I") (by decide +kernel)) (fun _ h9 => h9) rfl dX3_remember_1 ?_
  refine lv_bipush (v := 12) hx hb dX3_remember_4 (by decide) ?_
  refine lv_icmp_ne (tgt := 34) hx hb dX3_remember_6 (by decide) (fun cq6 => ?_) (fun cq6 => ?_)
  · skip
    exact hJ34 _ _ _ _ hG hT hP hD hS g_h0 g_h1 _ (lv_sub hl [0, 1] rfl)
  · skip
    refine lv_aload_n hx hb dX3_remember_9 rfl (lv_at hl 0 rfl) ?_
    refine lv_aload_n hx hb dX3_remember_10 rfl (lv_at hl 0 rfl) ?_
    refine va_get (D := K.1) (ci := 3) (v := .int xq1) (C := RX3) (T := TX3) (N := 3) hx hb hts hinX3 hown hK hP kq1 hk1 rfl 1 (by decide) (hts (.fieldLink RX3 17 "CodedWords$Past" "oldest" "I") (by decide +kernel)) (fun _ h9 => h9) rfl dX3_remember_11 ?_
    refine lv_iconst (v := 1) hx hb dX3_remember_14 (by decide) ?_
    refine lv_iadd hx hb dX3_remember_15 ?_
    refine lv_topi (fun vq15 eq15 => ?_)
    refine lv_bipush (v := 12) hx hb dX3_remember_16 (by decide) ?_
    refine r_i (va_runSN (As := [.int vq15, .int 12]) (rest := [.ref h0]) ⟨hx, hb, hml, hown, hts⟩ (k_X5_rest l vq15 12) ⟨va_cnB 2 hts gX3_remember_X5_rest_n25 rfl rfl rfl (hN.m (o := RX5) (by decide +kernel)) (hts (.initialized RX5) (by decide +kernel)) (by decide +kernel) ⟨Nat.le_of_ble_eq_true rfl, Nat.le_of_ble_eq_true rfl⟩, hts (.static yX5_rest) (by decide +kernel), trivial⟩ (pPreS) rfl rfl hl.1 rfl (lv_room (Nat.le_of_ble_eq_true rfl)) dX3_remember_18 ⟨Nat.le_of_ble_eq_true rfl, Nat.le_of_ble_eq_true rfl⟩) hP hS (fun rq18 H locs hp18 hP hS => ?_)
    obtain ⟨kq21, qq21, xq21, yq21, hk21, g_q21⟩ := hT.k4 g_h0
    refine t_put (ci := 3) (v := .int rq18) (ty := .int) (C := RX3) (T := TX3) (N := 3) hx hb hts hinX3 tyX3 tyX3_ok nmX3 hown hK hP hD hS hT kq21 hk21 rfl 1 (by decide) (hts (.fieldLink RX3 17 "CodedWords$Past" "oldest" "I") (by decide +kernel)) (fun _ h9 => h9) rfl (by decide +kernel) rfl rfl (Nat.le_of_ble_eq_true rfl) (by rw [g_h0]; exact ⟨_, _, _, rfl, g_q21⟩) dX3_remember_21 (fun w H locs hT hP hD hS hnw hkp => ?_)
    refine lv_aload_n hx hb dX3_remember_24 rfl (lv_at hl 0 rfl) ?_
    refine lv_dup hx hb dX3_remember_25 rfl ?_
    obtain ⟨kq26, qq26, xq26, yq26, hk26, g_q26⟩ := hT.k4 g_h0
    refine va_get (D := K.1) (ci := 3) (v := .int yq26) (C := RX3) (T := TX3) (N := 3) hx hb hts hinX3 hown hK hP kq26 hk26 rfl 2 (by decide) (hts (.fieldLink RX3 21 "CodedWords$Past" "known" "I") (by decide +kernel)) (fun _ h9 => h9) rfl dX3_remember_26 ?_
    refine lv_iconst (v := 1) hx hb dX3_remember_29 (by decide) ?_
    refine lv_isub hx hb dX3_remember_30 ?_
    refine lv_topi (fun vq30 eq30 => ?_)
    obtain ⟨kq31, qq31, xq31, yq31, hk31, g_q31⟩ := hT.k4 g_h0
    refine t_put (ci := 3) (v := .int vq30) (ty := .int) (C := RX3) (T := TX3) (N := 3) hx hb hts hinX3 tyX3 tyX3_ok nmX3 hown hK hP hD hS hT kq31 hk31 rfl 2 (by decide) (hts (.fieldLink RX3 21 "CodedWords$Past" "known" "I") (by decide +kernel)) (fun _ h9 => h9) rfl (by decide +kernel) rfl rfl (Nat.le_of_ble_eq_true rfl) (by rw [g_h0]; exact ⟨_, _, _, rfl, g_q31⟩) dX3_remember_31 (fun w H locs hT hP hD hS hnw hkp => ?_)
    exact hJ34 _ _ _ _ hG hT hP hD hS g_h0 g_h1 _ (lv_sub hl [0, 1] rfl)
abbrev rmX3_recall : Room := { frames := 3, cells := 0, slots := 0, locals := 65 }
set_option maxHeartbeats 4000000 in
set_option maxRecDepth 100000 in
theorem k_X3_recall (l : Launch) {K : Cx} {G0 : Nat → Nat} {w0 : va_W} (hT : TH K G0 w0) (sz : Nat) {h0 : Nat} (g_h0 : G0 h0 = 4) {h1 : Nat} (g_h1 : G0 h1 = 3)  : Ci l K yX3_recall wsX3_recall rmX3_recall 0 0 [.ref h0, .ref h1] G0 w0 sz (fun _ _ _ => True) := by
  refine Met.ofW (cc := cX3_recall) (maxL := 3) (ret := (some .boolean)) (by decide) rfl ?_
  intro p e s m args below meth c s₁ B hml hv
  obtain ⟨rfl, hsz, hP, hK, hD0, hN⟩ := hv
  have hx := B.exec
  have hb := B.bytes
  have hr := B.returns
  have hts := atoms_spec (ws := wsX3_recall) B.pre
  have hown : s.vm.findClass RX3 = some m.cls := findClass_of_methodNamed B.named
  have hlocks := B.notSynchronized
  have hinX3 : ∀ w ∈ wsX30, w ∈ wsX3_recall := by decide +kernel
  subst hsz
  have hD := hD0.self (sz := s.heap.size)
  generalize hAe : va_A w0 s.heap.size = A at hD ⊢
  have hA : ∀ q : Nat, s.heap.size ≤ q → A q := fun q h => by rw [← hAe]; exact Or.inr h
  have hS : va_S A s.heap s.heap [] := va_S.rf
  have hG : gLe G0 G0 := gLe.rf
  have hl := lv_entry ([.ref h0, .ref h1]) (n := 3) (Nat.le_of_ble_eq_true rfl)
  rw [lg_entry_eq]
  generalize (lg_sl ([.ref h0, .ref h1]) ++ List.replicate (3 - (lg_sl ([.ref h0, .ref h1])).length) Slot.unset).toArray = ls at hl ⊢
  have hl : lv_has ls 3 [(0, .ref h0), (1, .ref h1)] := hl
  refine lv_aload_n hx hb dX3_recall_0 rfl (lv_at hl 0 rfl) ?_
  obtain ⟨kq1, qq1, xq1, yq1, hk1, g_q1⟩ := hT.k4 g_h0
  refine va_get (D := K.1) (ci := 3) (v := .int yq1) (C := RX3) (T := TX3) (N := 3) hx hb hts hinX3 hown hK hP kq1 hk1 rfl 2 (by decide) (hts (.fieldLink RX3 21 "CodedWords$Past" "known" "I") (by decide +kernel)) (fun _ h9 => h9) rfl dX3_recall_1 ?_
  refine lv_if_ne (tgt := 9) hx hb dX3_recall_4 (by decide) (fun cq4 => ?_) (fun cq4 => ?_)
  · skip
    refine lv_aload_n hx hb dX3_recall_9 rfl (lv_at hl 0 rfl) ?_
    refine va_get (D := K.1) (ci := 3) (v := .ref qq1) (C := RX3) (T := TX3) (N := 3) hx hb hts hinX3 hown hK hP kq1 hk1 rfl 0 (by decide) (hts (.fieldLink RX3 11 "CodedWords$Past" "ring" "[LCodedWords$Code;") (by decide +kernel)) (fun _ h9 => h9) rfl dX3_recall_10 ?_
    refine lv_aload_n hx hb dX3_recall_13 rfl (lv_at hl 0 rfl) ?_
    refine va_get (D := K.1) (ci := 3) (v := .int xq1) (C := RX3) (T := TX3) (N := 3) hx hb hts hinX3 hown hK hP kq1 hk1 rfl 1 (by decide) (hts (.fieldLink RX3 17 "CodedWords$Past" "oldest" "I") (by decide +kernel)) (fun _ h9 => h9) rfl dX3_recall_14 ?_
    refine lv_aload_n hx hb dX3_recall_17 rfl (lv_at hl 0 rfl) ?_
    refine va_get (D := K.1) (ci := 3) (v := .int yq1) (C := RX3) (T := TX3) (N := 3) hx hb hts hinX3 hown hK hP kq1 hk1 rfl 2 (by decide) (hts (.fieldLink RX3 21 "CodedWords$Past" "known" "I") (by decide +kernel)) (fun _ h9 => h9) rfl dX3_recall_18 ?_
    refine lv_iadd hx hb dX3_recall_21 ?_
    refine lv_topi (fun vq21 eq21 => ?_)
    refine lv_iconst (v := 1) hx hb dX3_recall_22 (by decide) ?_
    refine lv_isub hx hb dX3_recall_23 ?_
    refine lv_topi (fun vq23 eq23 => ?_)
    refine lv_bipush (v := 12) hx hb dX3_recall_24 (by decide) ?_
    refine r_i (va_runS (As := [.int vq23, .int 12]) (rest := [.ref qq1]) ⟨hx, hb, hml, hown, hts⟩ (k_J9_floorMod_7cf53 l vq23 12 (by decide)) (va_cwS 2 hts gX3_recall_J9_floorMod_7cf53 rfl rfl rfl (by decide +kernel) ⟨Nat.le_of_ble_eq_true rfl, Nat.le_of_ble_eq_true rfl⟩) (pPreS) rfl rfl hl.1 rfl (lv_room (Nat.le_of_ble_eq_true rfl)) dX3_recall_26 ⟨Nat.le_of_ble_eq_true rfl, Nat.le_of_ble_eq_true rfl⟩) hP hS (fun rq26 H locs hp26 hP hS => ?_)
    refine t_aald hx hb hK hP hT g_q1 rfl (iq_mod (by decide) rfl hp26) dX3_recall_29 ?_ (fun qq29 g_q29 => ?_)
    · skip
      refine lv_astore_nN (lv' := [(2, .null), (0, .ref h0), (1, .ref h1)]) hx hb dX3_recall_30 rfl hl (by decide) rfl (fun ls hl => ?_)
      refine lv_aload_nN hx hb dX3_recall_31 rfl (lv_at hl 0 rfl) ?_
      refine lv_ifnonnullN hx hb dX3_recall_32 ?_
      refine lv_iconst (v := 0) hx hb dX3_recall_35 (by decide) ?_
      exact W.zret (v := 0) (ty := .boolean) hx hb hr (rfl) (fun t ht hW => ⟨⟨0, (G0, w0), rfl, ⟨trivial, hG, hT⟩, by rw [ht]; exact hP, hD⟩, hS.F ht⟩) hS.2.2 dX3_recall_36
    · skip
      refine lv_astore_n (lv' := [(2, .ref qq29), (0, .ref h0), (1, .ref h1)]) hx hb dX3_recall_30 rfl hl (by decide) rfl (fun ls hl => ?_)
      refine lv_aload_n hx hb dX3_recall_31 rfl (lv_at hl 0 rfl) ?_
      refine lv_ifnonnull (tgt := 37) hx hb dX3_recall_32 (by decide) ?_
      refine lv_aload_n hx hb dX3_recall_37 rfl (lv_at hl 2 rfl) ?_
      refine lv_aload_n hx hb dX3_recall_38 rfl (lv_at hl 0 rfl) ?_
      refine c_v (K := K) (K2 := K) (G := G0) (w := w0) (post := fun _ _ => True) (va_runV (mc := 0) (ms := 0) (rm := rmX2_copyFrom) (As := [.ref qq29]) (rest := []) ⟨hx, hb, hml, hown, hts⟩ (k_X2_copyFrom l hT H.size g_h1 g_q29) (cwV 1 hts gX3_recall_X2_copyFrom rfl rfl rfl (by decide +kernel) ⟨Nat.le_of_ble_eq_true rfl, Nat.le_of_ble_eq_true rfl⟩) (kPreV (hT.rcv3 g_h1 hK hP) hP hK hD hN) rfl rfl hl.1 rfl (lv_room (Nat.le_of_ble_eq_true rfl)) dX3_recall_39 ⟨Nat.le_of_ble_eq_true rfl, Nat.le_of_ble_eq_true rfl⟩) hD hS hA (fun G w H locs hp39 hg hT hP hD hS => ?_)
      have hG := hG.tr hg
      have g_q29 := hg.at g_q29 (by decide)
      have g_h0 := hg.at g_h0 (by decide)
      have g_h1 := hg.at g_h1 (by decide)
      refine lv_aload_n hx hb dX3_recall_42 rfl (lv_at hl 1 rfl) ?_
      refine lv_dup hx hb dX3_recall_43 rfl ?_
      obtain ⟨kq44, qq44, xq44, yq44, hk44, g_q44⟩ := hT.k4 g_h0
      refine va_get (D := K.1) (ci := 3) (v := .int yq44) (C := RX3) (T := TX3) (N := 3) hx hb hts hinX3 hown hK hP kq44 hk44 rfl 2 (by decide) (hts (.fieldLink RX3 21 "CodedWords$Past" "known" "I") (by decide +kernel)) (fun _ h9 => h9) rfl dX3_recall_44 ?_
      refine lv_iconst (v := 1) hx hb dX3_recall_47 (by decide) ?_
      refine lv_isub hx hb dX3_recall_48 ?_
      refine lv_topi (fun vq48 eq48 => ?_)
      obtain ⟨kq49, qq49, xq49, yq49, hk49, g_q49⟩ := hT.k4 g_h0
      refine t_put (ci := 3) (v := .int vq48) (ty := .int) (C := RX3) (T := TX3) (N := 3) hx hb hts hinX3 tyX3 tyX3_ok nmX3 hown hK hP hD hS hT kq49 hk49 rfl 2 (by decide) (hts (.fieldLink RX3 21 "CodedWords$Past" "known" "I") (by decide +kernel)) (fun _ h9 => h9) rfl (by decide +kernel) rfl rfl (Nat.le_of_ble_eq_true rfl) (by rw [g_h0]; exact ⟨_, _, _, rfl, g_q49⟩) dX3_recall_49 (fun w H locs hT hP hD hS hnw hkp => ?_)
      refine lv_iconst (v := 1) hx hb dX3_recall_52 (by decide) ?_
      exact W.zret (v := 1) (ty := .boolean) hx hb hr (rfl) (fun t ht hW => ⟨⟨1, (G, w), rfl, ⟨trivial, hG, hT⟩, by rw [ht]; exact hP, hD⟩, hS.F ht⟩) hS.2.2 dX3_recall_53
  · skip
    refine lv_iconst (v := 0) hx hb dX3_recall_7 (by decide) ?_
    exact W.zret (v := 0) (ty := .boolean) hx hb hr (rfl) (fun t ht hW => ⟨⟨0, (G0, w0), rfl, ⟨trivial, hG, hT⟩, by rw [ht]; exact hP, hD⟩, hS.F ht⟩) hS.2.2 dX3_recall_8
abbrev rmX3_lose : Room := { frames := 0, cells := 0, slots := 0, locals := 0 }
set_option maxHeartbeats 4000000 in
set_option maxRecDepth 100000 in
theorem k_X3_lose (l : Launch) {K : Cx} {G0 : Nat → Nat} {w0 : va_W} (hT : TH K G0 w0) (sz : Nat) {h0 : Nat} (g_h0 : G0 h0 = 4)  : Cv l K yX3_lose wsX3_lose rmX3_lose 0 0 [.ref h0] G0 w0 sz (fun _ _ => True) := by
  refine Met.ofW (cc := cX3_lose) (maxL := 1) (ret := none) (by decide) rfl ?_
  intro p e s m args below meth c s₁ B hml hv
  obtain ⟨rfl, hsz, hP, hK, hD0, hN⟩ := hv
  have hx := B.exec
  have hb := B.bytes
  have hr := B.returns
  have hts := atoms_spec (ws := wsX3_lose) B.pre
  have hown : s.vm.findClass RX3 = some m.cls := findClass_of_methodNamed B.named
  have hlocks := B.notSynchronized
  have hinX3 : ∀ w ∈ wsX30, w ∈ wsX3_lose := by decide +kernel
  subst hsz
  have hD := hD0.self (sz := s.heap.size)
  generalize hAe : va_A w0 s.heap.size = A at hD ⊢
  have hA : ∀ q : Nat, s.heap.size ≤ q → A q := fun q h => by rw [← hAe]; exact Or.inr h
  have hS : va_S A s.heap s.heap [] := va_S.rf
  have hG : gLe G0 G0 := gLe.rf
  have hl := lv_entry ([.ref h0]) (n := 1) (Nat.le_of_ble_eq_true rfl)
  rw [lg_entry_eq]
  generalize (lg_sl ([.ref h0]) ++ List.replicate (1 - (lg_sl ([.ref h0])).length) Slot.unset).toArray = ls at hl ⊢
  have hl : lv_has ls 1 [(0, .ref h0)] := hl
  refine lv_aload_n hx hb dX3_lose_0 rfl (lv_at hl 0 rfl) ?_
  refine lv_iconst (v := 0) hx hb dX3_lose_1 (by decide) ?_
  obtain ⟨kq2, qq2, xq2, yq2, hk2, g_q2⟩ := hT.k4 g_h0
  refine t_put (ci := 3) (v := .int 0) (ty := .int) (C := RX3) (T := TX3) (N := 3) hx hb hts hinX3 tyX3 tyX3_ok nmX3 hown hK hP hD hS hT kq2 hk2 rfl 2 (by decide) (hts (.fieldLink RX3 21 "CodedWords$Past" "known" "I") (by decide +kernel)) (fun _ h9 => h9) rfl (by decide +kernel) rfl rfl (Nat.le_of_ble_eq_true rfl) (by rw [g_h0]; exact ⟨_, _, _, rfl, g_q2⟩) dX3_lose_2 (fun w H locs hT hP hD hS hnw hkp => ?_)
  exact W.vret hx hb hr (fun t ht hW => ⟨⟨(G0, w), rfl, ⟨trivial, hG, hT⟩, by rw [ht]; exact hP, hD⟩, hS.F ht⟩) hS.2.2 dX3_lose_5
abbrev rmX0_fetch : Room := { frames := 3, cells := 0, slots := 0, locals := 65 }
set_option maxHeartbeats 4000000 in
set_option maxRecDepth 100000 in
theorem k_X0_fetch (l : Launch) {K : Cx} {G0 : Nat → Nat} {w0 : va_W} (hT : TH K G0 w0) (sz : Nat) {h0 : Nat} (g_h0 : G0 h0 = 1) (pq1 : Int32) {h2 : Nat} (g_h2 : G0 h2 = 3)  : Ci l K yX0_fetch wsX0_fetch rmX0_fetch 0 0 [.ref h0, .int pq1, .ref h2] G0 w0 sz (fun _ _ _ => True) := by
  refine Met.ofW (cc := cX0_fetch) (maxL := 4) (ret := (some .boolean)) (by decide) rfl ?_
  intro p e s m args below meth c s₁ B hml hv
  obtain ⟨rfl, hsz, hP, hK, hD0, hN⟩ := hv
  have hx := B.exec
  have hb := B.bytes
  have hr := B.returns
  have hts := atoms_spec (ws := wsX0_fetch) B.pre
  have hown : s.vm.findClass RX0 = some m.cls := findClass_of_methodNamed B.named
  have hlocks := B.notSynchronized
  have hinX0 : ∀ w ∈ wsX00, w ∈ wsX0_fetch := by decide +kernel
  subst hsz
  have hD := hD0.self (sz := s.heap.size)
  generalize hAe : va_A w0 s.heap.size = A at hD ⊢
  have hA : ∀ q : Nat, s.heap.size ≤ q → A q := fun q h => by rw [← hAe]; exact Or.inr h
  have hS : va_S A s.heap s.heap [] := va_S.rf
  have hG : gLe G0 G0 := gLe.rf
  have hl := lv_entry ([.ref h0, .int pq1, .ref h2]) (n := 4) (Nat.le_of_ble_eq_true rfl)
  rw [lg_entry_eq]
  generalize (lg_sl ([.ref h0, .int pq1, .ref h2]) ++ List.replicate (4 - (lg_sl ([.ref h0, .int pq1, .ref h2])).length) Slot.unset).toArray = ls at hl ⊢
  have hl : lv_has ls 4 [(0, .ref h0), (1, .int pq1), (2, .ref h2)] := hl
  refine lv_iload_n hx hb dX0_fetch_0 rfl (lv_at hl 1 rfl) ?_
  refine r_i (va_runSN (As := [.int pq1]) (rest := []) ⟨hx, hb, hml, hown, hts⟩ (k_X5_isImage l pq1) ⟨va_cnB 1 hts gX0_fetch_X5_isImage_n17 rfl rfl rfl (hN.m (o := RX5) (by decide +kernel)) (hts (.initialized RX5) (by decide +kernel)) (by decide +kernel) ⟨Nat.le_of_ble_eq_true rfl, Nat.le_of_ble_eq_true rfl⟩, hts (.static yX5_isImage) (by decide +kernel), trivial⟩ (pPreS) rfl rfl hl.1 rfl (lv_room (Nat.le_of_ble_eq_true rfl)) dX0_fetch_1 ⟨Nat.le_of_ble_eq_true rfl, Nat.le_of_ble_eq_true rfl⟩) hP hS (fun rq1 H locs hp1 hP hS => ?_)
  refine lv_if_ne (tgt := 9) hx hb dX0_fetch_4 (by decide) (fun cq4 => ?_) (fun cq4 => ?_)
  · skip
    refine lv_aload_n hx hb dX0_fetch_9 rfl (lv_at hl 0 rfl) ?_
    obtain ⟨kq10, qq10, hk10, g_q10⟩ := hT.k1 g_h0
    refine va_get (D := K.1) (ci := 0) (v := .ref qq10) (C := RX0) (T := TX0) (N := 1) hx hb hts hinX0 hown hK hP kq10 hk10 rfl 0 (by decide) (hts (.fieldLink RX0 11 "CodedWords$Album" "kept" "[LCodedWords$Code;") (by decide +kernel)) (fun _ h9 => h9) rfl dX0_fetch_10 ?_
    refine lv_iload_n hx hb dX0_fetch_13 rfl (lv_at hl 1 rfl) ?_
    refine t_aald hx hb hK hP hT g_q10 rfl (iq_in (hp1.resolve_left cq4).2.1 (hp1.resolve_left cq4).2.2) dX0_fetch_14 ?_ (fun qq14 g_q14 => ?_)
    · skip
      refine lv_astore_nN (lv' := [(3, .null), (0, .ref h0), (1, .int pq1), (2, .ref h2)]) hx hb dX0_fetch_15 rfl hl (by decide) rfl (fun ls hl => ?_)
      refine lv_aload_nN hx hb dX0_fetch_16 rfl (lv_at hl 0 rfl) ?_
      refine lv_ifnonnullN hx hb dX0_fetch_17 ?_
      refine lv_iconst (v := 0) hx hb dX0_fetch_20 (by decide) ?_
      exact W.zret (v := 0) (ty := .boolean) hx hb hr (rfl) (fun t ht hW => ⟨⟨0, (G0, w0), rfl, ⟨trivial, hG, hT⟩, by rw [ht]; exact hP, hD⟩, hS.F ht⟩) hS.2.2 dX0_fetch_21
    · skip
      refine lv_astore_n (lv' := [(3, .ref qq14), (0, .ref h0), (1, .int pq1), (2, .ref h2)]) hx hb dX0_fetch_15 rfl hl (by decide) rfl (fun ls hl => ?_)
      refine lv_aload_n hx hb dX0_fetch_16 rfl (lv_at hl 0 rfl) ?_
      refine lv_ifnonnull (tgt := 22) hx hb dX0_fetch_17 (by decide) ?_
      refine lv_aload_n hx hb dX0_fetch_22 rfl (lv_at hl 3 rfl) ?_
      refine lv_aload_n hx hb dX0_fetch_23 rfl (lv_at hl 0 rfl) ?_
      refine c_v (K := K) (K2 := K) (G := G0) (w := w0) (post := fun _ _ => True) (va_runV (mc := 0) (ms := 0) (rm := rmX2_copyFrom) (As := [.ref qq14]) (rest := []) ⟨hx, hb, hml, hown, hts⟩ (k_X2_copyFrom l hT H.size g_h2 g_q14) (cwV 1 hts gX0_fetch_X2_copyFrom rfl rfl rfl (by decide +kernel) ⟨Nat.le_of_ble_eq_true rfl, Nat.le_of_ble_eq_true rfl⟩) (kPreV (hT.rcv3 g_h2 hK hP) hP hK hD hN) rfl rfl hl.1 rfl (lv_room (Nat.le_of_ble_eq_true rfl)) dX0_fetch_24 ⟨Nat.le_of_ble_eq_true rfl, Nat.le_of_ble_eq_true rfl⟩) hD hS hA (fun G w H locs hp24 hg hT hP hD hS => ?_)
      have hG := hG.tr hg
      have g_q14 := hg.at g_q14 (by decide)
      have g_h0 := hg.at g_h0 (by decide)
      have g_h2 := hg.at g_h2 (by decide)
      refine lv_iconst (v := 1) hx hb dX0_fetch_27 (by decide) ?_
      exact W.zret (v := 1) (ty := .boolean) hx hb hr (rfl) (fun t ht hW => ⟨⟨1, (G, w), rfl, ⟨trivial, hG, hT⟩, by rw [ht]; exact hP, hD⟩, hS.F ht⟩) hS.2.2 dX0_fetch_28
  · skip
    refine lv_iconst (v := 0) hx hb dX0_fetch_7 (by decide) ?_
    exact W.zret (v := 0) (ty := .boolean) hx hb hr (rfl) (fun t ht hW => ⟨⟨0, (G0, w0), rfl, ⟨trivial, hG, hT⟩, by rw [ht]; exact hP, hD⟩, hS.F ht⟩) hS.2.2 dX0_fetch_8
abbrev rmX4_isOpen : Room := { frames := 2, cells := 0, slots := 0, locals := 43 }
set_option maxHeartbeats 4000000 in
set_option maxRecDepth 100000 in
theorem k_X4_isOpen (l : Launch) {K : Cx} {G0 : Nat → Nat} {w0 : va_W} (hT : TH K G0 w0) {h0 : Nat} (g_h0 : G0 h0 = 5) (pq1 : Int32) (ha : 1 ≤ pq1.toInt) : Ri l K yX4_isOpen wsX4_isOpen rmX4_isOpen [.ref h0, .int pq1] w0 (fun r : Int32 => (r = 1 ∧ opn (snK K) pq1.toInt.toNat = true) ∨ (r = 0 ∧ opn (snK K) pq1.toInt.toNat = false)) := by
  refine Met.ofW (cc := cX4_isOpen) (maxL := 4) (ret := (some .boolean)) (by decide) rfl ?_
  intro p e s m args below meth c s₁ B hml hv
  obtain ⟨rfl, hP, hK, hD, hN⟩ := hv
  have hx := B.exec
  have hb := B.bytes
  have hr := B.returns
  have hts := atoms_spec (ws := wsX4_isOpen) B.pre
  have hown : s.vm.findClass RX4 = some m.cls := findClass_of_methodNamed B.named
  have hlocks := B.notSynchronized
  have hinX4 : ∀ w ∈ wsX40, w ∈ wsX4_isOpen := by decide +kernel
  have hS : va_S (fun _ => False) s.heap s.heap [] := va_S.rf
  have hl := lv_entry ([.ref h0, .int pq1]) (n := 4) (Nat.le_of_ble_eq_true rfl)
  rw [lg_entry_eq]
  generalize (lg_sl ([.ref h0, .int pq1]) ++ List.replicate (4 - (lg_sl ([.ref h0, .int pq1])).length) Slot.unset).toArray = ls at hl ⊢
  have hl : lv_has ls 4 [(0, .ref h0), (1, .int pq1)] := hl
  have hok : okN (snK K) := by obtain ⟨kq9, qq9, rq9, tq9, xq9, hk9, -⟩ := hT.k5 g_h0; exact (hT.seen hD g_h0 hk9).2
  have hJ2 : ∀ (n2 : Nat) (H : Heap) (locs : List Loc) (zq2 : Int32), (va_P K.1 vwCl w0 H) → (va_S (fun _ => False) s.heap H locs) → (opI (snK K) pq1 zq2) → ((2147483647 - zq2.toInt).toNat < n2) → ∀ (ls : Array Slot), lv_has ls 4 [(0, .ref h0), (1, .int pq1), (2, .int zq2)] → W p l e rmX4_isOpen s m [.ref h0, .int pq1].toArray below meth c H locs 0 0 (MQ below (va_Qi (fun (r : Int32) (_ : Unit) => (fun r : Int32 => (r = 1 ∧ opn (snK K) pq1.toInt.toNat = true) ∨ (r = 0 ∧ opn (snK K) pq1.toInt.toNat = false)) r) (fun _ _ => True) (fun _ => False)) [.ref h0, .int pq1].toArray s 0 0 (fun _ => False)) (F0 m 2 ls []) := by
    intro n2
    induction n2 with
    | zero =>
      intro H locs zq2 hP hS i2_0 hm2 ls hl
      exact absurd hm2 (Nat.not_lt_zero _)
    | succ n2 ih2 =>
      intro H locs zq2 hP hS i2_0 hm2 ls hl
      refine lv_iload_n hx hb dX4_isOpen_2 rfl (lv_at hl 2 rfl) ?_
      refine lv_aload_n hx hb dX4_isOpen_3 rfl (lv_at hl 0 rfl) ?_
      obtain ⟨kq4, qq4, rq4, tq4, xq4, hk4, g_q4, g_r4, g_t4⟩ := hT.k5 g_h0
      refine va_get (D := K.1) (ci := 4) (v := .int xq4) (C := RX4) (T := TX4) (N := 4) hx hb hts hinX4 hown hK hP kq4 hk4 rfl 3 (by decide) (hts (.fieldLink RX4 21 "CodedWords$Search" "seen" "I") (by decide +kernel)) (fun _ h9 => h9) rfl dX4_isOpen_4 ?_
      obtain ⟨hsx, -⟩ := hT.seen hD g_h0 hk4
      refine lv_icmp_ge (tgt := 53) hx hb dX4_isOpen_7 (by decide) (fun cq7 => ?_) (fun cq7 => ?_)
      · skip
        refine lv_iconst (v := 1) hx hb dX4_isOpen_53 (by decide) ?_
        exact W.zret (v := 1) (ty := .boolean) hx hb hr (rfl) (fun t ht hW => ⟨⟨1, (), rfl, Or.inl ⟨rfl, opI_yes i2_0 (by first | (rw [iq_le, hsx] at cq7; exact cq7) | (rw [iq_le] at cq13; have h9 : (6 : Int) ≤ zq2.toInt := cq13; have h8 := hok.1.2; omega))⟩, trivial⟩, hS.F ht⟩) hS.2.2 dX4_isOpen_54
      · skip
        refine lv_iload_n hx hb dX4_isOpen_10 rfl (lv_at hl 2 rfl) ?_
        refine lv_bipush (v := 6) hx hb dX4_isOpen_11 (by decide) ?_
        refine lv_icmp_ge (tgt := 53) hx hb dX4_isOpen_13 (by decide) (fun cq13 => ?_) (fun cq13 => ?_)
        · skip
          refine lv_iconst (v := 1) hx hb dX4_isOpen_53 (by decide) ?_
          exact W.zret (v := 1) (ty := .boolean) hx hb hr (rfl) (fun t ht hW => ⟨⟨1, (), rfl, Or.inl ⟨rfl, opI_yes i2_0 (by first | (rw [iq_le, hsx] at cq7; exact cq7) | (rw [iq_le] at cq13; have h9 : (6 : Int) ≤ zq2.toInt := cq13; have h8 := hok.1.2; omega))⟩, trivial⟩, hS.F ht⟩) hS.2.2 dX4_isOpen_54
        · skip
          refine lv_aload_n hx hb dX4_isOpen_16 rfl (lv_at hl 0 rfl) ?_
          refine va_get (D := K.1) (ci := 4) (v := .ref qq4) (C := RX4) (T := TX4) (N := 4) hx hb hts hinX4 hown hK hP kq4 hk4 rfl 0 (by decide) (hts (.fieldLink RX4 9 "CodedWords$Search" "words" "[I") (by decide +kernel)) (fun _ h9 => h9) rfl dX4_isOpen_17 ?_
          refine lv_iload_n hx hb dX4_isOpen_20 rfl (lv_at hl 2 rfl) ?_
          refine t_iald8 (K := K) hx hb hK hP hT g_q4 (iq_inr i2_0.1.1 cq13 (by decide)) dX4_isOpen_21 ?_
          refine lv_topi (fun vq21 eq21 => ?_)
          refine lv_iload_n hx hb dX4_isOpen_22 rfl (lv_at hl 1 rfl) ?_
          refine r_i (va_runSN (As := [.int vq21, .int pq1]) (rest := []) ⟨hx, hb, hml, hown, hts⟩ (k_X5_rest l vq21 pq1) ⟨va_cnB 2 hts gX4_isOpen_X5_rest_n43 rfl rfl rfl (hN.m (o := RX5) (by decide +kernel)) (hts (.initialized RX5) (by decide +kernel)) (by decide +kernel) ⟨Nat.le_of_ble_eq_true rfl, Nat.le_of_ble_eq_true rfl⟩, hts (.static yX5_rest) (by decide +kernel), trivial⟩ (pPreS) rfl rfl hl.1 rfl (lv_room (Nat.le_of_ble_eq_true rfl)) dX4_isOpen_23 ⟨Nat.le_of_ble_eq_true rfl, Nat.le_of_ble_eq_true rfl⟩) hP hS (fun rq23 H locs hp23 hP hS => ?_)
          refine lv_if_ne (tgt := 33) hx hb dX4_isOpen_26 (by decide) (fun cq26 => ?_) (fun cq26 => ?_)
          · skip
            refine lv_iconst (v := 0) hx hb dX4_isOpen_33 (by decide) ?_
            refine lv_istore_n (lv' := [(3, .int 0), (0, .ref h0), (1, .int pq1), (2, .int zq2)]) hx hb dX4_isOpen_34 rfl hl (by decide) rfl (fun ls hl => ?_)
            refine lv_iload_n hx hb dX4_isOpen_35 rfl (lv_at hl 0 rfl) ?_
            refine lv_aload_n hx hb dX4_isOpen_36 rfl (lv_at hl 1 rfl) ?_
            refine va_get (D := K.1) (ci := 4) (v := .ref rq4) (C := RX4) (T := TX4) (N := 4) hx hb hts hinX4 hown hK hP kq4 hk4 rfl 1 (by decide) (hts (.fieldLink RX4 15 "CodedWords$Search" "fits" "[I") (by decide +kernel)) (fun _ h9 => h9) rfl dX4_isOpen_37 ?_
            refine lv_iload_n hx hb dX4_isOpen_40 rfl (lv_at hl 3 rfl) ?_
            refine t_iald13 (K := K) hx hb hK hP hT g_r4 (iq_inr i2_0.1.1 cq13 (by decide)) dX4_isOpen_41 ?_
            refine lv_topi (fun vq41 eq41 => ?_)
            refine lv_icmp_eq (tgt := 47) hx hb dX4_isOpen_42 (by decide) (fun cq42 => ?_) (fun cq42 => ?_)
            · skip
              obtain ⟨vq47, eq47⟩ : ∃ y : Int32, y = zq2 + 1 := ⟨_, rfl⟩
              refine lv_iinc (v := vq47) (lv' := [(2, .int vq47), (3, .int 0), (0, .ref h0), (1, .int pq1)]) hx hb dX4_isOpen_47 hl (k := 3) rfl (by rw [eq47]; rfl) (by decide) rfl (fun ls hl => ?_)
              refine lv_goto (tgt := 2) hx hb dX4_isOpen_50 (by decide) ?_
              exact ih2 _ _ vq47 hP hS (by first | exact opI_next i2_0 hok ha (by rw [iq_le, hsx] at cq7; omega) eq21 (hp23 ha) (by first | exact Or.inl ⟨cq26, rfl⟩ | exact Or.inr ⟨cq26, rfl⟩) eq41 cq42 eq47 | exact opI_0 hok) (iq_up hm2 cq13 eq47) _ (lv_sub hl [2, 3, 0] rfl)
            · skip
              refine lv_iconst (v := 0) hx hb dX4_isOpen_45 (by decide) ?_
              exact W.zret (v := 0) (ty := .boolean) hx hb hr (rfl) (fun t ht hW => ⟨⟨0, (), rfl, Or.inr ⟨rfl, opI_no i2_0 hok ha (by rw [iq_le, hsx] at cq7; omega) eq21 (hp23 ha) (by first | exact Or.inl ⟨cq26, rfl⟩ | exact Or.inr ⟨cq26, rfl⟩) eq41 cq42⟩, trivial⟩, hS.F ht⟩) hS.2.2 dX4_isOpen_46
          · skip
            refine lv_iconst (v := 1) hx hb dX4_isOpen_29 (by decide) ?_
            refine lv_goto (tgt := 34) hx hb dX4_isOpen_30 (by decide) ?_
            refine lv_istore_n (lv' := [(3, .int 1), (0, .ref h0), (1, .int pq1), (2, .int zq2)]) hx hb dX4_isOpen_34 rfl hl (by decide) rfl (fun ls hl => ?_)
            refine lv_iload_n hx hb dX4_isOpen_35 rfl (lv_at hl 0 rfl) ?_
            refine lv_aload_n hx hb dX4_isOpen_36 rfl (lv_at hl 1 rfl) ?_
            refine va_get (D := K.1) (ci := 4) (v := .ref rq4) (C := RX4) (T := TX4) (N := 4) hx hb hts hinX4 hown hK hP kq4 hk4 rfl 1 (by decide) (hts (.fieldLink RX4 15 "CodedWords$Search" "fits" "[I") (by decide +kernel)) (fun _ h9 => h9) rfl dX4_isOpen_37 ?_
            refine lv_iload_n hx hb dX4_isOpen_40 rfl (lv_at hl 3 rfl) ?_
            refine t_iald13 (K := K) hx hb hK hP hT g_r4 (iq_inr i2_0.1.1 cq13 (by decide)) dX4_isOpen_41 ?_
            refine lv_topi (fun vq41 eq41 => ?_)
            refine lv_icmp_eq (tgt := 47) hx hb dX4_isOpen_42 (by decide) (fun cq42 => ?_) (fun cq42 => ?_)
            · skip
              obtain ⟨vq47, eq47⟩ : ∃ y : Int32, y = zq2 + 1 := ⟨_, rfl⟩
              refine lv_iinc (v := vq47) (lv' := [(2, .int vq47), (3, .int 1), (0, .ref h0), (1, .int pq1)]) hx hb dX4_isOpen_47 hl (k := 3) rfl (by rw [eq47]; rfl) (by decide) rfl (fun ls hl => ?_)
              refine lv_goto (tgt := 2) hx hb dX4_isOpen_50 (by decide) ?_
              exact ih2 _ _ vq47 hP hS (by first | exact opI_next i2_0 hok ha (by rw [iq_le, hsx] at cq7; omega) eq21 (hp23 ha) (by first | exact Or.inl ⟨cq26, rfl⟩ | exact Or.inr ⟨cq26, rfl⟩) eq41 cq42 eq47 | exact opI_0 hok) (iq_up hm2 cq13 eq47) _ (lv_sub hl [2, 3, 0] rfl)
            · skip
              refine lv_iconst (v := 0) hx hb dX4_isOpen_45 (by decide) ?_
              exact W.zret (v := 0) (ty := .boolean) hx hb hr (rfl) (fun t ht hW => ⟨⟨0, (), rfl, Or.inr ⟨rfl, opI_no i2_0 hok ha (by rw [iq_le, hsx] at cq7; omega) eq21 (hp23 ha) (by first | exact Or.inl ⟨cq26, rfl⟩ | exact Or.inr ⟨cq26, rfl⟩) eq41 cq42⟩, trivial⟩, hS.F ht⟩) hS.2.2 dX4_isOpen_46
  refine lv_iconst (v := 0) hx hb dX4_isOpen_0 (by decide) ?_
  refine lv_istore_n (lv' := [(2, .int 0), (0, .ref h0), (1, .int pq1)]) hx hb dX4_isOpen_1 rfl hl (by decide) rfl (fun ls hl => ?_)
  exact hJ2 ((2147483647 - (0 : Int32).toInt).toNat + 1) _ _ 0 hP hS (by first | exact opI_next i2_0 hok ha (by rw [iq_le, hsx] at cq7; omega) eq21 (hp23 ha) (by first | exact Or.inl ⟨cq26, rfl⟩ | exact Or.inr ⟨cq26, rfl⟩) eq41 cq42 eq47 | exact opI_0 hok) (Nat.lt_succ_self _) _ (lv_sub hl [1, 2, 0] rfl)
abbrev rmX4_openFitting : Room := { frames := 2, cells := 0, slots := 0, locals := 43 }
set_option maxHeartbeats 4000000 in
set_option maxRecDepth 100000 in
theorem k_X4_openFitting (l : Launch) {K : Cx} {G0 : Nat → Nat} {w0 : va_W} (hT : TH K G0 w0) {h0 : Nat} (g_h0 : G0 h0 = 5) (pq1 : Int32) (pq2 : Int32) (hgo : goA K w0 h0 pq2) : Ri l K yX4_openFitting wsX4_openFitting rmX4_openFitting [.ref h0, .int pq1, .int pq2] w0 (fun r : Int32 => r.toInt = (cntW (snK K) pq1.toInt 99 : Int)) := by
  refine Met.ofW (cc := cX4_openFitting) (maxL := 5) (ret := (some .int)) (by decide) rfl ?_
  intro p e s m args below meth c s₁ B hml hv
  obtain ⟨rfl, hP, hK, hD, hN⟩ := hv
  have hx := B.exec
  have hb := B.bytes
  have hr := B.returns
  have hts := atoms_spec (ws := wsX4_openFitting) B.pre
  have hown : s.vm.findClass RX4 = some m.cls := findClass_of_methodNamed B.named
  have hlocks := B.notSynchronized
  have hinX4 : ∀ w ∈ wsX40, w ∈ wsX4_openFitting := by decide +kernel
  have hS : va_S (fun _ => False) s.heap s.heap [] := va_S.rf
  have hl := lv_entry ([.ref h0, .int pq1, .int pq2]) (n := 5) (Nat.le_of_ble_eq_true rfl)
  rw [lg_entry_eq]
  generalize (lg_sl ([.ref h0, .int pq1, .int pq2]) ++ List.replicate (5 - (lg_sl ([.ref h0, .int pq1, .int pq2])).length) Slot.unset).toArray = ls at hl ⊢
  have hl : lv_has ls 5 [(0, .ref h0), (1, .int pq1), (2, .int pq2)] := hl
  have hJ5 : ∀ (n5 : Nat) (H : Heap) (locs : List Loc) (zq3 : Int32) (zq4 : Int32), (va_P K.1 vwCl w0 H) → (va_S (fun _ => False) s.heap H locs) → (0 ≤ zq4.toInt) → (ofI (snK K) pq1.toInt zq3 zq4) → ((2147483647 - zq4.toInt).toNat < n5) → ∀ (ls : Array Slot), lv_has ls 5 [(0, .ref h0), (1, .int pq1), (2, .int pq2), (3, .int zq3), (4, .int zq4)] → W p l e rmX4_openFitting s m [.ref h0, .int pq1, .int pq2].toArray below meth c H locs 0 0 (MQ below (va_Qi (fun (r : Int32) (_ : Unit) => (fun r : Int32 => r.toInt = (cntW (snK K) pq1.toInt 99 : Int)) r) (fun _ _ => True) (fun _ => False)) [.ref h0, .int pq1, .int pq2].toArray s 0 0 (fun _ => False)) (F0 m 5 ls []) := by
    intro n5
    induction n5 with
    | zero =>
      intro H locs zq3 zq4 hP hS i5_0 i5_1 hm5 ls hl
      exact absurd hm5 (Nat.not_lt_zero _)
    | succ n5 ih5 =>
      intro H locs zq3 zq4 hP hS i5_0 i5_1 hm5 ls hl
      refine lv_iload hx hb dX4_openFitting_5 (lv_at hl 4 rfl) ?_
      refine lv_iload_n hx hb dX4_openFitting_7 rfl (lv_at hl 2 rfl) ?_
      refine lv_icmp_ge (tgt := 44) hx hb dX4_openFitting_8 (by decide) (fun cq8 => ?_) (fun cq8 => ?_)
      · skip
        refine lv_iload_n hx hb dX4_openFitting_44 rfl (lv_at hl 3 rfl) ?_
        exact W.iret (v := zq3) hx hb hr (fun t ht hW => ⟨⟨zq3, (), rfl, ofI_end i5_1 hgo.1 (by first | exact Or.inl cq8 | exact Or.inr cq18), trivial⟩, hS.F ht⟩) hS.2.2 dX4_openFitting_45
      · skip
        refine lv_iload hx hb dX4_openFitting_11 (lv_at hl 4 rfl) ?_
        refine lv_aload_n hx hb dX4_openFitting_13 rfl (lv_at hl 0 rfl) ?_
        obtain ⟨kq14, qq14, rq14, tq14, xq14, hk14, g_q14, g_r14, g_t14⟩ := hT.k5 g_h0
        refine va_get (D := K.1) (ci := 4) (v := .ref tq14) (C := RX4) (T := TX4) (N := 4) hx hb hts hinX4 hown hK hP kq14 hk14 rfl 2 (by decide) (hts (.fieldLink RX4 18 "CodedWords$Search" "open" "[I") (by decide +kernel)) (fun _ h9 => h9) rfl dX4_openFitting_14 ?_
        refine t_alen (v := 99) hx hb hK hP hT g_t14 rfl (by decide) dX4_openFitting_17 ?_
        refine lv_icmp_ge (tgt := 44) hx hb dX4_openFitting_18 (by decide) (fun cq18 => ?_) (fun cq18 => ?_)
        · skip
          refine lv_iload_n hx hb dX4_openFitting_44 rfl (lv_at hl 3 rfl) ?_
          exact W.iret (v := zq3) hx hb hr (fun t ht hW => ⟨⟨zq3, (), rfl, ofI_end i5_1 hgo.1 (by first | exact Or.inl cq8 | exact Or.inr cq18), trivial⟩, hS.F ht⟩) hS.2.2 dX4_openFitting_45
        · skip
          refine lv_iload_n hx hb dX4_openFitting_21 rfl (lv_at hl 1 rfl) ?_
          refine lv_aload_n hx hb dX4_openFitting_22 rfl (lv_at hl 0 rfl) ?_
          refine va_get (D := K.1) (ci := 4) (v := .ref tq14) (C := RX4) (T := TX4) (N := 4) hx hb hts hinX4 hown hK hP kq14 hk14 rfl 2 (by decide) (hts (.fieldLink RX4 18 "CodedWords$Search" "open" "[I") (by decide +kernel)) (fun _ h9 => h9) rfl dX4_openFitting_23 ?_
          refine lv_iload hx hb dX4_openFitting_26 (lv_at hl 4 rfl) ?_
          obtain ⟨fO, hO, hrO⟩ := hgo.2
          obtain ⟨jO, hcO⟩ := hO.cell hD hk14
          refine t_ialdK (K := K) hx hb hK hP hcO (iq_inr i5_0 cq18 (by decide)) dX4_openFitting_28 ?_
          refine lv_topi (fun vq28 eq28 => ?_)
          refine r_i (va_runSN (As := [.int pq1, .int vq28]) (rest := []) ⟨hx, hb, hml, hown, hts⟩ (k_X5_rest l pq1 vq28) ⟨va_cnB 2 hts gX4_openFitting_X5_rest_n43 rfl rfl rfl (hN.m (o := RX5) (by decide +kernel)) (hts (.initialized RX5) (by decide +kernel)) (by decide +kernel) ⟨Nat.le_of_ble_eq_true rfl, Nat.le_of_ble_eq_true rfl⟩, hts (.static yX5_rest) (by decide +kernel), trivial⟩ (pPreS) rfl rfl hl.1 rfl (lv_room (Nat.le_of_ble_eq_true rfl)) dX4_openFitting_29 ⟨Nat.le_of_ble_eq_true rfl, Nat.le_of_ble_eq_true rfl⟩) hP hS (fun rq29 H locs hp29 hP hS => ?_)
          refine lv_if_ne (tgt := 38) hx hb dX4_openFitting_32 (by decide) (fun cq32 => ?_) (fun cq32 => ?_)
          · skip
            obtain ⟨vq38, eq38⟩ : ∃ y : Int32, y = zq4 + 1 := ⟨_, rfl⟩
            refine lv_iinc (v := vq38) (lv' := [(4, .int vq38), (0, .ref h0), (1, .int pq1), (2, .int pq2), (3, .int zq3)]) hx hb dX4_openFitting_38 hl (k := 4) rfl (by rw [eq38]; rfl) (by decide) rfl (fun ls hl => ?_)
            refine lv_goto (tgt := 5) hx hb dX4_openFitting_41 (by decide) ?_
            exact ih5 _ _ zq3 vq38 hP hS (by first | exact iq_nn1 i5_0 cq8 eq38 | decide) (by first | exact ofI_next i5_1 hgo.1 hrO cq8 eq28 hp29 (Or.inl ⟨cq32, eq35⟩) eq38 | exact ofI_next i5_1 hgo.1 hrO cq8 eq28 hp29 (Or.inr ⟨cq32, rfl⟩) eq38 | exact ofI_0) (iq_up hm5 cq8 eq38) _ (lv_sub hl [1, 2, 3, 4, 0] rfl)
          · skip
            obtain ⟨vq35, eq35⟩ : ∃ y : Int32, y = zq3 + 1 := ⟨_, rfl⟩
            refine lv_iinc (v := vq35) (lv' := [(3, .int vq35), (0, .ref h0), (1, .int pq1), (2, .int pq2), (4, .int zq4)]) hx hb dX4_openFitting_35 hl (k := 3) rfl (by rw [eq35]; rfl) (by decide) rfl (fun ls hl => ?_)
            obtain ⟨vq38, eq38⟩ : ∃ y : Int32, y = zq4 + 1 := ⟨_, rfl⟩
            refine lv_iinc (v := vq38) (lv' := [(4, .int vq38), (3, .int vq35), (0, .ref h0), (1, .int pq1), (2, .int pq2)]) hx hb dX4_openFitting_38 hl (k := 4) rfl (by rw [eq38]; rfl) (by decide) rfl (fun ls hl => ?_)
            refine lv_goto (tgt := 5) hx hb dX4_openFitting_41 (by decide) ?_
            exact ih5 _ _ vq35 vq38 hP hS (by first | exact iq_nn1 i5_0 cq8 eq38 | decide) (by first | exact ofI_next i5_1 hgo.1 hrO cq8 eq28 hp29 (Or.inl ⟨cq32, eq35⟩) eq38 | exact ofI_next i5_1 hgo.1 hrO cq8 eq28 hp29 (Or.inr ⟨cq32, rfl⟩) eq38 | exact ofI_0) (iq_up hm5 cq8 eq38) _ (lv_sub hl [2, 3, 4, 1, 0] rfl)
  refine lv_iconst (v := 0) hx hb dX4_openFitting_0 (by decide) ?_
  refine lv_istore_n (lv' := [(3, .int 0), (0, .ref h0), (1, .int pq1), (2, .int pq2)]) hx hb dX4_openFitting_1 rfl hl (by decide) rfl (fun ls hl => ?_)
  refine lv_iconst (v := 0) hx hb dX4_openFitting_2 (by decide) ?_
  refine lv_istore (lv' := [(4, .int 0), (3, .int 0), (0, .ref h0), (1, .int pq1), (2, .int pq2)]) hx hb dX4_openFitting_3 hl (by decide) rfl (fun ls hl => ?_)
  exact hJ5 ((2147483647 - (0 : Int32).toInt).toNat + 1) _ _ 0 0 hP hS (by first | exact iq_nn1 i5_0 cq8 eq38 | decide) (by first | exact ofI_next i5_1 hgo.1 hrO cq8 eq28 hp29 (Or.inl ⟨cq32, eq35⟩) eq38 | exact ofI_next i5_1 hgo.1 hrO cq8 eq28 hp29 (Or.inr ⟨cq32, rfl⟩) eq38 | exact ofI_0) (Nat.lt_succ_self _) _ (lv_sub hl [2, 3, 4, 1, 0] rfl)
abbrev rmX4_note : Room := { frames := 0, cells := 0, slots := 0, locals := 0 }
set_option maxHeartbeats 4000000 in
set_option maxRecDepth 100000 in
theorem k_X4_note (l : Launch) {K : Cx} {G0 : Nat → Nat} {w0 : va_W} (hT : TH K G0 w0) (sz : Nat) {h0 : Nat} (g_h0 : G0 h0 = 5) (pq1 : Int32) (pq2 : Int32) (hw1 : 1 ≤ pq1.toInt) (hw2 : pq1.toInt ≤ 9999) (hf : pq2 = 0 ∨ pq2 = 1) : CiK l K (Kw K (noN (snK K) pq1 pq2)) yX4_note wsX4_note rmX4_note 0 0 [.ref h0, .int pq1, .int pq2] G0 w0 sz (fun (r : Int32) _ _ => (r = 1 ∧ (snK K).1.toInt < 6) ∨ (r = 0 ∧ ¬ (snK K).1.toInt < 6)) := by
  refine Met.ofW (cc := cX4_note) (maxL := 3) (ret := (some .boolean)) (by decide) rfl ?_
  intro p e s m args below meth c s₁ B hml hv
  obtain ⟨rfl, hsz, hP, hK, hD0, hN⟩ := hv
  have hx := B.exec
  have hb := B.bytes
  have hr := B.returns
  have hts := atoms_spec (ws := wsX4_note) B.pre
  have hown : s.vm.findClass RX4 = some m.cls := findClass_of_methodNamed B.named
  have hlocks := B.notSynchronized
  have hinX4 : ∀ w ∈ wsX40, w ∈ wsX4_note := by decide +kernel
  subst hsz
  have hD := hD0.self (sz := s.heap.size)
  generalize hAe : va_A w0 s.heap.size = A at hD ⊢
  have hA : ∀ q : Nat, s.heap.size ≤ q → A q := fun q h => by rw [← hAe]; exact Or.inr h
  have hS : va_S A s.heap s.heap [] := va_S.rf
  have hG : gLe G0 G0 := gLe.rf
  have hl := lv_entry ([.ref h0, .int pq1, .int pq2]) (n := 3) (Nat.le_of_ble_eq_true rfl)
  rw [lg_entry_eq]
  generalize (lg_sl ([.ref h0, .int pq1, .int pq2]) ++ List.replicate (3 - (lg_sl ([.ref h0, .int pq1, .int pq2])).length) Slot.unset).toArray = ls at hl ⊢
  have hl : lv_has ls 3 [(0, .ref h0), (1, .int pq1), (2, .int pq2)] := hl
  refine lv_aload_n hx hb dX4_note_0 rfl (lv_at hl 0 rfl) ?_
  obtain ⟨kq1, qq1, rq1, tq1, xq1, hk1, g_q1, g_r1, g_t1⟩ := hT.k5 g_h0
  refine va_get (D := K.1) (ci := 4) (v := .int xq1) (C := RX4) (T := TX4) (N := 4) hx hb hts hinX4 hown hK hP kq1 hk1 rfl 3 (by decide) (hts (.fieldLink RX4 21 "CodedWords$Search" "seen" "I") (by decide +kernel)) (fun _ h9 => h9) rfl dX4_note_1 ?_
  obtain ⟨hsx, hsn⟩ := hT.seen hD g_h0 hk1
  refine lv_if_lt (tgt := 16) hx hb dX4_note_4 (by decide) (fun cq4 => ?_) (fun cq4 => ?_)
  · skip
    refine lv_iconst (v := 0) hx hb dX4_note_16 (by decide) ?_
    exact W.zret (v := 0) (ty := .boolean) hx hb hr (rfl) (fun t ht hW => ⟨⟨0, (G0, w0), rfl, ⟨by first | exact Or.inr ⟨rfl, fun q => cq13 (by rw [iq_lt, hsx]; exact q)⟩ | exact absurd hsn.1.1 (by rw [iq_lt, hsx] at cq4; exact Int.not_le.mpr cq4), hG, by first | exact noN_full hT (fun q => cq13 (by rw [iq_lt, hsx]; exact q)) | exact absurd hsn.1.1 (by rw [iq_lt, hsx] at cq4; exact Int.not_le.mpr cq4)⟩, by rw [ht]; exact hP, hD⟩, hS.F ht⟩) hS.2.2 dX4_note_17
  · skip
    refine lv_aload_n hx hb dX4_note_7 rfl (lv_at hl 0 rfl) ?_
    refine va_get (D := K.1) (ci := 4) (v := .int xq1) (C := RX4) (T := TX4) (N := 4) hx hb hts hinX4 hown hK hP kq1 hk1 rfl 3 (by decide) (hts (.fieldLink RX4 21 "CodedWords$Search" "seen" "I") (by decide +kernel)) (fun _ h9 => h9) rfl dX4_note_8 ?_
    refine lv_bipush (v := 6) hx hb dX4_note_11 (by decide) ?_
    refine lv_icmp_lt (tgt := 18) hx hb dX4_note_13 (by decide) (fun cq13 => ?_) (fun cq13 => ?_)
    · skip
      refine lv_aload_n hx hb dX4_note_18 rfl (lv_at hl 0 rfl) ?_
      refine va_get (D := K.1) (ci := 4) (v := .ref qq1) (C := RX4) (T := TX4) (N := 4) hx hb hts hinX4 hown hK hP kq1 hk1 rfl 0 (by decide) (hts (.fieldLink RX4 9 "CodedWords$Search" "words" "[I") (by decide +kernel)) (fun _ h9 => h9) rfl dX4_note_19 ?_
      refine lv_aload_n hx hb dX4_note_22 rfl (lv_at hl 0 rfl) ?_
      refine va_get (D := K.1) (ci := 4) (v := .int xq1) (C := RX4) (T := TX4) (N := 4) hx hb hts hinX4 hown hK hP kq1 hk1 rfl 3 (by decide) (hts (.fieldLink RX4 21 "CodedWords$Search" "seen" "I") (by decide +kernel)) (fun _ h9 => h9) rfl dX4_note_23 ?_
      refine lv_iload_n hx hb dX4_note_26 rfl (lv_at hl 1 rfl) ?_
      refine t_iast8 (K := K) hx hb hK hP hD hS hT g_q1 (iq_in (by rw [iq_lt] at cq4; exact Int.not_lt.mp cq4) (by rw [iq_lt] at cq13; exact cq13)) (fun _ => by rw [hsx]; exact okN.w1 hsn pq1) dX4_note_27 (fun w H locs hT hP hD hS hkp => ?_)
      have hT : TH (Kw K ((snK K).1, upd (snK K).2.1 xq1.toNatClampNeg pq1, (snK K).2.2)) G0 w := hT
      have hk1 := hkp _ _ _ hk1
      refine lv_aload_n hx hb dX4_note_28 rfl (lv_at hl 0 rfl) ?_
      refine va_get (D := K.1) (ci := 4) (v := .ref rq1) (C := RX4) (T := TX4) (N := 4) hx hb hts hinX4 hown hK hP kq1 hk1 rfl 1 (by decide) (hts (.fieldLink RX4 15 "CodedWords$Search" "fits" "[I") (by decide +kernel)) (fun _ h9 => h9) rfl dX4_note_29 ?_
      refine lv_aload_n hx hb dX4_note_32 rfl (lv_at hl 0 rfl) ?_
      refine va_get (D := K.1) (ci := 4) (v := .int xq1) (C := RX4) (T := TX4) (N := 4) hx hb hts hinX4 hown hK hP kq1 hk1 rfl 3 (by decide) (hts (.fieldLink RX4 21 "CodedWords$Search" "seen" "I") (by decide +kernel)) (fun _ h9 => h9) rfl dX4_note_33 ?_
      refine lv_iload_n hx hb dX4_note_36 rfl (lv_at hl 2 rfl) ?_
      refine t_iast13 (K := Kw K ((snK K).1, upd (snK K).2.1 xq1.toNatClampNeg pq1, (snK K).2.2)) hx hb hK hP hD hS hT g_r1 (iq_in (by rw [iq_lt] at cq4; exact Int.not_lt.mp cq4) (by rw [iq_lt] at cq13; exact cq13)) (fun _ => by rw [hsx]; exact okN.w2 (okN.w1 hsn pq1) pq2) dX4_note_37 (fun w H locs hT hP hD hS hkp => ?_)
      have hT : TH (Kw K ((snK K).1, upd (snK K).2.1 xq1.toNatClampNeg pq1, upd (snK K).2.2 xq1.toNatClampNeg pq2)) G0 w := hT
      have hk1 := hkp _ _ _ hk1
      refine lv_aload_n hx hb dX4_note_38 rfl (lv_at hl 0 rfl) ?_
      refine lv_dup hx hb dX4_note_39 rfl ?_
      refine va_get (D := K.1) (ci := 4) (v := .int xq1) (C := RX4) (T := TX4) (N := 4) hx hb hts hinX4 hown hK hP kq1 hk1 rfl 3 (by decide) (hts (.fieldLink RX4 21 "CodedWords$Search" "seen" "I") (by decide +kernel)) (fun _ h9 => h9) rfl dX4_note_40 ?_
      refine lv_iconst (v := 1) hx hb dX4_note_43 (by decide) ?_
      refine lv_iadd hx hb dX4_note_44 ?_
      refine lv_topi (fun vq44 eq44 => ?_)
      obtain ⟨kq45, qq45, rq45, tq45, xq45, hk45, g_q45, g_r45, g_t45⟩ := hT.k5 g_h0
      refine t_put5 (K := Kw K ((snK K).1, upd (snK K).2.1 xq1.toNatClampNeg pq1, upd (snK K).2.2 xq1.toNatClampNeg pq2)) (ci := 4) (v := .int vq44) (ty := .int) (C := RX4) (T := TX4) (N := 4) (n := ((snK K).1 + 1, upd (snK K).2.1 xq1.toNatClampNeg pq1, upd (snK K).2.2 xq1.toNatClampNeg pq2)) hx hb hts hinX4 tyX4 tyX4_ok nmX4 hown hK hP hD hS hT kq45 hk45 rfl 3 (by decide) (hts (.fieldLink RX4 21 "CodedWords$Search" "seen" "I") (by decide +kernel)) (fun _ h9 => h9) rfl (by decide +kernel) rfl rfl (Nat.le_of_ble_eq_true rfl) g_h0 (fun _ => by rw [hsx]; exact okN.w3 hsn (by rw [← hsx]; rw [iq_lt] at cq13; exact cq13) hw1 hw2 hf) rfl rfl (⟨_, _, _, _, rfl, g_q45, g_r45, g_t45, by rw [eq44, hsx], by rw [hsx]; exact okN.w3 hsn (by rw [← hsx]; rw [iq_lt] at cq13; exact cq13) hw1 hw2 hf⟩) dX4_note_45 (fun w H locs hT hP hD hS hnw hkp => ?_)
      have hT : TH (Kw K (((snK K).1 + 1, upd (snK K).2.1 xq1.toNatClampNeg pq1, upd (snK K).2.2 xq1.toNatClampNeg pq2))) G0 w := hT
      refine lv_iconst (v := 1) hx hb dX4_note_48 (by decide) ?_
      exact W.zret (v := 1) (ty := .boolean) hx hb hr (rfl) (fun t ht hW => ⟨⟨1, (G0, w), rfl, ⟨Or.inl ⟨rfl, by rw [iq_lt, hsx] at cq13; exact cq13⟩, hG, noN_more (by rw [hsx] at hT; exact hT) (by rw [iq_lt, hsx] at cq13; exact cq13)⟩, by rw [ht]; exact hP, hD⟩, hS.F ht⟩) hS.2.2 dX4_note_49
    · skip
      refine lv_iconst (v := 0) hx hb dX4_note_16 (by decide) ?_
      exact W.zret (v := 0) (ty := .boolean) hx hb hr (rfl) (fun t ht hW => ⟨⟨0, (G0, w0), rfl, ⟨by first | exact Or.inr ⟨rfl, fun q => cq13 (by rw [iq_lt, hsx]; exact q)⟩ | exact absurd hsn.1.1 (by rw [iq_lt, hsx] at cq4; exact Int.not_le.mpr cq4), hG, by first | exact noN_full hT (fun q => cq13 (by rw [iq_lt, hsx]; exact q)) | exact absurd hsn.1.1 (by rw [iq_lt, hsx] at cq4; exact Int.not_le.mpr cq4)⟩, by rw [ht]; exact hP, hD⟩, hS.F ht⟩) hS.2.2 dX4_note_17
abbrev rmX4_gatherOpen : Room := { frames := 3, cells := 0, slots := 0, locals := 66 }
set_option maxHeartbeats 4000000 in
set_option maxRecDepth 100000 in
theorem k_X4_gatherOpen (l : Launch) {K : Cx} {G0 : Nat → Nat} {w0 : va_W} (hT : TH K G0 w0) (sz : Nat) {h0 : Nat} (g_h0 : G0 h0 = 5)  : Ci l K yX4_gatherOpen wsX4_gatherOpen rmX4_gatherOpen 0 0 [.ref h0] G0 w0 sz (fun (r : Int32) _ w1 => goA K w1 h0 r) := by
  refine Met.ofW (cc := cX4_gatherOpen) (maxL := 3) (ret := (some .int)) (by decide) rfl ?_
  intro p e s m args below meth c s₁ B hml hv
  obtain ⟨rfl, hsz, hP, hK, hD0, hN⟩ := hv
  have hx := B.exec
  have hb := B.bytes
  have hr := B.returns
  have hts := atoms_spec (ws := wsX4_gatherOpen) B.pre
  have hown : s.vm.findClass RX4 = some m.cls := findClass_of_methodNamed B.named
  have hlocks := B.notSynchronized
  have hinX4 : ∀ w ∈ wsX40, w ∈ wsX4_gatherOpen := by decide +kernel
  subst hsz
  have hD := hD0.self (sz := s.heap.size)
  generalize hAe : va_A w0 s.heap.size = A at hD ⊢
  have hA : ∀ q : Nat, s.heap.size ≤ q → A q := fun q h => by rw [← hAe]; exact Or.inr h
  have hS : va_S A s.heap s.heap [] := va_S.rf
  have hG : gLe G0 G0 := gLe.rf
  have hl := lv_entry ([.ref h0]) (n := 3) (Nat.le_of_ble_eq_true rfl)
  rw [lg_entry_eq]
  generalize (lg_sl ([.ref h0]) ++ List.replicate (3 - (lg_sl ([.ref h0])).length) Slot.unset).toArray = ls at hl ⊢
  have hl : lv_has ls 3 [(0, .ref h0)] := hl
  have hJ4 : ∀ (n4 : Nat) (G : Nat → Nat) (w : va_W) (H : Heap) (locs : List Loc) (zq1 : Int32) (zq2 : Int32), (gLe G0 G) → (TH K G w) → (va_P K.1 vwCl w H) → (va_D A w) → (va_S A s.heap H locs) → (G h0 = 5) → (0 ≤ zq1.toInt) → (gaI K w h0 zq1 zq2) → ((2147483647 - zq2.toInt).toNat < n4) → ∀ (ls : Array Slot), lv_has ls 3 [(0, .ref h0), (1, .int zq1), (2, .int zq2)] → W p l e rmX4_gatherOpen s m [.ref h0].toArray below meth c H locs 0 0 (MQ below (va_Qi (fun (r : Int32) (u : (Nat → Nat) × va_W) => (fun (r : Int32) _ w1 => goA K w1 h0 r) r u.1 u.2 ∧ gLe G0 u.1 ∧ TH (K) u.1 u.2) (fun u t => va_P K.1 vwCl u.2 t.heap ∧ va_D A u.2) A) [.ref h0].toArray s 0 0 A) (F0 m 4 ls []) := by
    intro n4
    induction n4 with
    | zero =>
      intro G w H locs zq1 zq2 hG hT hP hD hS g_h0 i4_0 i4_1 hm4 ls hl
      exact absurd hm4 (Nat.not_lt_zero _)
    | succ n4 ih4 =>
      intro G w H locs zq1 zq2 hG hT hP hD hS g_h0 i4_0 i4_1 hm4 ls hl
      refine lv_iload_n hx hb dX4_gatherOpen_4 rfl (lv_at hl 2 rfl) ?_
      refine lv_sipush (v := 199) hx hb dX4_gatherOpen_5 (by decide) ?_
      refine lv_icmp_gt (tgt := 44) hx hb dX4_gatherOpen_8 (by decide) (fun cq8 => ?_) (fun cq8 => ?_)
      · skip
        refine lv_iload_n hx hb dX4_gatherOpen_44 rfl (lv_at hl 1 rfl) ?_
        exact W.iret (v := zq1) hx hb hr (fun t ht hW => ⟨⟨zq1, (G, w), rfl, ⟨gaI_end i4_1 cq8, hG, hT⟩, by rw [ht]; exact hP, hD⟩, hS.F ht⟩) hS.2.2 dX4_gatherOpen_45
      · skip
        refine lv_aload_n hx hb dX4_gatherOpen_11 rfl (lv_at hl 0 rfl) ?_
        refine lv_iload_n hx hb dX4_gatherOpen_12 rfl (lv_at hl 2 rfl) ?_
        refine r_i (va_runV (As := [.int zq2]) (rest := []) ⟨hx, hb, hml, hown, hts⟩ (k_X4_isOpen l hT g_h0 zq2 (by have h9 := i4_0; obtain ⟨iq9, _, hz9, _⟩ := i4_1; omega)) (cwV 1 hts gX4_gatherOpen_X4_isOpen rfl rfl rfl (by decide +kernel) ⟨Nat.le_of_ble_eq_true rfl, Nat.le_of_ble_eq_true rfl⟩) (rPreV (hT.rcv5 g_h0 hK hP) hP hK hD hN) rfl rfl hl.1 rfl (lv_room (Nat.le_of_ble_eq_true rfl)) dX4_gatherOpen_13 ⟨Nat.le_of_ble_eq_true rfl, Nat.le_of_ble_eq_true rfl⟩) hP hS (fun rq13 H locs hp13 hP hS => ?_)
        refine lv_if_eq (tgt := 38) hx hb dX4_gatherOpen_16 (by decide) (fun cq16 => ?_) (fun cq16 => ?_)
        · skip
          obtain ⟨vq38, eq38⟩ : ∃ y : Int32, y = zq2 + 2 := ⟨_, rfl⟩
          refine lv_iinc (v := vq38) (lv' := [(2, .int vq38), (0, .ref h0), (1, .int zq1)]) hx hb dX4_gatherOpen_38 hl (k := 2) rfl (by rw [eq38]; rfl) (by decide) rfl (fun ls hl => ?_)
          refine lv_goto (tgt := 4) hx hb dX4_gatherOpen_41 (by decide) ?_
          exact ih4 _ _ _ _ zq1 vq38 hG hT hP hD hS g_h0 (by first | exact i4_0 | exact iq_nn1 i4_0 cq25 eq35 | decide) (by first | exact gaI_skip i4_1 cq8 hp13 cq16 eq38 | exact (gaI_full i4_1 cq8 cq25).elim | exact gaI_push hz2 hz1 hrO cq8 hp13 cq16 hk21 hnw eq35 eq38 | exact gaI_0 hT g_h0) (iq_upl2 hm4 cq8 (by decide) eq38) _ (lv_sub hl [1, 2, 0] rfl)
        · skip
          refine lv_iload_n hx hb dX4_gatherOpen_19 rfl (lv_at hl 1 rfl) ?_
          refine lv_aload_n hx hb dX4_gatherOpen_20 rfl (lv_at hl 0 rfl) ?_
          obtain ⟨kq21, qq21, rq21, tq21, xq21, hk21, g_q21, g_r21, g_t21⟩ := hT.k5 g_h0
          refine va_get (D := K.1) (ci := 4) (v := .ref tq21) (C := RX4) (T := TX4) (N := 4) hx hb hts hinX4 hown hK hP kq21 hk21 rfl 2 (by decide) (hts (.fieldLink RX4 18 "CodedWords$Search" "open" "[I") (by decide +kernel)) (fun _ h9 => h9) rfl dX4_gatherOpen_21 ?_
          refine t_alen (v := 99) hx hb hK hP hT g_t21 rfl (by decide) dX4_gatherOpen_24 ?_
          refine lv_icmp_ge (tgt := 38) hx hb dX4_gatherOpen_25 (by decide) (fun cq25 => ?_) (fun cq25 => ?_)
          · skip
            obtain ⟨vq38, eq38⟩ : ∃ y : Int32, y = zq2 + 2 := ⟨_, rfl⟩
            refine lv_iinc (v := vq38) (lv' := [(2, .int vq38), (0, .ref h0), (1, .int zq1)]) hx hb dX4_gatherOpen_38 hl (k := 2) rfl (by rw [eq38]; rfl) (by decide) rfl (fun ls hl => ?_)
            refine lv_goto (tgt := 4) hx hb dX4_gatherOpen_41 (by decide) ?_
            exact ih4 _ _ _ _ zq1 vq38 hG hT hP hD hS g_h0 (by first | exact i4_0 | exact iq_nn1 i4_0 cq25 eq35 | decide) (by first | exact gaI_skip i4_1 cq8 hp13 cq16 eq38 | exact (gaI_full i4_1 cq8 cq25).elim | exact gaI_push hz2 hz1 hrO cq8 hp13 cq16 hk21 hnw eq35 eq38 | exact gaI_0 hT g_h0) (iq_upl2 hm4 cq8 (by decide) eq38) _ (lv_sub hl [1, 2, 0] rfl)
          · skip
            refine lv_aload_n hx hb dX4_gatherOpen_28 rfl (lv_at hl 0 rfl) ?_
            refine va_get (D := K.1) (ci := 4) (v := .ref tq21) (C := RX4) (T := TX4) (N := 4) hx hb hts hinX4 hown hK hP kq21 hk21 rfl 2 (by decide) (hts (.fieldLink RX4 18 "CodedWords$Search" "open" "[I") (by decide +kernel)) (fun _ h9 => h9) rfl dX4_gatherOpen_29 ?_
            refine lv_iload_n hx hb dX4_gatherOpen_32 rfl (lv_at hl 1 rfl) ?_
            refine lv_iload_n hx hb dX4_gatherOpen_33 rfl (lv_at hl 2 rfl) ?_
            obtain ⟨iO, hi9, hz2, hz1, fO, hO, hrO⟩ := i4_1
            obtain ⟨jO, hcO⟩ := hO.cell hD hk21
            refine t_iastK (K := K) hx hb hK hP hD hS hT g_t21 rfl hcO (iq_inr i4_0 cq25 (by decide)) dX4_gatherOpen_34 (fun w H locs hT hP hD hS hkp hnw => ?_)
            have hk21 := hkp _ _ _ hk21
            obtain ⟨vq35, eq35⟩ : ∃ y : Int32, y = zq1 + 1 := ⟨_, rfl⟩
            refine lv_iinc (v := vq35) (lv' := [(1, .int vq35), (0, .ref h0), (2, .int zq2)]) hx hb dX4_gatherOpen_35 hl (k := 1) rfl (by rw [eq35]; rfl) (by decide) rfl (fun ls hl => ?_)
            obtain ⟨vq38, eq38⟩ : ∃ y : Int32, y = zq2 + 2 := ⟨_, rfl⟩
            refine lv_iinc (v := vq38) (lv' := [(2, .int vq38), (1, .int vq35), (0, .ref h0)]) hx hb dX4_gatherOpen_38 hl (k := 2) rfl (by rw [eq38]; rfl) (by decide) rfl (fun ls hl => ?_)
            refine lv_goto (tgt := 4) hx hb dX4_gatherOpen_41 (by decide) ?_
            exact ih4 _ _ _ _ vq35 vq38 hG hT hP hD hS g_h0 (by first | exact i4_0 | exact iq_nn1 i4_0 cq25 eq35 | decide) (by first | exact gaI_skip i4_1 cq8 hp13 cq16 eq38 | exact (gaI_full i4_1 cq8 cq25).elim | exact gaI_push hz2 hz1 hrO cq8 hp13 cq16 hk21 hnw eq35 eq38 | exact gaI_0 hT g_h0) (iq_upl2 hm4 cq8 (by decide) eq38) _ (lv_sub hl [2, 1, 0] rfl)
  refine lv_iconst (v := 0) hx hb dX4_gatherOpen_0 (by decide) ?_
  refine lv_istore_n (lv' := [(1, .int 0), (0, .ref h0)]) hx hb dX4_gatherOpen_1 rfl hl (by decide) rfl (fun ls hl => ?_)
  refine lv_iconst (v := 3) hx hb dX4_gatherOpen_2 (by decide) ?_
  refine lv_istore_n (lv' := [(2, .int 3), (1, .int 0), (0, .ref h0)]) hx hb dX4_gatherOpen_3 rfl hl (by decide) rfl (fun ls hl => ?_)
  exact hJ4 ((2147483647 - (3 : Int32).toInt).toNat + 1) _ _ _ _ 0 3 hG hT hP hD hS g_h0 (by first | exact i4_0 | exact iq_nn1 i4_0 cq25 eq35 | decide) (by first | exact gaI_skip i4_1 cq8 hp13 cq16 eq38 | exact (gaI_full i4_1 cq8 cq25).elim | exact gaI_push hz2 hz1 hrO cq8 hp13 cq16 hk21 hnw eq35 eq38 | exact gaI_0 hT g_h0) (Nat.lt_succ_self _) _ (lv_sub hl [2, 1, 0] rfl)
abbrev rmX4_leastOpen : Room := { frames := 4, cells := 0, slots := 0, locals := 88 }
set_option maxHeartbeats 4000000 in
set_option maxRecDepth 100000 in
theorem k_X4_leastOpen (l : Launch) {K : Cx} {G0 : Nat → Nat} {w0 : va_W} (hT : TH K G0 w0) (sz : Nat) {h0 : Nat} (g_h0 : G0 h0 = 5)  : Ci l K yX4_leastOpen wsX4_leastOpen rmX4_leastOpen 0 0 [.ref h0] G0 w0 sz (fun (r : Int32) _ _ => loA (snK K) r) := by
  refine Met.ofW (cc := cX4_leastOpen) (maxL := 1) (ret := (some .int)) (by decide) rfl ?_
  intro p e s m args below meth c s₁ B hml hv
  obtain ⟨rfl, hsz, hP, hK, hD0, hN⟩ := hv
  have hx := B.exec
  have hb := B.bytes
  have hr := B.returns
  have hts := atoms_spec (ws := wsX4_leastOpen) B.pre
  have hown : s.vm.findClass RX4 = some m.cls := findClass_of_methodNamed B.named
  have hlocks := B.notSynchronized
  have hinX4 : ∀ w ∈ wsX40, w ∈ wsX4_leastOpen := by decide +kernel
  subst hsz
  have hD := hD0.self (sz := s.heap.size)
  generalize hAe : va_A w0 s.heap.size = A at hD ⊢
  have hA : ∀ q : Nat, s.heap.size ≤ q → A q := fun q h => by rw [← hAe]; exact Or.inr h
  have hS : va_S A s.heap s.heap [] := va_S.rf
  have hG : gLe G0 G0 := gLe.rf
  have hl := lv_entry ([.ref h0]) (n := 1) (Nat.le_of_ble_eq_true rfl)
  rw [lg_entry_eq]
  generalize (lg_sl ([.ref h0]) ++ List.replicate (1 - (lg_sl ([.ref h0])).length) Slot.unset).toArray = ls at hl ⊢
  have hl : lv_has ls 1 [(0, .ref h0)] := hl
  refine lv_aload_n hx hb dX4_leastOpen_0 rfl (lv_at hl 0 rfl) ?_
  refine c_i (K := K) (K2 := K) (G := G0) (w := w0) (post := fun (r : Int32) _ w1 => goA K w1 h0 r) (va_runV (mc := 0) (ms := 0) (rm := rmX4_gatherOpen) (As := []) (rest := []) ⟨hx, hb, hml, hown, hts⟩ (k_X4_gatherOpen l hT s.heap.size g_h0) (cwV 0 hts gX4_leastOpen_X4_gatherOpen rfl rfl rfl (by decide +kernel) ⟨Nat.le_of_ble_eq_true rfl, Nat.le_of_ble_eq_true rfl⟩) (kPreV (hT.rcv5 g_h0 hK hP) hP hK hD hN) rfl rfl hl.1 rfl (lv_room (Nat.le_of_ble_eq_true rfl)) dX4_leastOpen_1 ⟨Nat.le_of_ble_eq_true rfl, Nat.le_of_ble_eq_true rfl⟩) hD hS hA (fun rq1 G w H locs hp1 hg hT hP hD hS => ?_)
  have hG := hG.tr hg
  have g_h0 := hg.at g_h0 (by decide)
  refine lv_if_ne (tgt := 12) hx hb dX4_leastOpen_4 (by decide) (fun cq4 => ?_) (fun cq4 => ?_)
  · skip
    refine lv_aload_n hx hb dX4_leastOpen_12 rfl (lv_at hl 0 rfl) ?_
    obtain ⟨kq13, qq13, rq13, tq13, xq13, hk13, g_q13, g_r13, g_t13⟩ := hT.k5 g_h0
    refine va_get (D := K.1) (ci := 4) (v := .ref tq13) (C := RX4) (T := TX4) (N := 4) hx hb hts hinX4 hown hK hP kq13 hk13 rfl 2 (by decide) (hts (.fieldLink RX4 18 "CodedWords$Search" "open" "[I") (by decide +kernel)) (fun _ h9 => h9) rfl dX4_leastOpen_13 ?_
    refine lv_iconst (v := 0) hx hb dX4_leastOpen_16 (by decide) ?_
    obtain ⟨fO, hO, hrO⟩ := hp1.2
    obtain ⟨jO, hcO⟩ := hO.cell hD hk13
    refine t_ialdK (K := K) hx hb hK hP hcO (iq_in (by decide) (by decide)) dX4_leastOpen_17 ?_
    refine lv_topi (fun vq17 eq17 => ?_)
    exact W.iret (v := vq17) hx hb hr (fun t ht hW => ⟨⟨vq17, (G, w), rfl, ⟨by first | exact loA_some hp1.1 hrO cq4 eq17 | exact loA_none hp1 cq4, hG, hT⟩, by rw [ht]; exact hP, hD⟩, hS.F ht⟩) hS.2.2 dX4_leastOpen_18
  · skip
    refine lv_ldc (v := (-1000000)) hx hb hown (hts (.constant RX4 33 (-1000000)) (by decide +kernel)) dX4_leastOpen_7 ?_
    refine lv_goto (tgt := 18) hx hb dX4_leastOpen_9 (by decide) ?_
    exact W.iret (v := (-1000000)) hx hb hr (fun t ht hW => ⟨⟨(-1000000), (G, w), rfl, ⟨by first | exact loA_some hp1.1 hrO cq4 eq17 | exact loA_none hp1 cq4, hG, hT⟩, by rw [ht]; exact hP, hD⟩, hS.F ht⟩) hS.2.2 dX4_leastOpen_18
abbrev rmX4_bestTry : Room := { frames := 4, cells := 0, slots := 0, locals := 88 }
set_option maxHeartbeats 4000000 in
set_option maxRecDepth 100000 in
theorem k_X4_bestTry (l : Launch) {K : Cx} {G0 : Nat → Nat} {w0 : va_W} (hT : TH K G0 w0) (sz : Nat) {h0 : Nat} (g_h0 : G0 h0 = 5)  : Ci l K yX4_bestTry wsX4_bestTry rmX4_bestTry 0 0 [.ref h0] G0 w0 sz (fun (r : Int32) _ _ => nxA (snK K) r) := by
  refine Met.ofW (cc := cX4_bestTry) (maxL := 7) (ret := (some .int)) (by decide) rfl ?_
  intro p e s m args below meth c s₁ B hml hv
  obtain ⟨rfl, hsz, hP, hK, hD0, hN⟩ := hv
  have hx := B.exec
  have hb := B.bytes
  have hr := B.returns
  have hts := atoms_spec (ws := wsX4_bestTry) B.pre
  have hown : s.vm.findClass RX4 = some m.cls := findClass_of_methodNamed B.named
  have hlocks := B.notSynchronized
  subst hsz
  have hD := hD0.self (sz := s.heap.size)
  generalize hAe : va_A w0 s.heap.size = A at hD ⊢
  have hA : ∀ q : Nat, s.heap.size ≤ q → A q := fun q h => by rw [← hAe]; exact Or.inr h
  have hS : va_S A s.heap s.heap [] := va_S.rf
  have hG : gLe G0 G0 := gLe.rf
  have hl := lv_entry ([.ref h0]) (n := 7) (Nat.le_of_ble_eq_true rfl)
  rw [lg_entry_eq]
  generalize (lg_sl ([.ref h0]) ++ List.replicate (7 - (lg_sl ([.ref h0])).length) Slot.unset).toArray = ls at hl ⊢
  have hl : lv_has ls 7 [(0, .ref h0)] := hl
  have hJ23 : ∀ (n23 : Nat) (G : Nat → Nat) (w : va_W) (H : Heap) (locs : List Loc) (zq1 : Int32) (zq2 : Int32) (zq3 : Int32) (zq4 : Int32), (gLe G0 G) → (TH K G w) → (va_P K.1 vwCl w H) → (va_D A w) → (va_S A s.heap H locs) → (G h0 = 5) → (goA K w h0 zq1) → (1 < zq1) → (btI (snK K) zq2 zq3 zq4 (((opL (snK K) 99).length : Int) + 1)) → ((2147483647 - zq4.toInt).toNat < n23) → ∀ (ls : Array Slot), lv_has ls 7 [(0, .ref h0), (1, .int zq1), (2, .int zq2), (3, .int zq3), (4, .int zq4)] → W p l e rmX4_bestTry s m [.ref h0].toArray below meth c H locs 0 0 (MQ below (va_Qi (fun (r : Int32) (u : (Nat → Nat) × va_W) => (fun (r : Int32) _ _ => nxA (snK K) r) r u.1 u.2 ∧ gLe G0 u.1 ∧ TH (K) u.1 u.2) (fun u t => va_P K.1 vwCl u.2 t.heap ∧ va_D A u.2) A) [.ref h0].toArray s 0 0 A) (F0 m 23 ls []) := by
    intro n23
    induction n23 with
    | zero =>
      intro G w H locs zq1 zq2 zq3 zq4 hG hT hP hD hS g_h0 i23_0 i23_1 i23_2 hm23 ls hl
      exact absurd hm23 (Nat.not_lt_zero _)
    | succ n23 ih23 =>
      intro G w H locs zq1 zq2 zq3 zq4 hG hT hP hD hS g_h0 i23_0 i23_1 i23_2 hm23 ls hl
      refine lv_iload hx hb dX4_bestTry_23 (lv_at hl 4 rfl) ?_
      refine lv_bipush (v := 99) hx hb dX4_bestTry_25 (by decide) ?_
      refine lv_icmp_gt (tgt := 68) hx hb dX4_bestTry_27 (by decide) (fun cq27 => ?_) (fun cq27 => ?_)
      · skip
        refine lv_iload_n hx hb dX4_bestTry_68 rfl (lv_at hl 2 rfl) ?_
        exact W.iret (v := zq2) hx hb hr (fun t ht hW => ⟨⟨zq2, (G, w), rfl, ⟨btI_end i23_2 cq27 i23_0.1 i23_1, hG, hT⟩, by rw [ht]; exact hP, hD⟩, hS.F ht⟩) hS.2.2 dX4_bestTry_69
      · skip
        refine lv_aload_n hx hb dX4_bestTry_30 rfl (lv_at hl 0 rfl) ?_
        refine lv_iload hx hb dX4_bestTry_31 (lv_at hl 4 rfl) ?_
        refine lv_iload_n hx hb dX4_bestTry_33 rfl (lv_at hl 1 rfl) ?_
        refine r_i (va_runV (As := [.int zq4, .int zq1]) (rest := []) ⟨hx, hb, hml, hown, hts⟩ (k_X4_openFitting l hT g_h0 zq4 zq1 (i23_0)) (cwV 2 hts gX4_bestTry_X4_openFitting rfl rfl rfl (by decide +kernel) ⟨Nat.le_of_ble_eq_true rfl, Nat.le_of_ble_eq_true rfl⟩) (rPreV (hT.rcv5 g_h0 hK hP) hP hK hD hN) rfl rfl hl.1 rfl (lv_room (Nat.le_of_ble_eq_true rfl)) dX4_bestTry_34 ⟨Nat.le_of_ble_eq_true rfl, Nat.le_of_ble_eq_true rfl⟩) hP hS (fun rq34 H locs hp34 hP hS => ?_)
        refine lv_istore (lv' := [(5, .int rq34), (0, .ref h0), (1, .int zq1), (2, .int zq2), (3, .int zq3), (4, .int zq4)]) hx hb dX4_bestTry_37 hl (by decide) rfl (fun ls hl => ?_)
        refine lv_iload hx hb dX4_bestTry_39 (lv_at hl 0 rfl) ?_
        refine lv_iload_n hx hb dX4_bestTry_41 rfl (lv_at hl 2 rfl) ?_
        refine lv_iload hx hb dX4_bestTry_42 (lv_at hl 0 rfl) ?_
        refine lv_isub hx hb dX4_bestTry_44 ?_
        refine lv_topi (fun vq44 eq44 => ?_)
        refine va_mmax hx hb (hml.trans hl.1.symm) hown (hts (.methodLink RX4 38 Lib.Math.max.name) (by decide +kernel)) (hts (.static Lib.Math.max.name) (by decide +kernel)) (hts (.initialized "java/lang/Math") (by decide +kernel)) (hts (.code Lib.Math.max.name Lib.Math.max.code 2 (some .int)) (by decide +kernel)) (Nat.le_of_ble_eq_true rfl) (Nat.le_of_ble_eq_true rfl) (Nat.le_of_ble_eq_true rfl) (Nat.le_of_ble_eq_true rfl) dX4_bestTry_45 ?_
        refine lv_topi (fun vq45 eq45 => ?_)
        refine lv_istore (lv' := [(6, .int vq45), (5, .int rq34), (0, .ref h0), (1, .int zq1), (2, .int zq2), (3, .int zq3), (4, .int zq4)]) hx hb dX4_bestTry_48 hl (by decide) rfl (fun ls hl => ?_)
        refine lv_iload hx hb dX4_bestTry_50 (lv_at hl 0 rfl) ?_
        refine lv_iload_n hx hb dX4_bestTry_52 rfl (lv_at hl 5 rfl) ?_
        refine lv_icmp_ge (tgt := 62) hx hb dX4_bestTry_53 (by decide) (fun cq53 => ?_) (fun cq53 => ?_)
        · skip
          obtain ⟨vq62, eq62⟩ : ∃ y : Int32, y = zq4 + 1 := ⟨_, rfl⟩
          refine lv_iinc (v := vq62) (lv' := [(4, .int vq62), (6, .int vq45), (5, .int rq34), (0, .ref h0), (1, .int zq1), (2, .int zq2), (3, .int zq3)]) hx hb dX4_bestTry_62 hl (k := 6) rfl (by rw [eq62]; rfl) (by decide) rfl (fun ls hl => ?_)
          refine lv_goto (tgt := 23) hx hb dX4_bestTry_65 (by decide) ?_
          exact ih23 _ _ _ _ zq1 zq2 zq3 vq62 hG hT hP hD hS g_h0 (by first | exact i23_0 | exact hp1) (by first | exact i23_1 | exact cq7) (by first | exact btI_keep i23_2 (by omega) cq27 i23_0.1 hp34 eq44 eq45 cq53 eq62 | exact btI_take i23_2 cq27 i23_0.1 hp34 eq44 eq45 cq53 eq62 | exact btI_0 hp1.1 eq18) (iq_upl hm23 cq27 (by decide) eq62) _ (lv_sub hl [3, 4, 5, 6, 0] rfl)
        · skip
          refine lv_iload hx hb dX4_bestTry_56 (lv_at hl 0 rfl) ?_
          refine lv_istore_n (lv' := [(3, .int vq45), (6, .int vq45), (5, .int rq34), (0, .ref h0), (1, .int zq1), (2, .int zq2), (4, .int zq4)]) hx hb dX4_bestTry_58 rfl hl (by decide) rfl (fun ls hl => ?_)
          refine lv_iload hx hb dX4_bestTry_59 (lv_at hl 6 rfl) ?_
          refine lv_istore_n (lv' := [(2, .int zq4), (3, .int vq45), (6, .int vq45), (5, .int rq34), (0, .ref h0), (1, .int zq1), (4, .int zq4)]) hx hb dX4_bestTry_61 rfl hl (by decide) rfl (fun ls hl => ?_)
          obtain ⟨vq62, eq62⟩ : ∃ y : Int32, y = zq4 + 1 := ⟨_, rfl⟩
          refine lv_iinc (v := vq62) (lv' := [(4, .int vq62), (2, .int zq4), (3, .int vq45), (6, .int vq45), (5, .int rq34), (0, .ref h0), (1, .int zq1)]) hx hb dX4_bestTry_62 hl (k := 6) rfl (by rw [eq62]; rfl) (by decide) rfl (fun ls hl => ?_)
          refine lv_goto (tgt := 23) hx hb dX4_bestTry_65 (by decide) ?_
          exact ih23 _ _ _ _ zq1 zq4 vq45 vq62 hG hT hP hD hS g_h0 (by first | exact i23_0 | exact hp1) (by first | exact i23_1 | exact cq7) (by first | exact btI_keep i23_2 (by omega) cq27 i23_0.1 hp34 eq44 eq45 cq53 eq62 | exact btI_take i23_2 cq27 i23_0.1 hp34 eq44 eq45 cq53 eq62 | exact btI_0 hp1.1 eq18) (iq_upl hm23 cq27 (by decide) eq62) _ (lv_sub hl [5, 6, 1, 2, 0] rfl)
  refine lv_aload_n hx hb dX4_bestTry_0 rfl (lv_at hl 0 rfl) ?_
  refine c_i (K := K) (K2 := K) (G := G0) (w := w0) (post := fun (r : Int32) _ w1 => goA K w1 h0 r) (va_runV (mc := 0) (ms := 0) (rm := rmX4_gatherOpen) (As := []) (rest := []) ⟨hx, hb, hml, hown, hts⟩ (k_X4_gatherOpen l hT s.heap.size g_h0) (cwV 0 hts gX4_bestTry_X4_gatherOpen rfl rfl rfl (by decide +kernel) ⟨Nat.le_of_ble_eq_true rfl, Nat.le_of_ble_eq_true rfl⟩) (kPreV (hT.rcv5 g_h0 hK hP) hP hK hD hN) rfl rfl hl.1 rfl (lv_room (Nat.le_of_ble_eq_true rfl)) dX4_bestTry_1 ⟨Nat.le_of_ble_eq_true rfl, Nat.le_of_ble_eq_true rfl⟩) hD hS hA (fun rq1 G w H locs hp1 hg hT hP hD hS => ?_)
  have hG := hG.tr hg
  have g_h0 := hg.at g_h0 (by decide)
  refine lv_istore_n (lv' := [(1, .int rq1), (0, .ref h0)]) hx hb dX4_bestTry_4 rfl hl (by decide) rfl (fun ls hl => ?_)
  refine lv_iload_n hx hb dX4_bestTry_5 rfl (lv_at hl 0 rfl) ?_
  refine lv_iconst (v := 1) hx hb dX4_bestTry_6 (by decide) ?_
  refine lv_icmp_gt (tgt := 13) hx hb dX4_bestTry_7 (by decide) (fun cq7 => ?_) (fun cq7 => ?_)
  · skip
    refine lv_ldc (v := (-1000000)) hx hb hown (hts (.constant RX4 33 (-1000000)) (by decide +kernel)) dX4_bestTry_13 ?_
    refine lv_istore_n (lv' := [(2, .int (-1000000)), (1, .int rq1), (0, .ref h0)]) hx hb dX4_bestTry_15 rfl hl (by decide) rfl (fun ls hl => ?_)
    refine lv_iload_n hx hb dX4_bestTry_16 rfl (lv_at hl 1 rfl) ?_
    refine lv_iconst (v := 1) hx hb dX4_bestTry_17 (by decide) ?_
    refine lv_iadd hx hb dX4_bestTry_18 ?_
    refine lv_topi (fun vq18 eq18 => ?_)
    refine lv_istore_n (lv' := [(3, .int vq18), (2, .int (-1000000)), (1, .int rq1), (0, .ref h0)]) hx hb dX4_bestTry_19 rfl hl (by decide) rfl (fun ls hl => ?_)
    refine lv_iconst (v := 1) hx hb dX4_bestTry_20 (by decide) ?_
    refine lv_istore (lv' := [(4, .int 1), (3, .int vq18), (2, .int (-1000000)), (1, .int rq1), (0, .ref h0)]) hx hb dX4_bestTry_21 hl (by decide) rfl (fun ls hl => ?_)
    exact hJ23 ((2147483647 - (1 : Int32).toInt).toNat + 1) _ _ _ _ rq1 ((-1000000)) vq18 1 hG hT hP hD hS g_h0 (by first | exact i23_0 | exact hp1) (by first | exact i23_1 | exact cq7) (by first | exact btI_keep i23_2 (by omega) cq27 i23_0.1 hp34 eq44 eq45 cq53 eq62 | exact btI_take i23_2 cq27 i23_0.1 hp34 eq44 eq45 cq53 eq62 | exact btI_0 hp1.1 eq18) (Nat.lt_succ_self _) _ (lv_sub hl [4, 3, 2, 1, 0] rfl)
  · skip
    refine lv_ldc (v := (-1000000)) hx hb hown (hts (.constant RX4 33 (-1000000)) (by decide +kernel)) dX4_bestTry_10 ?_
    exact W.iret (v := (-1000000)) hx hb hr (fun t ht hW => ⟨⟨(-1000000), (G, w), rfl, ⟨Or.inl ⟨by rw [iq_lt] at cq7; have h9 : ¬ (1 : Int) < rq1.toInt := cq7; have h8 := hp1.1; omega, rfl⟩, hG, hT⟩, by rw [ht]; exact hP, hD⟩, hS.F ht⟩) hS.2.2 dX4_bestTry_12

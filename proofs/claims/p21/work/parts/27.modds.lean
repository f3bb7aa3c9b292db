abbrev rmX6_odds : Room := { frames := 1, cells := 0, slots := 0, locals := 29 }
set_option maxHeartbeats 4000000 in
set_option maxRecDepth 100000 in
theorem k_X6_odds (l : Launch) {K : Cx} {a : Nat → Nat} {th um sm : Int32} {sA uA kA iA wA fA cA : Nat → Int32} {yA tA : Nat → Int64} (hM : MI K (th, um, sm, sA, uA, kA, iA, wA, fA, cA, yA, tA)) (sz : Nat) (pq1 : Int32) (pq2 : Int32)  : Mi l K yX6_odds wsX6_odds rmX6_odds [.ref (a 0), .int pq1, .int pq2] a (th, um, sm, sA, uA, kA, iA, wA, fA, cA, yA, tA) sz (fun _ _ => True) := by
  refine Met.ofW (cc := cX6_odds) (maxL := 8) (ret := (some .int)) (by decide) rfl ?_
  intro p e s m args below meth c s₁ B hml hv
  obtain ⟨rfl, hsz, hP, hK, hD0, hN⟩ := hv
  have hx := B.exec
  have hb := B.bytes
  have hr := B.returns
  have hts := atoms_spec (ws := wsX6_odds) B.pre
  have hown : s.vm.findClass RX6 = some m.cls := findClass_of_methodNamed B.named
  have hlocks := B.notSynchronized
  have hinX6 : ∀ w ∈ wsX60, w ∈ wsX6_odds := by decide +kernel
  subst hsz
  have hD := hD0.self (sz := s.heap.size)
  generalize hAe : va_A (mZ K a (th, um, sm, sA, uA, kA, iA, wA, fA, cA, yA, tA)) s.heap.size = A at hD ⊢
  have hA : ∀ q : Nat, s.heap.size ≤ q → A q := fun q h => by rw [← hAe]; exact Or.inr h
  have hS : va_S A s.heap s.heap [] := va_S.rf
  have hP : va_P K.1 vwCl (mW K a th um sm sA uA kA iA wA fA cA yA tA) s.heap := hP
  have hD : va_D A (mW K a th um sm sA uA kA iA wA fA cA yA tA) := hD
  have hMS : okS sA := hM.1
  have hMU : okU um := hM.2.1
  have hMM : okM sm := hM.2.2.1
  have hMR : okR um uA := hM.2.2.2.1
  have hMK : okK kA iA := hM.2.2.2.2.1
  have hMZ : okZ K sm wA fA := hM.2.2.2.2.2
  have hl := lv_entry ([.ref (a 0), .int pq1, .int pq2]) (n := 8) (Nat.le_of_ble_eq_true rfl)
  rw [lg_entry_eq]
  generalize (lg_sl ([.ref (a 0), .int pq1, .int pq2]) ++ List.replicate (8 - (lg_sl ([.ref (a 0), .int pq1, .int pq2])).length) Slot.unset).toArray = ls at hl ⊢
  have hl : lv_has ls 8 [(0, .ref (a 0)), (1, .int pq1), (2, .int pq2)] := hl
  have hJ65 : ∀ (n65 : Nat) (thL : Int32) (umL : Int32) (smL : Int32) (sL : Nat → Int32) (uL : Nat → Int32) (kL : Nat → Int32) (iL : Nat → Int32) (wL : Nat → Int32) (fL : Nat → Int32) (cL : Nat → Int32) (yL : Nat → Int64) (tL : Nat → Int64) (H : Heap) (locs : List Loc) (zq3 : Int64) (zq5 : Int32), (va_P K.1 vwCl (mW K a thL umL smL sL uL kL iL wL fL cL yL tL) H) → (va_D A (mW K a thL umL smL sL uL kL iL wL fL cL yL tL)) → (va_S A s.heap H locs) → (okS sL) → (okU umL) → (okM smL) → (okR umL uL) → (okK kL iL) → (okZ K smL wL fL) → (0 ≤ zq5.toInt) → (pq1.toInt ≤ 4) → (1 ≤ zq3.toInt ∧ zq3.toInt ≤ 32 ^ zq5.toInt.toNat) → ((2147483647 - zq5.toInt).toNat < n65) → ∀ (ls : Array Slot), lv_has ls 8 [(0, .ref (a 0)), (1, .int pq1), (2, .int pq2), (3, .long zq3), (5, .int zq5)] → W p l e rmX6_odds s m [.ref (a 0), .int pq1, .int pq2].toArray below meth c H locs 0 0 (MQ below (va_Qi (fun (r : Int32) (u : MZ) => (fun _ _ => True) r u ∧ MI (K) u) (fun u t => va_P K.1 vwCl (mZ K a u) t.heap ∧ va_D A (mZ K a u)) A) [.ref (a 0), .int pq1, .int pq2].toArray s 0 0 A) (F0 m 65 ls []) := by
    intro n65
    induction n65 with
    | zero =>
      intro thL umL smL sL uL kL iL wL fL cL yL tL H locs zq3 zq5 hP hD hS hMS hMU hMM hMR hMK hMZ i65_0 i65_1 i65_2 hm65 ls hl
      exact absurd hm65 (Nat.not_lt_zero _)
    | succ n65 ih65 =>
      intro thL umL smL sL uL kL iL wL fL cL yL tL H locs zq3 zq5 hP hD hS hMS hMU hMM hMR hMK hMZ i65_0 i65_1 i65_2 hm65 ls hl
      have hJ178 : ∀ (n178 : Nat) (thL : Int32) (umL : Int32) (smL : Int32) (sL : Nat → Int32) (uL : Nat → Int32) (kL : Nat → Int32) (iL : Nat → Int32) (wL : Nat → Int32) (fL : Nat → Int32) (cL : Nat → Int32) (yL : Nat → Int64) (tL : Nat → Int64) (H : Heap) (locs : List Loc) (zq3 : Int64) (zq6 : Int32), (va_P K.1 vwCl (mW K a thL umL smL sL uL kL iL wL fL cL yL tL) H) → (va_D A (mW K a thL umL smL sL uL kL iL wL fL cL yL tL)) → (va_S A s.heap H locs) → (okS sL) → (okU umL) → (okM smL) → (okR umL uL) → (okK kL iL) → (okZ K smL wL fL) → (0 ≤ zq6.toInt) → (1 ≤ zq3.toInt ∧ zq3.toInt ≤ 32 ^ (zq5.toInt.toNat + 1)) → (zq5.toInt < 4) → ((2147483647 - zq6.toInt).toNat < n178) → ∀ (ls : Array Slot), lv_has ls 8 [(0, .ref (a 0)), (1, .int pq1), (2, .int pq2), (3, .long zq3), (5, .int zq5), (6, .int zq6)] → W p l e rmX6_odds s m [.ref (a 0), .int pq1, .int pq2].toArray below meth c H locs 0 0 (MQ below (va_Qi (fun (r : Int32) (u : MZ) => (fun _ _ => True) r u ∧ MI (K) u) (fun u t => va_P K.1 vwCl (mZ K a u) t.heap ∧ va_D A (mZ K a u)) A) [.ref (a 0), .int pq1, .int pq2].toArray s 0 0 A) (F0 m 178 ls []) := by
        intro n178
        induction n178 with
        | zero =>
          intro thL umL smL sL uL kL iL wL fL cL yL tL H locs zq3 zq6 hP hD hS hMS hMU hMM hMR hMK hMZ i178_0 i178_1 i178_2 hm178 ls hl
          exact absurd hm178 (Nat.not_lt_zero _)
        | succ n178 ih178 =>
          intro thL umL smL sL uL kL iL wL fL cL yL tL H locs zq3 zq6 hP hD hS hMS hMU hMM hMR hMK hMZ i178_0 i178_1 i178_2 hm178 ls hl
          refine lv_iload hx hb dX6_odds_178 (lv_at hl 5 rfl) ?_
          refine lv_sipush (v := 200) hx hb dX6_odds_180 (by decide) ?_
          refine lv_icmp_ge (tgt := 206) hx hb dX6_odds_183 (by decide) (fun cq183 => ?_) (fun cq183 => ?_)
          · skip
            obtain ⟨vq206, eq206⟩ : ∃ y : Int32, y = zq5 + 1 := ⟨_, rfl⟩
            refine lv_iinc (v := vq206) (lv' := [(5, .int vq206), (0, .ref (a 0)), (1, .int pq1), (2, .int pq2), (3, .long zq3), (6, .int zq6)]) hx hb dX6_odds_206 hl (k := 4) rfl (by rw [eq206]; rfl) (by decide) rfl (fun ls hl => ?_)
            refine lv_goto (tgt := 65) hx hb dX6_odds_209 (by decide) ?_
            exact ih65 thL umL smL sL uL kL iL wL fL cL yL tL _ _ zq3 vq206 hP hD hS hMS hMU hMM hMR hMK hMZ (by first | decide | (have h := iq_add1 eq206 (by omega); omega)) (by first | exact i65_1 | exact i31_1) (by first | (rw [i31_2]; exact ⟨by decide, by decide⟩) | (have h := iq_add1 eq206 (by omega); rw [show vq206.toInt.toNat = zq5.toInt.toNat + 1 by omega]; exact i178_1)) (iq_upm hm65 (by omega) eq206) _ (lv_sub hl [1, 2, 3, 4, 0] rfl)
          · skip
            refine lv_aload_n hx hb dX6_odds_186 rfl (lv_at hl 0 rfl) ?_
            refine va_get (D := K.1) (ci := 6) (v := .ref (a 7)) (C := RX6) (T := TX6) (N := 12) hx hb hts hinX6 hown hK hP 0 rfl rfl 9 (by decide) (hts (.fieldLink RX6 29 "CodedWordsModel" "ways" "[J") (by decide +kernel)) (fun _ h9 => h9) rfl dX6_odds_187 ?_
            refine lv_iload hx hb dX6_odds_190 (lv_at hl 5 rfl) ?_
            refine lv_aload_n hx hb dX6_odds_192 rfl (lv_at hl 0 rfl) ?_
            refine va_get (D := K.1) (ci := 6) (v := .ref (a 8)) (C := RX6) (T := TX6) (N := 12) hx hb hts hinX6 hown hK hP 0 rfl rfl 10 (by decide) (hts (.fieldLink RX6 33 "CodedWordsModel" "then" "[J") (by decide +kernel)) (fun _ h9 => h9) rfl dX6_odds_193 ?_
            refine lv_iload hx hb dX6_odds_196 (lv_at hl 5 rfl) ?_
            refine va_lald hx hb hK hP 8 1 rfl rfl (iq_inr i178_0 cq183 (by decide)) dX6_odds_198 ?_
            refine lv_topl (fun vq198 eq198 => ?_)
            refine va_last hx hb hK hP hD hS 7 1 rfl rfl (iq_inr i178_0 cq183 (by decide)) dX6_odds_199 (fun H locs hP hD hS => ?_)
            have hP : va_P K.1 vwCl (mW K a thL umL smL sL uL kL iL wL fL cL (vp_updL yL (zq6 : Int32).toNatClampNeg vq198) tL) H := hP
            have hD : va_D A (mW K a thL umL smL sL uL kL iL wL fL cL (vp_updL yL (zq6 : Int32).toNatClampNeg vq198) tL) := hD
            generalize en199 : vp_updL yL (zq6 : Int32).toNatClampNeg vq198 = yN199 at hP hD
            obtain ⟨vq200, eq200⟩ : ∃ y : Int32, y = zq6 + 1 := ⟨_, rfl⟩
            refine lv_iinc (v := vq200) (lv' := [(6, .int vq200), (0, .ref (a 0)), (1, .int pq1), (2, .int pq2), (3, .long zq3), (5, .int zq5)]) hx hb dX6_odds_200 hl (k := 5) rfl (by rw [eq200]; rfl) (by decide) rfl (fun ls hl => ?_)
            refine lv_goto (tgt := 178) hx hb dX6_odds_203 (by decide) ?_
            exact ih178 thL umL smL sL uL kL iL wL fL cL yN199 tL _ _ zq3 vq200 hP hD hS hMS hMU hMM hMR hMK hMZ (by first | exact iq_nn1 i178_0 cq183 eq200 | decide) (by first | exact i178_1 | exact i107_1) (by first | exact i178_2 | exact i107_2) (iq_up hm178 cq183 eq200) _ (lv_sub hl [1, 2, 3, 4, 5, 0] rfl)
      have hJ107 : ∀ (n107 : Nat) (thL : Int32) (umL : Int32) (smL : Int32) (sL : Nat → Int32) (uL : Nat → Int32) (kL : Nat → Int32) (iL : Nat → Int32) (wL : Nat → Int32) (fL : Nat → Int32) (cL : Nat → Int32) (yL : Nat → Int64) (tL : Nat → Int64) (H : Heap) (locs : List Loc) (zq3 : Int64) (zq6 : Int32), (va_P K.1 vwCl (mW K a thL umL smL sL uL kL iL wL fL cL yL tL) H) → (va_D A (mW K a thL umL smL sL uL kL iL wL fL cL yL tL)) → (va_S A s.heap H locs) → (okS sL) → (okU umL) → (okM smL) → (okR umL uL) → (okK kL iL) → (okZ K smL wL fL) → (0 ≤ zq6.toInt) → (1 ≤ zq3.toInt ∧ zq3.toInt ≤ 32 ^ (zq5.toInt.toNat + 1)) → (zq5.toInt < 4) → ((2147483647 - zq6.toInt).toNat < n107) → ∀ (ls : Array Slot), lv_has ls 8 [(0, .ref (a 0)), (1, .int pq1), (2, .int pq2), (3, .long zq3), (5, .int zq5), (6, .int zq6)] → W p l e rmX6_odds s m [.ref (a 0), .int pq1, .int pq2].toArray below meth c H locs 0 0 (MQ below (va_Qi (fun (r : Int32) (u : MZ) => (fun _ _ => True) r u ∧ MI (K) u) (fun u t => va_P K.1 vwCl (mZ K a u) t.heap ∧ va_D A (mZ K a u)) A) [.ref (a 0), .int pq1, .int pq2].toArray s 0 0 A) (F0 m 107 ls []) := by
        intro n107
        induction n107 with
        | zero =>
          intro thL umL smL sL uL kL iL wL fL cL yL tL H locs zq3 zq6 hP hD hS hMS hMU hMM hMR hMK hMZ i107_0 i107_1 i107_2 hm107 ls hl
          exact absurd hm107 (Nat.not_lt_zero _)
        | succ n107 ih107 =>
          intro thL umL smL sL uL kL iL wL fL cL yL tL H locs zq3 zq6 hP hD hS hMS hMU hMM hMR hMK hMZ i107_0 i107_1 i107_2 hm107 ls hl
          have hJ121 : ∀ (n121 : Nat) (thL : Int32) (umL : Int32) (smL : Int32) (sL : Nat → Int32) (uL : Nat → Int32) (kL : Nat → Int32) (iL : Nat → Int32) (wL : Nat → Int32) (fL : Nat → Int32) (cL : Nat → Int32) (yL : Nat → Int64) (tL : Nat → Int64) (H : Heap) (locs : List Loc) (zq7 : Int32), (va_P K.1 vwCl (mW K a thL umL smL sL uL kL iL wL fL cL yL tL) H) → (va_D A (mW K a thL umL smL sL uL kL iL wL fL cL yL tL)) → (va_S A s.heap H locs) → (okS sL) → (okU umL) → (okM smL) → (okR umL uL) → (okK kL iL) → (okZ K smL wL fL) → (zq6.toInt < 199) → ((2147483647 - zq7.toInt).toNat < n121) → ∀ (ls : Array Slot), lv_has ls 8 [(0, .ref (a 0)), (1, .int pq1), (2, .int pq2), (3, .long zq3), (5, .int zq5), (6, .int zq6), (7, .int zq7)] → W p l e rmX6_odds s m [.ref (a 0), .int pq1, .int pq2].toArray below meth c H locs 0 0 (MQ below (va_Qi (fun (r : Int32) (u : MZ) => (fun _ _ => True) r u ∧ MI (K) u) (fun u t => va_P K.1 vwCl (mZ K a u) t.heap ∧ va_D A (mZ K a u)) A) [.ref (a 0), .int pq1, .int pq2].toArray s 0 0 A) (F0 m 121 ls []) := by
            intro n121
            induction n121 with
            | zero =>
              intro thL umL smL sL uL kL iL wL fL cL yL tL H locs zq7 hP hD hS hMS hMU hMM hMR hMK hMZ i121_0 hm121 ls hl
              exact absurd hm121 (Nat.not_lt_zero _)
            | succ n121 ih121 =>
              intro thL umL smL sL uL kL iL wL fL cL yL tL H locs zq7 hP hD hS hMS hMU hMM hMR hMK hMZ i121_0 hm121 ls hl
              refine lv_iload hx hb dX6_odds_121 (lv_at hl 6 rfl) ?_
              refine lv_aload_n hx hb dX6_odds_123 rfl (lv_at hl 0 rfl) ?_
              refine r_i (K := K) (w := mW K a thL umL smL sL uL kL iL wL fL cL yL tL) (va_runV (As := []) (rest := [.int zq7]) ⟨hx, hb, hml, hown, hts⟩ (k_X6_strikeMany l hMS) (cwV 0 hts gX6_odds_X6_strikeMany rfl rfl rfl (by decide +kernel) ⟨Nat.le_of_ble_eq_true rfl, Nat.le_of_ble_eq_true rfl⟩) (rPreV (m_rcv hK hP) hP hK hD hN) rfl rfl hl.1 rfl (lv_room (Nat.le_of_ble_eq_true rfl)) dX6_odds_124 ⟨Nat.le_of_ble_eq_true rfl, Nat.le_of_ble_eq_true rfl⟩) hP hS (fun rq124 H locs hp124 hP hS => ?_)
              refine lv_icmp_ge (tgt := 169) hx hb dX6_odds_127 (by decide) (fun cq127 => ?_) (fun cq127 => ?_)
              · skip
                obtain ⟨vq169, eq169⟩ : ∃ y : Int32, y = zq6 + 1 := ⟨_, rfl⟩
                refine lv_iinc (v := vq169) (lv' := [(6, .int vq169), (0, .ref (a 0)), (1, .int pq1), (2, .int pq2), (3, .long zq3), (5, .int zq5), (7, .int zq7)]) hx hb dX6_odds_169 hl (k := 5) rfl (by rw [eq169]; rfl) (by decide) rfl (fun ls hl => ?_)
                refine lv_goto (tgt := 107) hx hb dX6_odds_172 (by decide) ?_
                exact ih107 thL umL smL sL uL kL iL wL fL cL yL tL _ _ zq3 vq169 hP hD hS hMS hMU hMM hMR hMK hMZ (by first | (have h := iq_add1 eq169 (by omega); omega) | decide) (by first | exact i107_1 | exact i82_1) (by first | exact i107_2 | exact i82_2) (iq_upm hm107 (by omega) eq169) _ (lv_sub hl [1, 2, 3, 4, 5, 0] rfl)
              · skip
                refine lv_aload_n hx hb dX6_odds_130 rfl (lv_at hl 0 rfl) ?_
                refine va_get (D := K.1) (ci := 6) (v := .ref (a 8)) (C := RX6) (T := TX6) (N := 12) hx hb hts hinX6 hown hK hP 0 rfl rfl 10 (by decide) (hts (.fieldLink RX6 33 "CodedWordsModel" "then" "[J") (by decide +kernel)) (fun _ h9 => h9) rfl dX6_odds_131 ?_
                refine lv_iload hx hb dX6_odds_134 (lv_at hl 5 rfl) ?_
                refine lv_iload hx hb dX6_odds_136 (lv_at hl 6 rfl) ?_
                refine r_i (va_runS (As := [.int zq7]) (rest := [.int zq6, .ref (a 8)]) ⟨hx, hb, hml, hown, hts⟩ (k_X6_by l zq7) (va_cwS 1 hts gX6_odds_X6_by rfl rfl rfl (by decide +kernel) ⟨Nat.le_of_ble_eq_true rfl, Nat.le_of_ble_eq_true rfl⟩) (pPreS) rfl rfl hl.1 rfl (lv_room (Nat.le_of_ble_eq_true rfl)) dX6_odds_138 ⟨Nat.le_of_ble_eq_true rfl, Nat.le_of_ble_eq_true rfl⟩) hP hS (fun rq138 H locs hp138 hP hS => ?_)
                refine lv_iadd hx hb dX6_odds_141 ?_
                refine lv_topi (fun vq141 eq141 => ?_)
                refine lv_i2l (v := (vq141 : Int32).toInt64) hx hb dX6_odds_142 rfl ?_
                refine lv_topl (fun vq142 eq142 => ?_)
                refine lv_aload_n hx hb dX6_odds_143 rfl (lv_at hl 0 rfl) ?_
                refine va_get (D := K.1) (ci := 6) (v := .ref (a 1)) (C := RX6) (T := TX6) (N := 12) hx hb hts hinX6 hown hK hP 0 rfl rfl 1 (by decide) (hts (.fieldLink RX6 7 "CodedWordsModel" "s" "[I") (by decide +kernel)) (fun _ h9 => h9) rfl dX6_odds_144 ?_
                refine lv_iconst (v := 0) hx hb dX6_odds_147 (by decide) ?_
                refine va_iald hx hb hK hP 1 0 rfl rfl (iq_in (by decide) (by decide)) dX6_odds_148 ?_
                refine lv_topi (fun vq148 eq148 => ?_)
                refine r_i (va_runS (As := [.long vq142, .int vq148]) (rest := [.ref (a 8)]) ⟨hx, hb, hml, hown, hts⟩ (k_X6_rest l vq142 vq148 (hMS.pos eq148)) (va_cwS 2 hts gX6_odds_X6_rest rfl rfl rfl (by decide +kernel) ⟨Nat.le_of_ble_eq_true rfl, Nat.le_of_ble_eq_true rfl⟩) (pPreS) rfl rfl hl.1 rfl (lv_room (Nat.le_of_ble_eq_true rfl)) dX6_odds_149 ⟨Nat.le_of_ble_eq_true rfl, Nat.le_of_ble_eq_true rfl⟩) hP hS (fun rq149 H locs hp149 hP hS => ?_)
                refine lv_dup2_11 hx hb dX6_odds_152 rfl rfl ?_
                refine va_lald hx hb hK hP 8 1 rfl rfl (by have h := mRest_in (v := vq142) (hMS.pos eq148); have h2 := hMS.le eq148; rw [hp149]; exact iq_in h.1 (by omega)) dX6_odds_153 ?_
                refine lv_topl (fun vq153 eq153 => ?_)
                refine lv_aload_n hx hb dX6_odds_154 rfl (lv_at hl 0 rfl) ?_
                refine va_get (D := K.1) (ci := 6) (v := .ref (a 7)) (C := RX6) (T := TX6) (N := 12) hx hb hts hinX6 hown hK hP 0 rfl rfl 9 (by decide) (hts (.fieldLink RX6 29 "CodedWordsModel" "ways" "[J") (by decide +kernel)) (fun _ h9 => h9) rfl dX6_odds_155 ?_
                refine lv_iload hx hb dX6_odds_158 (lv_at hl 5 rfl) ?_
                refine va_lald hx hb hK hP 7 1 rfl rfl (iq_in i107_0 (by omega)) dX6_odds_160 ?_
                refine lv_topl (fun vq160 eq160 => ?_)
                refine lv_ladd hx hb dX6_odds_161 ?_
                refine lv_topl (fun vq161 eq161 => ?_)
                refine va_last hx hb hK hP hD hS 8 1 rfl rfl (by have h := mRest_in (v := vq142) (hMS.pos eq148); have h2 := hMS.le eq148; rw [hp149]; exact iq_in h.1 (by omega)) dX6_odds_162 (fun H locs hP hD hS => ?_)
                have hP : va_P K.1 vwCl (mW K a thL umL smL sL uL kL iL wL fL cL yL (vp_updL tL (rq149 : Int32).toNatClampNeg vq161)) H := hP
                have hD : va_D A (mW K a thL umL smL sL uL kL iL wL fL cL yL (vp_updL tL (rq149 : Int32).toNatClampNeg vq161)) := hD
                generalize en162 : vp_updL tL (rq149 : Int32).toNatClampNeg vq161 = tN162 at hP hD
                obtain ⟨vq163, eq163⟩ : ∃ y : Int32, y = zq7 + 1 := ⟨_, rfl⟩
                refine lv_iinc (v := vq163) (lv' := [(7, .int vq163), (0, .ref (a 0)), (1, .int pq1), (2, .int pq2), (3, .long zq3), (5, .int zq5), (6, .int zq6)]) hx hb dX6_odds_163 hl (k := 6) rfl (by rw [eq163]; rfl) (by decide) rfl (fun ls hl => ?_)
                refine lv_goto (tgt := 121) hx hb dX6_odds_166 (by decide) ?_
                exact ih121 thL umL smL sL uL kL iL wL fL cL yL tN162 _ _ vq163 hP hD hS hMS hMU hMM hMR hMK hMZ (by first | exact i121_0 | (rw [iq_le] at cq115; have h9 := hMS.le eq114; omega)) (iq_up hm121 cq127 eq163) _ (lv_sub hl [1, 2, 3, 4, 5, 6, 0] rfl)
          refine lv_iload hx hb dX6_odds_107 (lv_at hl 5 rfl) ?_
          refine lv_aload_n hx hb dX6_odds_109 rfl (lv_at hl 0 rfl) ?_
          refine va_get (D := K.1) (ci := 6) (v := .ref (a 1)) (C := RX6) (T := TX6) (N := 12) hx hb hts hinX6 hown hK hP 0 rfl rfl 1 (by decide) (hts (.fieldLink RX6 7 "CodedWordsModel" "s" "[I") (by decide +kernel)) (fun _ h9 => h9) rfl dX6_odds_110 ?_
          refine lv_iconst (v := 0) hx hb dX6_odds_113 (by decide) ?_
          refine va_iald hx hb hK hP 1 0 rfl rfl (iq_in (by decide) (by decide)) dX6_odds_114 ?_
          refine lv_topi (fun vq114 eq114 => ?_)
          refine lv_icmp_ge (tgt := 175) hx hb dX6_odds_115 (by decide) (fun cq115 => ?_) (fun cq115 => ?_)
          · skip
            refine lv_iconst (v := 0) hx hb dX6_odds_175 (by decide) ?_
            refine lv_istore (lv' := [(6, .int 0), (0, .ref (a 0)), (1, .int pq1), (2, .int pq2), (3, .long zq3), (5, .int zq5)]) hx hb dX6_odds_176 hl (by decide) rfl (fun ls hl => ?_)
            exact hJ178 ((2147483647 - (0 : Int32).toInt).toNat + 1) thL umL smL sL uL kL iL wL fL cL yL tL _ _ zq3 0 hP hD hS hMS hMU hMM hMR hMK hMZ (by first | exact iq_nn1 i178_0 cq183 eq200 | decide) (by first | exact i178_1 | exact i107_1) (by first | exact i178_2 | exact i107_2) (Nat.lt_succ_self _) _ (lv_sub hl [1, 2, 3, 4, 5, 0] rfl)
          · skip
            refine lv_iconst (v := 0) hx hb dX6_odds_118 (by decide) ?_
            refine lv_istore (lv' := [(7, .int 0), (0, .ref (a 0)), (1, .int pq1), (2, .int pq2), (3, .long zq3), (5, .int zq5), (6, .int zq6)]) hx hb dX6_odds_119 hl (by decide) rfl (fun ls hl => ?_)
            exact hJ121 ((2147483647 - (0 : Int32).toInt).toNat + 1) thL umL smL sL uL kL iL wL fL cL yL tL _ _ 0 hP hD hS hMS hMU hMM hMR hMK hMZ (by first | exact i121_0 | (rw [iq_le] at cq115; have h9 := hMS.le eq114; omega)) (Nat.lt_succ_self _) _ (lv_sub hl [1, 2, 3, 4, 5, 6, 0] rfl)
      have hJ82 : ∀ (n82 : Nat) (thL : Int32) (umL : Int32) (smL : Int32) (sL : Nat → Int32) (uL : Nat → Int32) (kL : Nat → Int32) (iL : Nat → Int32) (wL : Nat → Int32) (fL : Nat → Int32) (cL : Nat → Int32) (yL : Nat → Int64) (tL : Nat → Int64) (H : Heap) (locs : List Loc) (zq3 : Int64) (zq6 : Int32), (va_P K.1 vwCl (mW K a thL umL smL sL uL kL iL wL fL cL yL tL) H) → (va_D A (mW K a thL umL smL sL uL kL iL wL fL cL yL tL)) → (va_S A s.heap H locs) → (okS sL) → (okU umL) → (okM smL) → (okR umL uL) → (okK kL iL) → (okZ K smL wL fL) → (0 ≤ zq6.toInt) → (1 ≤ zq3.toInt ∧ zq3.toInt ≤ 32 ^ (zq5.toInt.toNat + 1)) → (zq5.toInt < 4) → ((2147483647 - zq6.toInt).toNat < n82) → ∀ (ls : Array Slot), lv_has ls 8 [(0, .ref (a 0)), (1, .int pq1), (2, .int pq2), (3, .long zq3), (5, .int zq5), (6, .int zq6)] → W p l e rmX6_odds s m [.ref (a 0), .int pq1, .int pq2].toArray below meth c H locs 0 0 (MQ below (va_Qi (fun (r : Int32) (u : MZ) => (fun _ _ => True) r u ∧ MI (K) u) (fun u t => va_P K.1 vwCl (mZ K a u) t.heap ∧ va_D A (mZ K a u)) A) [.ref (a 0), .int pq1, .int pq2].toArray s 0 0 A) (F0 m 82 ls []) := by
        intro n82
        induction n82 with
        | zero =>
          intro thL umL smL sL uL kL iL wL fL cL yL tL H locs zq3 zq6 hP hD hS hMS hMU hMM hMR hMK hMZ i82_0 i82_1 i82_2 hm82 ls hl
          exact absurd hm82 (Nat.not_lt_zero _)
        | succ n82 ih82 =>
          intro thL umL smL sL uL kL iL wL fL cL yL tL H locs zq3 zq6 hP hD hS hMS hMU hMM hMR hMK hMZ i82_0 i82_1 i82_2 hm82 ls hl
          refine lv_iload hx hb dX6_odds_82 (lv_at hl 5 rfl) ?_
          refine lv_sipush (v := 200) hx hb dX6_odds_84 (by decide) ?_
          refine lv_icmp_ge (tgt := 104) hx hb dX6_odds_87 (by decide) (fun cq87 => ?_) (fun cq87 => ?_)
          · skip
            refine lv_iconst (v := 0) hx hb dX6_odds_104 (by decide) ?_
            refine lv_istore (lv' := [(6, .int 0), (0, .ref (a 0)), (1, .int pq1), (2, .int pq2), (3, .long zq3), (5, .int zq5)]) hx hb dX6_odds_105 hl (by decide) rfl (fun ls hl => ?_)
            exact hJ107 ((2147483647 - (0 : Int32).toInt).toNat + 1) thL umL smL sL uL kL iL wL fL cL yL tL _ _ zq3 0 hP hD hS hMS hMU hMM hMR hMK hMZ (by first | (have h := iq_add1 eq169 (by omega); omega) | decide) (by first | exact i107_1 | exact i82_1) (by first | exact i107_2 | exact i82_2) (Nat.lt_succ_self _) _ (lv_sub hl [1, 2, 3, 4, 5, 0] rfl)
          · skip
            refine lv_aload_n hx hb dX6_odds_90 rfl (lv_at hl 0 rfl) ?_
            refine va_get (D := K.1) (ci := 6) (v := .ref (a 8)) (C := RX6) (T := TX6) (N := 12) hx hb hts hinX6 hown hK hP 0 rfl rfl 10 (by decide) (hts (.fieldLink RX6 33 "CodedWordsModel" "then" "[J") (by decide +kernel)) (fun _ h9 => h9) rfl dX6_odds_91 ?_
            refine lv_iload hx hb dX6_odds_94 (lv_at hl 5 rfl) ?_
            refine lv_lconst (v := 0) hx hb dX6_odds_96 (by decide) ?_
            refine va_last hx hb hK hP hD hS 8 1 rfl rfl (iq_inr i82_0 cq87 (by decide)) dX6_odds_97 (fun H locs hP hD hS => ?_)
            have hP : va_P K.1 vwCl (mW K a thL umL smL sL uL kL iL wL fL cL yL (vp_updL tL (zq6 : Int32).toNatClampNeg 0)) H := hP
            have hD : va_D A (mW K a thL umL smL sL uL kL iL wL fL cL yL (vp_updL tL (zq6 : Int32).toNatClampNeg 0)) := hD
            generalize en97 : vp_updL tL (zq6 : Int32).toNatClampNeg 0 = tN97 at hP hD
            obtain ⟨vq98, eq98⟩ : ∃ y : Int32, y = zq6 + 1 := ⟨_, rfl⟩
            refine lv_iinc (v := vq98) (lv' := [(6, .int vq98), (0, .ref (a 0)), (1, .int pq1), (2, .int pq2), (3, .long zq3), (5, .int zq5)]) hx hb dX6_odds_98 hl (k := 5) rfl (by rw [eq98]; rfl) (by decide) rfl (fun ls hl => ?_)
            refine lv_goto (tgt := 82) hx hb dX6_odds_101 (by decide) ?_
            exact ih82 thL umL smL sL uL kL iL wL fL cL yL tN97 _ _ zq3 vq98 hP hD hS hMS hMU hMM hMR hMK hMZ (by first | exact iq_nn1 i82_0 cq87 eq98 | decide) (by first | exact i82_1 | exact lq_whole (k := zq5.toInt.toNat) (by rw [iq_le] at cq68; omega) i65_2 hMS.2.2.1 hMS.2.2.2 hp73 eq76 eq77) (by first | exact i82_2 | (rw [iq_le] at cq68; omega)) (iq_up hm82 cq87 eq98) _ (lv_sub hl [1, 2, 3, 4, 5, 0] rfl)
      refine lv_iload hx hb dX6_odds_65 (lv_at hl 4 rfl) ?_
      refine lv_iload_n hx hb dX6_odds_67 rfl (lv_at hl 1 rfl) ?_
      refine lv_icmp_ge (tgt := 212) hx hb dX6_odds_68 (by decide) (fun cq68 => ?_) (fun cq68 => ?_)
      · skip
        refine lv_aload_n hx hb dX6_odds_212 rfl (lv_at hl 0 rfl) ?_
        refine va_get (D := K.1) (ci := 6) (v := .ref (a 7)) (C := RX6) (T := TX6) (N := 12) hx hb hts hinX6 hown hK hP 0 rfl rfl 9 (by decide) (hts (.fieldLink RX6 29 "CodedWordsModel" "ways" "[J") (by decide +kernel)) (fun _ h9 => h9) rfl dX6_odds_213 ?_
        refine lv_iconst (v := 0) hx hb dX6_odds_216 (by decide) ?_
        refine va_lald hx hb hK hP 7 1 rfl rfl (iq_in (by decide) (by decide)) dX6_odds_217 ?_
        refine lv_topl (fun vq217 eq217 => ?_)
        refine lv_lload_n hx hb dX6_odds_218 rfl (lv_at hl 3 rfl) ?_
        refine r_l (va_runS (As := [.long vq217, .long zq3]) (rest := []) ⟨hx, hb, hml, hown, hts⟩ (k_X6_gcd l vq217 zq3) (va_cwS 2 hts gX6_odds_X6_gcd rfl rfl rfl (by decide +kernel) ⟨Nat.le_of_ble_eq_true rfl, Nat.le_of_ble_eq_true rfl⟩) (pPreS) rfl rfl hl.1 rfl (lv_room (Nat.le_of_ble_eq_true rfl)) dX6_odds_219 ⟨Nat.le_of_ble_eq_true rfl, Nat.le_of_ble_eq_true rfl⟩) hP hS (fun rq219 H locs hp219 hP hS => ?_)
        refine lv_lstore (lv' := [(5, .long rq219), (0, .ref (a 0)), (1, .int pq1), (2, .int pq2), (3, .long zq3)]) hx hb dX6_odds_222 hl (by decide) rfl (fun ls hl => ?_)
        refine lv_iload_n hx hb dX6_odds_224 rfl (lv_at hl 3 rfl) ?_
        refine lv_if_ne (tgt := 240) hx hb dX6_odds_225 (by decide) (fun cq225 => ?_) (fun cq225 => ?_)
        · skip
          refine lv_lload_n hx hb dX6_odds_240 rfl (lv_at hl 4 rfl) ?_
          refine lv_lload hx hb dX6_odds_241 (lv_at hl 0 rfl) ?_
          refine lv_ldiv hx hb dX6_odds_243 (hp219 (fun h => by have h2 := i65_2.1; rw [h] at h2; exact absurd h2 (by decide))) ?_
          refine lv_topl (fun vq243 eq243 => ?_)
          refine lv_l2i (v := (vq243 : Int64).toInt32) hx hb dX6_odds_244 rfl ?_
          refine lv_topi (fun vq244 eq244 => ?_)
          exact W.iret (v := vq244) hx hb hr (fun t ht hW => ⟨⟨vq244, (thL, umL, smL, sL, uL, kL, iL, wL, fL, cL, yL, tL), rfl, ⟨trivial, ⟨hMS, hMU, hMM, hMR, hMK, hMZ⟩⟩, by rw [ht]; exact hP, hD⟩, hS.F ht⟩) hS.2.2 dX6_odds_245
        · skip
          refine lv_aload_n hx hb dX6_odds_228 rfl (lv_at hl 1 rfl) ?_
          refine va_get (D := K.1) (ci := 6) (v := .ref (a 7)) (C := RX6) (T := TX6) (N := 12) hx hb hts hinX6 hown hK hP 0 rfl rfl 9 (by decide) (hts (.fieldLink RX6 29 "CodedWordsModel" "ways" "[J") (by decide +kernel)) (fun _ h9 => h9) rfl dX6_odds_229 ?_
          refine lv_iconst (v := 0) hx hb dX6_odds_232 (by decide) ?_
          refine va_lald hx hb hK hP 7 1 rfl rfl (iq_in (by decide) (by decide)) dX6_odds_233 ?_
          refine lv_topl (fun vq233 eq233 => ?_)
          refine lv_lload hx hb dX6_odds_234 (lv_at hl 0 rfl) ?_
          refine lv_ldiv hx hb dX6_odds_236 (hp219 (fun h => by have h2 := i65_2.1; rw [h] at h2; exact absurd h2 (by decide))) ?_
          refine lv_topl (fun vq236 eq236 => ?_)
          refine lv_goto (tgt := 244) hx hb dX6_odds_237 (by decide) ?_
          refine lv_l2i (v := (vq236 : Int64).toInt32) hx hb dX6_odds_244 rfl ?_
          refine lv_topi (fun vq244 eq244 => ?_)
          exact W.iret (v := vq244) hx hb hr (fun t ht hW => ⟨⟨vq244, (thL, umL, smL, sL, uL, kL, iL, wL, fL, cL, yL, tL), rfl, ⟨trivial, ⟨hMS, hMU, hMM, hMR, hMK, hMZ⟩⟩, by rw [ht]; exact hP, hD⟩, hS.F ht⟩) hS.2.2 dX6_odds_245
      · skip
        refine lv_lload_n hx hb dX6_odds_71 rfl (lv_at hl 3 rfl) ?_
        refine lv_aload_n hx hb dX6_odds_72 rfl (lv_at hl 0 rfl) ?_
        refine r_i (K := K) (w := mW K a thL umL smL sL uL kL iL wL fL cL yL tL) (va_runV (As := []) (rest := [.long zq3]) ⟨hx, hb, hml, hown, hts⟩ (k_X6_strikeMany l hMS) (cwV 0 hts gX6_odds_X6_strikeMany rfl rfl rfl (by decide +kernel) ⟨Nat.le_of_ble_eq_true rfl, Nat.le_of_ble_eq_true rfl⟩) (rPreV (m_rcv hK hP) hP hK hD hN) rfl rfl hl.1 rfl (lv_room (Nat.le_of_ble_eq_true rfl)) dX6_odds_73 ⟨Nat.le_of_ble_eq_true rfl, Nat.le_of_ble_eq_true rfl⟩) hP hS (fun rq73 H locs hp73 hP hS => ?_)
        refine lv_i2l (v := (rq73 : Int32).toInt64) hx hb dX6_odds_76 rfl ?_
        refine lv_topl (fun vq76 eq76 => ?_)
        refine lv_lmul hx hb dX6_odds_77 ?_
        refine lv_topl (fun vq77 eq77 => ?_)
        refine lv_lstore_n (lv' := [(3, .long vq77), (0, .ref (a 0)), (1, .int pq1), (2, .int pq2), (5, .int zq5)]) hx hb dX6_odds_78 rfl hl (by decide) rfl (fun ls hl => ?_)
        refine lv_iconst (v := 0) hx hb dX6_odds_79 (by decide) ?_
        refine lv_istore (lv' := [(6, .int 0), (3, .long vq77), (0, .ref (a 0)), (1, .int pq1), (2, .int pq2), (5, .int zq5)]) hx hb dX6_odds_80 hl (by decide) rfl (fun ls hl => ?_)
        exact hJ82 ((2147483647 - (0 : Int32).toInt).toNat + 1) thL umL smL sL uL kL iL wL fL cL yL tL _ _ vq77 0 hP hD hS hMS hMU hMM hMR hMK hMZ (by first | exact iq_nn1 i82_0 cq87 eq98 | decide) (by first | exact i82_1 | exact lq_whole (k := zq5.toInt.toNat) (by rw [iq_le] at cq68; omega) i65_2 hMS.2.2.1 hMS.2.2.2 hp73 eq76 eq77) (by first | exact i82_2 | (rw [iq_le] at cq68; omega)) (Nat.lt_succ_self _) _ (lv_sub hl [2, 3, 4, 1, 5, 0] rfl)
  have hJ31 : ∀ (n31 : Nat) (thL : Int32) (umL : Int32) (smL : Int32) (sL : Nat → Int32) (uL : Nat → Int32) (kL : Nat → Int32) (iL : Nat → Int32) (wL : Nat → Int32) (fL : Nat → Int32) (cL : Nat → Int32) (yL : Nat → Int64) (tL : Nat → Int64) (H : Heap) (locs : List Loc) (zq3 : Int64) (zq5 : Int32), (va_P K.1 vwCl (mW K a thL umL smL sL uL kL iL wL fL cL yL tL) H) → (va_D A (mW K a thL umL smL sL uL kL iL wL fL cL yL tL)) → (va_S A s.heap H locs) → (okS sL) → (okU umL) → (okM smL) → (okR umL uL) → (okK kL iL) → (okZ K smL wL fL) → (0 ≤ zq5.toInt) → (pq1.toInt ≤ 4) → (zq3 = 1) → ((2147483647 - zq5.toInt).toNat < n31) → ∀ (ls : Array Slot), lv_has ls 8 [(0, .ref (a 0)), (1, .int pq1), (2, .int pq2), (3, .long zq3), (5, .int zq5)] → W p l e rmX6_odds s m [.ref (a 0), .int pq1, .int pq2].toArray below meth c H locs 0 0 (MQ below (va_Qi (fun (r : Int32) (u : MZ) => (fun _ _ => True) r u ∧ MI (K) u) (fun u t => va_P K.1 vwCl (mZ K a u) t.heap ∧ va_D A (mZ K a u)) A) [.ref (a 0), .int pq1, .int pq2].toArray s 0 0 A) (F0 m 31 ls []) := by
    intro n31
    induction n31 with
    | zero =>
      intro thL umL smL sL uL kL iL wL fL cL yL tL H locs zq3 zq5 hP hD hS hMS hMU hMM hMR hMK hMZ i31_0 i31_1 i31_2 hm31 ls hl
      exact absurd hm31 (Nat.not_lt_zero _)
    | succ n31 ih31 =>
      intro thL umL smL sL uL kL iL wL fL cL yL tL H locs zq3 zq5 hP hD hS hMS hMU hMM hMR hMK hMZ i31_0 i31_1 i31_2 hm31 ls hl
      refine lv_iload hx hb dX6_odds_31 (lv_at hl 4 rfl) ?_
      refine lv_sipush (v := 200) hx hb dX6_odds_33 (by decide) ?_
      refine lv_icmp_ge (tgt := 62) hx hb dX6_odds_36 (by decide) (fun cq36 => ?_) (fun cq36 => ?_)
      · skip
        refine lv_iconst (v := 0) hx hb dX6_odds_62 (by decide) ?_
        refine lv_istore (lv' := [(5, .int 0), (0, .ref (a 0)), (1, .int pq1), (2, .int pq2), (3, .long zq3)]) hx hb dX6_odds_63 hl (by decide) rfl (fun ls hl => ?_)
        exact hJ65 ((2147483647 - (0 : Int32).toInt).toNat + 1) thL umL smL sL uL kL iL wL fL cL yL tL _ _ zq3 0 hP hD hS hMS hMU hMM hMR hMK hMZ (by first | decide | (have h := iq_add1 eq206 (by omega); omega)) (by first | exact i65_1 | exact i31_1) (by first | (rw [i31_2]; exact ⟨by decide, by decide⟩) | (have h := iq_add1 eq206 (by omega); rw [show vq206.toInt.toNat = zq5.toInt.toNat + 1 by omega]; exact i178_1)) (Nat.lt_succ_self _) _ (lv_sub hl [1, 2, 3, 4, 0] rfl)
      · skip
        refine lv_aload_n hx hb dX6_odds_39 rfl (lv_at hl 0 rfl) ?_
        refine va_get (D := K.1) (ci := 6) (v := .ref (a 7)) (C := RX6) (T := TX6) (N := 12) hx hb hts hinX6 hown hK hP 0 rfl rfl 9 (by decide) (hts (.fieldLink RX6 29 "CodedWordsModel" "ways" "[J") (by decide +kernel)) (fun _ h9 => h9) rfl dX6_odds_40 ?_
        refine lv_iload hx hb dX6_odds_43 (lv_at hl 4 rfl) ?_
        refine lv_iload hx hb dX6_odds_45 (lv_at hl 4 rfl) ?_
        refine lv_if_ne (tgt := 54) hx hb dX6_odds_47 (by decide) (fun cq47 => ?_) (fun cq47 => ?_)
        · skip
          refine lv_lconst (v := 0) hx hb dX6_odds_54 (by decide) ?_
          refine va_last hx hb hK hP hD hS 7 1 rfl rfl (iq_inr i31_0 cq36 (by decide)) dX6_odds_55 (fun H locs hP hD hS => ?_)
          have hP : va_P K.1 vwCl (mW K a thL umL smL sL uL kL iL wL fL cL (vp_updL yL (zq5 : Int32).toNatClampNeg 0) tL) H := hP
          have hD : va_D A (mW K a thL umL smL sL uL kL iL wL fL cL (vp_updL yL (zq5 : Int32).toNatClampNeg 0) tL) := hD
          generalize en55 : vp_updL yL (zq5 : Int32).toNatClampNeg 0 = yN55 at hP hD
          obtain ⟨vq56, eq56⟩ : ∃ y : Int32, y = zq5 + 1 := ⟨_, rfl⟩
          refine lv_iinc (v := vq56) (lv' := [(5, .int vq56), (0, .ref (a 0)), (1, .int pq1), (2, .int pq2), (3, .long zq3)]) hx hb dX6_odds_56 hl (k := 4) rfl (by rw [eq56]; rfl) (by decide) rfl (fun ls hl => ?_)
          refine lv_goto (tgt := 31) hx hb dX6_odds_59 (by decide) ?_
          exact ih31 thL umL smL sL uL kL iL wL fL cL yN55 tL _ _ zq3 vq56 hP hD hS hMS hMU hMM hMR hMK hMZ (by first | exact iq_nn1 i31_0 cq36 eq56 | decide) (by first | exact i31_1 | exact (by have h := (hp8.resolve_left (fun q => cq11 q.1)).2.2; rw [iq_le] at h; exact h)) (by first | exact i31_2 | rfl) (iq_up hm31 cq36 eq56) _ (lv_sub hl [1, 2, 3, 4, 0] rfl)
        · skip
          refine lv_lconst (v := 1) hx hb dX6_odds_50 (by decide) ?_
          refine lv_goto (tgt := 55) hx hb dX6_odds_51 (by decide) ?_
          refine va_last hx hb hK hP hD hS 7 1 rfl rfl (iq_inr i31_0 cq36 (by decide)) dX6_odds_55 (fun H locs hP hD hS => ?_)
          have hP : va_P K.1 vwCl (mW K a thL umL smL sL uL kL iL wL fL cL (vp_updL yL (zq5 : Int32).toNatClampNeg 1) tL) H := hP
          have hD : va_D A (mW K a thL umL smL sL uL kL iL wL fL cL (vp_updL yL (zq5 : Int32).toNatClampNeg 1) tL) := hD
          generalize en55 : vp_updL yL (zq5 : Int32).toNatClampNeg 1 = yN55 at hP hD
          obtain ⟨vq56, eq56⟩ : ∃ y : Int32, y = zq5 + 1 := ⟨_, rfl⟩
          refine lv_iinc (v := vq56) (lv' := [(5, .int vq56), (0, .ref (a 0)), (1, .int pq1), (2, .int pq2), (3, .long zq3)]) hx hb dX6_odds_56 hl (k := 4) rfl (by rw [eq56]; rfl) (by decide) rfl (fun ls hl => ?_)
          refine lv_goto (tgt := 31) hx hb dX6_odds_59 (by decide) ?_
          exact ih31 thL umL smL sL uL kL iL wL fL cL yN55 tL _ _ zq3 vq56 hP hD hS hMS hMU hMM hMR hMK hMZ (by first | exact iq_nn1 i31_0 cq36 eq56 | decide) (by first | exact i31_1 | exact (by have h := (hp8.resolve_left (fun q => cq11 q.1)).2.2; rw [iq_le] at h; exact h)) (by first | exact i31_2 | rfl) (iq_up hm31 cq36 eq56) _ (lv_sub hl [1, 2, 3, 4, 0] rfl)
  refine lv_aload_n hx hb dX6_odds_0 rfl (lv_at hl 0 rfl) ?_
  refine lv_iconst (v := 0) hx hb dX6_odds_1 (by decide) ?_
  refine va_put (D := K.1) (ci := 6) (v := .int 0) (ty := .int) (C := RX6) (T := TX6) (N := 12) hx hb hts hinX6 tyX6 tyX6_ok nmX6 hown hK hP hD hS 0 rfl rfl 0 (by decide) (hts (.fieldLink RX6 39 "CodedWordsModel" "thrown" "I") (by decide +kernel)) (fun _ h9 => h9) rfl (by decide +kernel) rfl rfl (Nat.le_of_ble_eq_true rfl) dX6_odds_2 (fun H locs hP hD hS => ?_)
  have hP : va_P K.1 vwCl (mW K a 0 um sm sA uA kA iA wA fA cA yA tA) H := hP
  have hD : va_D A (mW K a 0 um sm sA uA kA iA wA fA cA yA tA) := hD
  refine lv_iload_n hx hb dX6_odds_5 rfl (lv_at hl 1 rfl) ?_
  refine lv_iconst (v := 1) hx hb dX6_odds_6 (by decide) ?_
  refine lv_iconst (v := 4) hx hb dX6_odds_7 (by decide) ?_
  refine r_i (va_runS (As := [.int pq1, .int 1, .int 4]) (rest := []) ⟨hx, hb, hml, hown, hts⟩ (k_X6_in l pq1 1 4) (va_cwS 3 hts gX6_odds_X6_in rfl rfl rfl (by decide +kernel) ⟨Nat.le_of_ble_eq_true rfl, Nat.le_of_ble_eq_true rfl⟩) (pPreS) rfl rfl hl.1 rfl (lv_room (Nat.le_of_ble_eq_true rfl)) dX6_odds_8 ⟨Nat.le_of_ble_eq_true rfl, Nat.le_of_ble_eq_true rfl⟩) hP hS (fun rq8 H locs hp8 hP hS => ?_)
  refine lv_if_eq (tgt := 23) hx hb dX6_odds_11 (by decide) (fun cq11 => ?_) (fun cq11 => ?_)
  · skip
    refine lv_ldc (v := (-1000001)) hx hb hown (hts (.constant RX6 71 (-1000001)) (by decide +kernel)) dX6_odds_23 ?_
    exact W.iret (v := (-1000001)) hx hb hr (fun t ht hW => ⟨⟨(-1000001), (0, um, sm, sA, uA, kA, iA, wA, fA, cA, yA, tA), rfl, ⟨trivial, ⟨hMS, hMU, hMM, hMR, hMK, hMZ⟩⟩, by rw [ht]; exact hP, hD⟩, hS.F ht⟩) hS.2.2 dX6_odds_25
  · skip
    refine lv_iload_n hx hb dX6_odds_14 rfl (lv_at hl 2 rfl) ?_
    refine lv_iconst (v := 0) hx hb dX6_odds_15 (by decide) ?_
    refine lv_iconst (v := 1) hx hb dX6_odds_16 (by decide) ?_
    refine r_i (va_runS (As := [.int pq2, .int 0, .int 1]) (rest := []) ⟨hx, hb, hml, hown, hts⟩ (k_X6_in l pq2 0 1) (va_cwS 3 hts gX6_odds_X6_in rfl rfl rfl (by decide +kernel) ⟨Nat.le_of_ble_eq_true rfl, Nat.le_of_ble_eq_true rfl⟩) (pPreS) rfl rfl hl.1 rfl (lv_room (Nat.le_of_ble_eq_true rfl)) dX6_odds_17 ⟨Nat.le_of_ble_eq_true rfl, Nat.le_of_ble_eq_true rfl⟩) hP hS (fun rq17 H locs hp17 hP hS => ?_)
    refine lv_if_ne (tgt := 26) hx hb dX6_odds_20 (by decide) (fun cq20 => ?_) (fun cq20 => ?_)
    · skip
      refine lv_lconst (v := 1) hx hb dX6_odds_26 (by decide) ?_
      refine lv_lstore_n (lv' := [(3, .long 1), (0, .ref (a 0)), (1, .int pq1), (2, .int pq2)]) hx hb dX6_odds_27 rfl hl (by decide) rfl (fun ls hl => ?_)
      refine lv_iconst (v := 0) hx hb dX6_odds_28 (by decide) ?_
      refine lv_istore (lv' := [(5, .int 0), (3, .long 1), (0, .ref (a 0)), (1, .int pq1), (2, .int pq2)]) hx hb dX6_odds_29 hl (by decide) rfl (fun ls hl => ?_)
      exact hJ31 ((2147483647 - (0 : Int32).toInt).toNat + 1) 0 um sm sA uA kA iA wA fA cA yA tA _ _ 1 0 hP hD hS hMS hMU hMM hMR hMK hMZ (by first | exact iq_nn1 i31_0 cq36 eq56 | decide) (by first | exact i31_1 | exact (by have h := (hp8.resolve_left (fun q => cq11 q.1)).2.2; rw [iq_le] at h; exact h)) (by first | exact i31_2 | rfl) (Nat.lt_succ_self _) _ (lv_sub hl [2, 3, 4, 1, 0] rfl)
    · skip
      refine lv_ldc (v := (-1000001)) hx hb hown (hts (.constant RX6 71 (-1000001)) (by decide +kernel)) dX6_odds_23 ?_
      exact W.iret (v := (-1000001)) hx hb hr (fun t ht hW => ⟨⟨(-1000001), (0, um, sm, sA, uA, kA, iA, wA, fA, cA, yA, tA), rfl, ⟨trivial, ⟨hMS, hMU, hMM, hMR, hMK, hMZ⟩⟩, by rw [ht]; exact hP, hD⟩, hS.F ht⟩) hS.2.2 dX6_odds_25

set_option maxHeartbeats 8000000 in
set_option maxRecDepth 100000 in
theorem law_loop {p : Program} {l : Launch} {e : Env} {s : State} {m : MethodId} {below : List Frame} {meth : Method} {c : Code} {b L : Nat} {xs : Nat → Int32} (hL : L ≤ 2048) (C0 : lw_At p s m meth c b L xs) (hN : NW s) :
    ∀ (n : Nat) (K : Cx) (zq3 : Int32) (cN sN : Nat) (G : Nat → Nat) (w : va_W) (a : Nat → Nat) (z : MZ) (h1 : Nat) (H : Heap) (locs : List Loc), va_K K.1 vwCl (tyL K) s → 0 ≤ zq3.toInt → zq3.toInt ≤ L → (L - zq3.toInt).toNat < n → (cN : Int) ≤ 61 + 3 * zq3.toInt → (sN : Int) ≤ 1470 + 12 * zq3.toInt → TH K G w → G h1 = 6 → MI K z → va_P K.1 vwCl w H → va_D (fun q : Nat => s.heap.size ≤ q) w → va_P K.1 vwCl (mZ K a z) H → va_D (fun q : Nat => s.heap.size ≤ q) (mZ K a z) → dj w (mZ K a z) → va_S (fun q : Nat => s.heap.size ≤ q) s.heap H locs → ∀ (ls : Array Slot), lv_has ls 4 [(0, .ref b), (1, .ref h1), (2, .ref (a 0)), (3, .int zq3)] → W p l e room_1 s m #[Value.ref b] below meth c H locs cN sN (lw_Z below #[Value.ref b] s) (F0 m 18 ls []) := by
  obtain ⟨hx, hb, hr, hml, hown, hts, hX, hbl, hlocks, hgv⟩ := C0
  have hb : c.code = cL_law := hb
  have hown : s.vm.findClass RL = some m.cls := hown
  have htl : ∀ w ∈ wsL_law, w.before #[Value.ref b] s = true := fun w h => hts w (wsL_law_in w h)
  have hA : ∀ q : Nat, s.heap.size ≤ q → (fun q : Nat => s.heap.size ≤ q) q := fun _ h => h
  have hbA : ¬ (fun q : Nat => s.heap.size ≤ q) b := Nat.not_le.mpr hbl
  intro n
  induction n with
  | zero =>
    intro K zq3 cN sN G w a z h1 H locs hK hz0 hzL hm hcN hsN hT g_h1 hM hP hD hPm hDm hdj hS ls hl
    exact absurd hm (Nat.not_lt_zero _)
  | succ n ih =>
    intro K zq3 cN sN G w a z h1 H locs hK hz0 hzL hm hcN hsN hT g_h1 hM hP hD hPm hDm hdj hS ls hl
    have hend : zq3.toInt + 4 ≤ L → ∀ (K : Cx) (cE sE : Nat) (G : Nat → Nat) (w : va_W) (z : MZ) (H : Heap) (locs : List Loc), cE ≤ cN + 3 → sE ≤ sN + 12 → TH K G w → va_K K.1 vwCl (tyL K) s → G h1 = 6 → MI K z → va_P K.1 vwCl w H → va_D (fun q : Nat => s.heap.size ≤ q) w → va_P K.1 vwCl (mZ K a z) H → va_D (fun q : Nat => s.heap.size ≤ q) (mZ K a z) → dj w (mZ K a z) → va_S (fun q : Nat => s.heap.size ≤ q) s.heap H locs → ∀ (ls : Array Slot), lv_has ls 4 [(0, .ref b), (1, .ref h1), (2, .ref (a 0)), (3, .int zq3)] → W p l e room_1 s m #[Value.ref b] below meth c H locs cE sE (lw_Z below #[Value.ref b] s) (F0 m 759 ls []) := by
      intro hgo K cE sE G w z H locs hc2 hs2 hT hK g_h1 hM hP hD hPm hDm hdj hS ls hl
      obtain ⟨vq759, eq759⟩ : ∃ y : Int32, y = zq3 + 4 := ⟨_, rfl⟩
      refine lv_iinc (v := vq759) (lv' := [(3, .int vq759), (0, .ref b), (1, .ref h1), (2, .ref (a 0))]) hx hb dL_law_759 hl (k := 3) rfl (by rw [eq759]; rfl) (by decide) rfl (fun ls hl => ?_)
      refine lv_goto (tgt := 18) hx hb dL_law_762 (by decide) ?_
      have hv := iq_add4 eq759 (by omega) hz0
      exact ih K vq759 cE sE G w a z h1 H locs hK (by omega) (by omega) (by omega) (by omega) (by omega) hT g_h1 hM hP hD hPm hDm hdj hS ls (lv_sub hl [1, 2, 3, 0] rfl)
    obtain ⟨th, um, sm, sA, uA, kA, iA, wA, fA, cA, yA, tA⟩ := z
    refine lv_iload_n hx hb dL_law_18 rfl (lv_at hl 3 rfl) ?_
    refine lv_aload_n hx hb dL_law_19 rfl (lv_at hl 0 rfl) ?_
    refine va_slen hx hb hX hbl hbA hS dL_law_20 ?_
    refine lv_iconst (v := 4) hx hb dL_law_21 (by decide) ?_
    refine lv_isub hx hb dL_law_22 ?_
    refine lv_topi (fun vq22 eq22 => ?_)
    refine lv_icmp_gt (tgt := 765) hx hb dL_law_23 (by decide) (fun cq23 => ?_) (fun cq23 => ?_)
    · skip
      refine lv_iconst (v := 1) hx hb dL_law_765 (by decide) ?_
      refine va_forget (fun q hq => hS.2.2 q hq) ?_
      refine W.widen (k := 600000) (n := 7302250) (by omega) (by omega) ?_
      exact lw_ret hx hb hr hlocks dL_law_766
    · skip
      have hgo : zq3.toInt + 4 ≤ L := law_go hL eq22 cq23
      refine lv_aload_n hx hb dL_law_26 rfl (lv_at hl 0 rfl) ?_
      refine lv_iload_n hx hb dL_law_27 rfl (lv_at hl 3 rfl) ?_
      refine va_sld hx hb hX hbl hbA hS (iq_in hz0 (by omega)) dL_law_28 ?_
      refine lv_topi (fun vq28 eq28 => ?_)
      refine lv_bipush (v := 31) hx hb dL_law_29 (by decide) ?_
      refine lv_iand hx hb dL_law_31 ?_
      refine lv_topi (fun vq31 eq31 => ?_)
      rcases (show (vq31.toInt < 0 ∨ 22 < vq31.toInt) ∨ vq31.toInt = 0 ∨ vq31.toInt = 1 ∨ vq31.toInt = 2 ∨ vq31.toInt = 3 ∨ vq31.toInt = 4 ∨ vq31.toInt = 5 ∨ vq31.toInt = 6 ∨ vq31.toInt = 7 ∨ vq31.toInt = 8 ∨ vq31.toInt = 9 ∨ vq31.toInt = 10 ∨ vq31.toInt = 11 ∨ vq31.toInt = 12 ∨ vq31.toInt = 13 ∨ vq31.toInt = 14 ∨ vq31.toInt = 15 ∨ vq31.toInt = 16 ∨ vq31.toInt = 17 ∨ vq31.toInt = 18 ∨ vq31.toInt = 19 ∨ vq31.toInt = 20 ∨ vq31.toInt = 21 ∨ vq31.toInt = 22 by omega) with tq32 | tq32 | tq32 | tq32 | tq32 | tq32 | tq32 | tq32 | tq32 | tq32 | tq32 | tq32 | tq32 | tq32 | tq32 | tq32 | tq32 | tq32 | tq32 | tq32 | tq32 | tq32 | tq32 | tq32
      · skip
        refine lv_tableOut (tgt := 759) hx hb dL_law_32 tq32 (by decide) ?_
        exact hend hgo K cN sN G w _ H locs (by omega) (by omega) hT hK g_h1 hM hP hD hPm hDm hdj hS ls (lv_sub hl [0, 1, 2, 3] rfl)
      · skip
        refine lv_tableIn (off := 108) (tgt := 140) hx hb dL_law_32 (by omega) (by omega) (by rw [tq32]; rfl) (by decide) ?_
        refine lv_aload_n hx hb dL_law_140 rfl (lv_at hl 1 rfl) ?_
        refine lv_aload_n hx hb dL_law_141 rfl (lv_at hl 0 rfl) ?_
        refine lv_iload_n hx hb dL_law_142 rfl (lv_at hl 3 rfl) ?_
        refine lv_iconst (v := 1) hx hb dL_law_143 (by decide) ?_
        refine lv_iadd hx hb dL_law_144 ?_
        refine lv_topi (fun vq144 eq144 => ?_)
        refine va_sld hx hb hX hbl hbA hS (law_in hL hz0 hgo (by decide) (by decide) eq144) dL_law_145 ?_
        refine lv_topi (fun vq145 eq145 => ?_)
        refine lv_aload_n hx hb dL_law_146 rfl (lv_at hl 0 rfl) ?_
        refine lv_iload_n hx hb dL_law_147 rfl (lv_at hl 3 rfl) ?_
        refine lv_iconst (v := 2) hx hb dL_law_148 (by decide) ?_
        refine lv_iadd hx hb dL_law_149 ?_
        refine lv_topi (fun vq149 eq149 => ?_)
        refine va_sld hx hb hX hbl hbA hS (law_in hL hz0 hgo (by decide) (by decide) eq149) dL_law_150 ?_
        refine lv_topi (fun vq150 eq150 => ?_)
        refine l_ci (K := K) (K2 := K) (G := G) (w := w) (w2 := mZ K a (th, um, sm, sA, uA, kA, iA, wA, fA, cA, yA, tA)) (post := fun (r : Int32) _ _ => cdA vq145 vq150 r) (va_runV (mc := 0) (ms := 0) (rm := rmX5_codes) (As := [.int vq145, .int vq150]) (rest := []) ⟨hx, hb, hml, hown, htl⟩ (k_X5_codes l hT H.size g_h1 vq145 vq150) (cwV 2 htl gL_law_X5_codes rfl rfl rfl (by decide +kernel) ⟨Nat.le_of_ble_eq_true rfl, Nat.le_of_ble_eq_true rfl⟩) (kPreV (hT.rcv6 g_h1 hK hP) hP hK hD hN) rfl rfl hl.1 rfl (lv_room (Nat.le_of_ble_eq_true rfl)) dL_law_151 ⟨show cN + 0 ≤ 600000 by omega, show sN + 0 ≤ 7302250 by omega⟩) hD hS hA hPm hdj (fun rq151 G w H locs hp151 hg hT hP hD hPm hdj hS => ?_)
        have g_h1 := hg.at g_h1 (by decide)
        refine lv_pop hx hb dL_law_154 rfl ?_
        refine lv_aload_n hx hb dL_law_155 rfl (lv_at hl 2 rfl) ?_
        refine lv_aload_n hx hb dL_law_156 rfl (lv_at hl 0 rfl) ?_
        refine lv_iload_n hx hb dL_law_157 rfl (lv_at hl 3 rfl) ?_
        refine lv_iconst (v := 1) hx hb dL_law_158 (by decide) ?_
        refine lv_iadd hx hb dL_law_159 ?_
        refine lv_topi (fun vq159 eq159 => ?_)
        refine va_sld hx hb hX hbl hbA hS (law_in hL hz0 hgo (by decide) (by decide) eq159) dL_law_160 ?_
        refine lv_topi (fun vq160 eq160 => ?_)
        refine lv_aload_n hx hb dL_law_161 rfl (lv_at hl 0 rfl) ?_
        refine lv_iload_n hx hb dL_law_162 rfl (lv_at hl 3 rfl) ?_
        refine lv_iconst (v := 2) hx hb dL_law_163 (by decide) ?_
        refine lv_iadd hx hb dL_law_164 ?_
        refine lv_topi (fun vq164 eq164 => ?_)
        refine va_sld hx hb hX hbl hbA hS (law_in hL hz0 hgo (by decide) (by decide) eq164) dL_law_165 ?_
        refine lv_topi (fun vq165 eq165 => ?_)
        refine l_mi (K := K) (K2 := K) (a := a) (w := mZ K a (th, um, sm, sA, uA, kA, iA, wA, fA, cA, yA, tA)) (w2 := w) (post := fun (r : Int32) _ => cdA vq160 vq165 r) (va_runV (mc := 0) (ms := 0) (rm := rmX6_codes) (As := [.int vq160, .int vq165]) (rest := []) ⟨hx, hb, hml, hown, htl⟩ (k_X6_codes l (a := a) hM H.size vq160 vq165) (cwV 2 htl gL_law_X6_codes rfl rfl rfl (by decide +kernel) ⟨Nat.le_of_ble_eq_true rfl, Nat.le_of_ble_eq_true rfl⟩) (kPreV (m_rcv hK hPm) hPm hK hDm hN) rfl rfl hl.1 rfl (lv_room (Nat.le_of_ble_eq_true rfl)) dL_law_166 ⟨show cN + 0 ≤ 600000 by omega, show sN + 0 ≤ 7302250 by omega⟩) hDm hS hA hP hdj.sym (fun rq166 uq166 H locs hp166 hM hPm hDm hP hdj hS => ?_)
        have hdj := hdj.sym
        refine lv_pop hx hb dL_law_169 rfl ?_
        refine lv_goto (tgt := 759) hx hb dL_law_170 (by decide) ?_
        exact hend hgo (K) cN sN G w _ H locs (by omega) (by omega) hT hK g_h1 hM hP hD hPm hDm hdj hS ls (lv_sub hl [0, 1, 2, 3] rfl)
      · skip
        refine lv_tableIn (off := 141) (tgt := 173) hx hb dL_law_32 (by omega) (by omega) (by rw [tq32]; rfl) (by decide) ?_
        refine lv_aload_n hx hb dL_law_173 rfl (lv_at hl 1 rfl) ?_
        refine lv_aload_n hx hb dL_law_174 rfl (lv_at hl 0 rfl) ?_
        refine lv_iload_n hx hb dL_law_175 rfl (lv_at hl 3 rfl) ?_
        refine lv_iconst (v := 1) hx hb dL_law_176 (by decide) ?_
        refine lv_iadd hx hb dL_law_177 ?_
        refine lv_topi (fun vq177 eq177 => ?_)
        refine va_sld hx hb hX hbl hbA hS (law_in hL hz0 hgo (by decide) (by decide) eq177) dL_law_178 ?_
        refine lv_topi (fun vq178 eq178 => ?_)
        refine lv_aload_n hx hb dL_law_179 rfl (lv_at hl 0 rfl) ?_
        refine lv_iload_n hx hb dL_law_180 rfl (lv_at hl 3 rfl) ?_
        refine lv_iconst (v := 2) hx hb dL_law_181 (by decide) ?_
        refine lv_iadd hx hb dL_law_182 ?_
        refine lv_topi (fun vq182 eq182 => ?_)
        refine va_sld hx hb hX hbl hbA hS (law_in hL hz0 hgo (by decide) (by decide) eq182) dL_law_183 ?_
        refine lv_topi (fun vq183 eq183 => ?_)
        refine l_ci (K := K) (K2 := K) (G := G) (w := w) (w2 := mZ K a (th, um, sm, sA, uA, kA, iA, wA, fA, cA, yA, tA)) (post := fun _ _ _ => True) (va_runV (mc := 0) (ms := 0) (rm := rmX5_sets) (As := [.int vq178, .int vq183]) (rest := []) ⟨hx, hb, hml, hown, htl⟩ (k_X5_sets l hT H.size g_h1 vq178 vq183) (cwV 2 htl gL_law_X5_sets rfl rfl rfl (by decide +kernel) ⟨Nat.le_of_ble_eq_true rfl, Nat.le_of_ble_eq_true rfl⟩) (kPreV (hT.rcv6 g_h1 hK hP) hP hK hD hN) rfl rfl hl.1 rfl (lv_room (Nat.le_of_ble_eq_true rfl)) dL_law_184 ⟨show cN + 0 ≤ 600000 by omega, show sN + 0 ≤ 7302250 by omega⟩) hD hS hA hPm hdj (fun rq184 G w H locs hp184 hg hT hP hD hPm hdj hS => ?_)
        have g_h1 := hg.at g_h1 (by decide)
        refine lv_pop hx hb dL_law_187 rfl ?_
        refine lv_aload_n hx hb dL_law_188 rfl (lv_at hl 2 rfl) ?_
        refine lv_aload_n hx hb dL_law_189 rfl (lv_at hl 0 rfl) ?_
        refine lv_iload_n hx hb dL_law_190 rfl (lv_at hl 3 rfl) ?_
        refine lv_iconst (v := 1) hx hb dL_law_191 (by decide) ?_
        refine lv_iadd hx hb dL_law_192 ?_
        refine lv_topi (fun vq192 eq192 => ?_)
        refine va_sld hx hb hX hbl hbA hS (law_in hL hz0 hgo (by decide) (by decide) eq192) dL_law_193 ?_
        refine lv_topi (fun vq193 eq193 => ?_)
        refine lv_aload_n hx hb dL_law_194 rfl (lv_at hl 0 rfl) ?_
        refine lv_iload_n hx hb dL_law_195 rfl (lv_at hl 3 rfl) ?_
        refine lv_iconst (v := 2) hx hb dL_law_196 (by decide) ?_
        refine lv_iadd hx hb dL_law_197 ?_
        refine lv_topi (fun vq197 eq197 => ?_)
        refine va_sld hx hb hX hbl hbA hS (law_in hL hz0 hgo (by decide) (by decide) eq197) dL_law_198 ?_
        refine lv_topi (fun vq198 eq198 => ?_)
        refine l_mi (K := K) (K2 := K) (a := a) (w := mZ K a (th, um, sm, sA, uA, kA, iA, wA, fA, cA, yA, tA)) (w2 := w) (post := fun _ _ => True) (va_runV (mc := 0) (ms := 0) (rm := rmX6_sets) (As := [.int vq193, .int vq198]) (rest := []) ⟨hx, hb, hml, hown, htl⟩ (k_X6_sets l (a := a) hM H.size vq193 vq198) (cwV 2 htl gL_law_X6_sets rfl rfl rfl (by decide +kernel) ⟨Nat.le_of_ble_eq_true rfl, Nat.le_of_ble_eq_true rfl⟩) (kPreV (m_rcv hK hPm) hPm hK hDm hN) rfl rfl hl.1 rfl (lv_room (Nat.le_of_ble_eq_true rfl)) dL_law_199 ⟨show cN + 0 ≤ 600000 by omega, show sN + 0 ≤ 7302250 by omega⟩) hDm hS hA hP hdj.sym (fun rq199 uq199 H locs hp199 hM hPm hDm hP hdj hS => ?_)
        have hdj := hdj.sym
        refine lv_pop hx hb dL_law_202 rfl ?_
        refine lv_goto (tgt := 759) hx hb dL_law_203 (by decide) ?_
        exact hend hgo (K) cN sN G w _ H locs (by omega) (by omega) hT hK g_h1 hM hP hD hPm hDm hdj hS ls (lv_sub hl [0, 1, 2, 3] rfl)
      · skip
        refine lv_tableIn (off := 174) (tgt := 206) hx hb dL_law_32 (by omega) (by omega) (by rw [tq32]; rfl) (by decide) ?_
        refine lv_aload_n hx hb dL_law_206 rfl (lv_at hl 1 rfl) ?_
        refine lv_aload_n hx hb dL_law_207 rfl (lv_at hl 0 rfl) ?_
        refine lv_iload_n hx hb dL_law_208 rfl (lv_at hl 3 rfl) ?_
        refine lv_iconst (v := 1) hx hb dL_law_209 (by decide) ?_
        refine lv_iadd hx hb dL_law_210 ?_
        refine lv_topi (fun vq210 eq210 => ?_)
        refine va_sld hx hb hX hbl hbA hS (law_in hL hz0 hgo (by decide) (by decide) eq210) dL_law_211 ?_
        refine lv_topi (fun vq211 eq211 => ?_)
        refine lv_aload_n hx hb dL_law_212 rfl (lv_at hl 0 rfl) ?_
        refine lv_iload_n hx hb dL_law_213 rfl (lv_at hl 3 rfl) ?_
        refine lv_iconst (v := 2) hx hb dL_law_214 (by decide) ?_
        refine lv_iadd hx hb dL_law_215 ?_
        refine lv_topi (fun vq215 eq215 => ?_)
        refine va_sld hx hb hX hbl hbA hS (law_in hL hz0 hgo (by decide) (by decide) eq215) dL_law_216 ?_
        refine lv_topi (fun vq216 eq216 => ?_)
        refine lv_aload_n hx hb dL_law_217 rfl (lv_at hl 0 rfl) ?_
        refine lv_iload_n hx hb dL_law_218 rfl (lv_at hl 3 rfl) ?_
        refine lv_iconst (v := 3) hx hb dL_law_219 (by decide) ?_
        refine lv_iadd hx hb dL_law_220 ?_
        refine lv_topi (fun vq220 eq220 => ?_)
        refine va_sld hx hb hX hbl hbA hS (law_in hL hz0 hgo (by decide) (by decide) eq220) dL_law_221 ?_
        refine lv_topi (fun vq221 eq221 => ?_)
        refine l_ci (K := K) (K2 := K) (G := G) (w := w) (w2 := mZ K a (th, um, sm, sA, uA, kA, iA, wA, fA, cA, yA, tA)) (post := fun _ _ _ => True) (va_runV (mc := 0) (ms := 0) (rm := rmX5_does) (As := [.int vq211, .int vq216, .int vq221]) (rest := []) ⟨hx, hb, hml, hown, htl⟩ (k_X5_does l hT H.size g_h1 vq211 vq216 vq221) (cwV 3 htl gL_law_X5_does rfl rfl rfl (by decide +kernel) ⟨Nat.le_of_ble_eq_true rfl, Nat.le_of_ble_eq_true rfl⟩) (kPreV (hT.rcv6 g_h1 hK hP) hP hK hD hN) rfl rfl hl.1 rfl (lv_room (Nat.le_of_ble_eq_true rfl)) dL_law_222 ⟨show cN + 0 ≤ 600000 by omega, show sN + 0 ≤ 7302250 by omega⟩) hD hS hA hPm hdj (fun rq222 G w H locs hp222 hg hT hP hD hPm hdj hS => ?_)
        have g_h1 := hg.at g_h1 (by decide)
        refine lv_pop hx hb dL_law_225 rfl ?_
        refine lv_aload_n hx hb dL_law_226 rfl (lv_at hl 2 rfl) ?_
        refine lv_aload_n hx hb dL_law_227 rfl (lv_at hl 0 rfl) ?_
        refine lv_iload_n hx hb dL_law_228 rfl (lv_at hl 3 rfl) ?_
        refine lv_iconst (v := 1) hx hb dL_law_229 (by decide) ?_
        refine lv_iadd hx hb dL_law_230 ?_
        refine lv_topi (fun vq230 eq230 => ?_)
        refine va_sld hx hb hX hbl hbA hS (law_in hL hz0 hgo (by decide) (by decide) eq230) dL_law_231 ?_
        refine lv_topi (fun vq231 eq231 => ?_)
        refine lv_aload_n hx hb dL_law_232 rfl (lv_at hl 0 rfl) ?_
        refine lv_iload_n hx hb dL_law_233 rfl (lv_at hl 3 rfl) ?_
        refine lv_iconst (v := 2) hx hb dL_law_234 (by decide) ?_
        refine lv_iadd hx hb dL_law_235 ?_
        refine lv_topi (fun vq235 eq235 => ?_)
        refine va_sld hx hb hX hbl hbA hS (law_in hL hz0 hgo (by decide) (by decide) eq235) dL_law_236 ?_
        refine lv_topi (fun vq236 eq236 => ?_)
        refine lv_aload_n hx hb dL_law_237 rfl (lv_at hl 0 rfl) ?_
        refine lv_iload_n hx hb dL_law_238 rfl (lv_at hl 3 rfl) ?_
        refine lv_iconst (v := 3) hx hb dL_law_239 (by decide) ?_
        refine lv_iadd hx hb dL_law_240 ?_
        refine lv_topi (fun vq240 eq240 => ?_)
        refine va_sld hx hb hX hbl hbA hS (law_in hL hz0 hgo (by decide) (by decide) eq240) dL_law_241 ?_
        refine lv_topi (fun vq241 eq241 => ?_)
        refine l_mi (K := K) (K2 := K) (a := a) (w := mZ K a (th, um, sm, sA, uA, kA, iA, wA, fA, cA, yA, tA)) (w2 := w) (post := fun _ _ => True) (va_runV (mc := 0) (ms := 0) (rm := rmX6_does) (As := [.int vq231, .int vq236, .int vq241]) (rest := []) ⟨hx, hb, hml, hown, htl⟩ (k_X6_does l (a := a) hM H.size vq231 vq236 vq241) (cwV 3 htl gL_law_X6_does rfl rfl rfl (by decide +kernel) ⟨Nat.le_of_ble_eq_true rfl, Nat.le_of_ble_eq_true rfl⟩) (kPreV (m_rcv hK hPm) hPm hK hDm hN) rfl rfl hl.1 rfl (lv_room (Nat.le_of_ble_eq_true rfl)) dL_law_242 ⟨show cN + 0 ≤ 600000 by omega, show sN + 0 ≤ 7302250 by omega⟩) hDm hS hA hP hdj.sym (fun rq242 uq242 H locs hp242 hM hPm hDm hP hdj hS => ?_)
        have hdj := hdj.sym
        refine lv_pop hx hb dL_law_245 rfl ?_
        refine lv_goto (tgt := 759) hx hb dL_law_246 (by decide) ?_
        exact hend hgo (K) cN sN G w _ H locs (by omega) (by omega) hT hK g_h1 hM hP hD hPm hDm hdj hS ls (lv_sub hl [0, 1, 2, 3] rfl)
      · skip
        refine lv_tableIn (off := 217) (tgt := 249) hx hb dL_law_32 (by omega) (by omega) (by rw [tq32]; rfl) (by decide) ?_
        refine lv_aload_n hx hb dL_law_249 rfl (lv_at hl 1 rfl) ?_
        refine lv_aload_n hx hb dL_law_250 rfl (lv_at hl 0 rfl) ?_
        refine lv_iload_n hx hb dL_law_251 rfl (lv_at hl 3 rfl) ?_
        refine lv_iconst (v := 1) hx hb dL_law_252 (by decide) ?_
        refine lv_iadd hx hb dL_law_253 ?_
        refine lv_topi (fun vq253 eq253 => ?_)
        refine va_sld hx hb hX hbl hbA hS (law_in hL hz0 hgo (by decide) (by decide) eq253) dL_law_254 ?_
        refine lv_topi (fun vq254 eq254 => ?_)
        refine lv_aload_n hx hb dL_law_255 rfl (lv_at hl 0 rfl) ?_
        refine lv_iload_n hx hb dL_law_256 rfl (lv_at hl 3 rfl) ?_
        refine lv_iconst (v := 2) hx hb dL_law_257 (by decide) ?_
        refine lv_iadd hx hb dL_law_258 ?_
        refine lv_topi (fun vq258 eq258 => ?_)
        refine va_sld hx hb hX hbl hbA hS (law_in hL hz0 hgo (by decide) (by decide) eq258) dL_law_259 ?_
        refine lv_topi (fun vq259 eq259 => ?_)
        refine l_ci (K := K) (K2 := K) (G := G) (w := w) (w2 := mZ K a (th, um, sm, sA, uA, kA, iA, wA, fA, cA, yA, tA)) (post := fun _ _ _ => True) (va_runV (mc := 0) (ms := 0) (rm := rmX5_strikes) (As := [.int vq254, .int vq259]) (rest := []) ⟨hx, hb, hml, hown, htl⟩ (k_X5_strikes l hT H.size g_h1 vq254 vq259) (cwV 2 htl gL_law_X5_strikes rfl rfl rfl (by decide +kernel) ⟨Nat.le_of_ble_eq_true rfl, Nat.le_of_ble_eq_true rfl⟩) (kPreV (hT.rcv6 g_h1 hK hP) hP hK hD hN) rfl rfl hl.1 rfl (lv_room (Nat.le_of_ble_eq_true rfl)) dL_law_260 ⟨show cN + 0 ≤ 600000 by omega, show sN + 0 ≤ 7302250 by omega⟩) hD hS hA hPm hdj (fun rq260 G w H locs hp260 hg hT hP hD hPm hdj hS => ?_)
        have g_h1 := hg.at g_h1 (by decide)
        refine lv_pop hx hb dL_law_263 rfl ?_
        refine lv_aload_n hx hb dL_law_264 rfl (lv_at hl 2 rfl) ?_
        refine lv_aload_n hx hb dL_law_265 rfl (lv_at hl 0 rfl) ?_
        refine lv_iload_n hx hb dL_law_266 rfl (lv_at hl 3 rfl) ?_
        refine lv_iconst (v := 1) hx hb dL_law_267 (by decide) ?_
        refine lv_iadd hx hb dL_law_268 ?_
        refine lv_topi (fun vq268 eq268 => ?_)
        refine va_sld hx hb hX hbl hbA hS (law_in hL hz0 hgo (by decide) (by decide) eq268) dL_law_269 ?_
        refine lv_topi (fun vq269 eq269 => ?_)
        refine lv_aload_n hx hb dL_law_270 rfl (lv_at hl 0 rfl) ?_
        refine lv_iload_n hx hb dL_law_271 rfl (lv_at hl 3 rfl) ?_
        refine lv_iconst (v := 2) hx hb dL_law_272 (by decide) ?_
        refine lv_iadd hx hb dL_law_273 ?_
        refine lv_topi (fun vq273 eq273 => ?_)
        refine va_sld hx hb hX hbl hbA hS (law_in hL hz0 hgo (by decide) (by decide) eq273) dL_law_274 ?_
        refine lv_topi (fun vq274 eq274 => ?_)
        refine l_mi (K := K) (K2 := K) (a := a) (w := mZ K a (th, um, sm, sA, uA, kA, iA, wA, fA, cA, yA, tA)) (w2 := w) (post := fun _ _ => True) (va_runV (mc := 0) (ms := 0) (rm := rmX6_strikes) (As := [.int vq269, .int vq274]) (rest := []) ⟨hx, hb, hml, hown, htl⟩ (k_X6_strikes l (a := a) hM H.size vq269 vq274) (cwV 2 htl gL_law_X6_strikes rfl rfl rfl (by decide +kernel) ⟨Nat.le_of_ble_eq_true rfl, Nat.le_of_ble_eq_true rfl⟩) (kPreV (m_rcv hK hPm) hPm hK hDm hN) rfl rfl hl.1 rfl (lv_room (Nat.le_of_ble_eq_true rfl)) dL_law_275 ⟨show cN + 0 ≤ 600000 by omega, show sN + 0 ≤ 7302250 by omega⟩) hDm hS hA hP hdj.sym (fun rq275 uq275 H locs hp275 hM hPm hDm hP hdj hS => ?_)
        have hdj := hdj.sym
        refine lv_pop hx hb dL_law_278 rfl ?_
        refine lv_goto (tgt := 759) hx hb dL_law_279 (by decide) ?_
        exact hend hgo (K) cN sN G w _ H locs (by omega) (by omega) hT hK g_h1 hM hP hD hPm hDm hdj hS ls (lv_sub hl [0, 1, 2, 3] rfl)
      · skip
        refine lv_tableIn (off := 250) (tgt := 282) hx hb dL_law_32 (by omega) (by omega) (by rw [tq32]; rfl) (by decide) ?_
        refine lv_aload_n hx hb dL_law_282 rfl (lv_at hl 1 rfl) ?_
        refine lv_aload_n hx hb dL_law_283 rfl (lv_at hl 0 rfl) ?_
        refine lv_iload_n hx hb dL_law_284 rfl (lv_at hl 3 rfl) ?_
        refine lv_iconst (v := 1) hx hb dL_law_285 (by decide) ?_
        refine lv_iadd hx hb dL_law_286 ?_
        refine lv_topi (fun vq286 eq286 => ?_)
        refine va_sld hx hb hX hbl hbA hS (law_in hL hz0 hgo (by decide) (by decide) eq286) dL_law_287 ?_
        refine lv_topi (fun vq287 eq287 => ?_)
        refine lv_aload_n hx hb dL_law_288 rfl (lv_at hl 0 rfl) ?_
        refine lv_iload_n hx hb dL_law_289 rfl (lv_at hl 3 rfl) ?_
        refine lv_iconst (v := 2) hx hb dL_law_290 (by decide) ?_
        refine lv_iadd hx hb dL_law_291 ?_
        refine lv_topi (fun vq291 eq291 => ?_)
        refine va_sld hx hb hX hbl hbA hS (law_in hL hz0 hgo (by decide) (by decide) eq291) dL_law_292 ?_
        refine lv_topi (fun vq292 eq292 => ?_)
        refine l_ci (K := K) (K2 := K) (G := G) (w := w) (w2 := mZ K a (th, um, sm, sA, uA, kA, iA, wA, fA, cA, yA, tA)) (post := fun _ _ _ => True) (va_runV (mc := 0) (ms := 0) (rm := rmX5_bends) (As := [.int vq287, .int vq292]) (rest := []) ⟨hx, hb, hml, hown, htl⟩ (k_X5_bends l hT H.size g_h1 vq287 vq292) (cwV 2 htl gL_law_X5_bends rfl rfl rfl (by decide +kernel) ⟨Nat.le_of_ble_eq_true rfl, Nat.le_of_ble_eq_true rfl⟩) (kPreV (hT.rcv6 g_h1 hK hP) hP hK hD hN) rfl rfl hl.1 rfl (lv_room (Nat.le_of_ble_eq_true rfl)) dL_law_293 ⟨show cN + 0 ≤ 600000 by omega, show sN + 0 ≤ 7302250 by omega⟩) hD hS hA hPm hdj (fun rq293 G w H locs hp293 hg hT hP hD hPm hdj hS => ?_)
        have g_h1 := hg.at g_h1 (by decide)
        refine lv_pop hx hb dL_law_296 rfl ?_
        refine lv_aload_n hx hb dL_law_297 rfl (lv_at hl 2 rfl) ?_
        refine lv_aload_n hx hb dL_law_298 rfl (lv_at hl 0 rfl) ?_
        refine lv_iload_n hx hb dL_law_299 rfl (lv_at hl 3 rfl) ?_
        refine lv_iconst (v := 1) hx hb dL_law_300 (by decide) ?_
        refine lv_iadd hx hb dL_law_301 ?_
        refine lv_topi (fun vq301 eq301 => ?_)
        refine va_sld hx hb hX hbl hbA hS (law_in hL hz0 hgo (by decide) (by decide) eq301) dL_law_302 ?_
        refine lv_topi (fun vq302 eq302 => ?_)
        refine lv_aload_n hx hb dL_law_303 rfl (lv_at hl 0 rfl) ?_
        refine lv_iload_n hx hb dL_law_304 rfl (lv_at hl 3 rfl) ?_
        refine lv_iconst (v := 2) hx hb dL_law_305 (by decide) ?_
        refine lv_iadd hx hb dL_law_306 ?_
        refine lv_topi (fun vq306 eq306 => ?_)
        refine va_sld hx hb hX hbl hbA hS (law_in hL hz0 hgo (by decide) (by decide) eq306) dL_law_307 ?_
        refine lv_topi (fun vq307 eq307 => ?_)
        refine l_mi (K := K) (K2 := K) (a := a) (w := mZ K a (th, um, sm, sA, uA, kA, iA, wA, fA, cA, yA, tA)) (w2 := w) (post := fun _ _ => True) (va_runV (mc := 0) (ms := 0) (rm := rmX6_bends) (As := [.int vq302, .int vq307]) (rest := []) ⟨hx, hb, hml, hown, htl⟩ (k_X6_bends l (a := a) hM H.size vq302 vq307) (cwV 2 htl gL_law_X6_bends rfl rfl rfl (by decide +kernel) ⟨Nat.le_of_ble_eq_true rfl, Nat.le_of_ble_eq_true rfl⟩) (kPreV (m_rcv hK hPm) hPm hK hDm hN) rfl rfl hl.1 rfl (lv_room (Nat.le_of_ble_eq_true rfl)) dL_law_308 ⟨show cN + 0 ≤ 600000 by omega, show sN + 0 ≤ 7302250 by omega⟩) hDm hS hA hP hdj.sym (fun rq308 uq308 H locs hp308 hM hPm hDm hP hdj hS => ?_)
        have hdj := hdj.sym
        refine lv_pop hx hb dL_law_311 rfl ?_
        refine lv_goto (tgt := 759) hx hb dL_law_312 (by decide) ?_
        exact hend hgo (K) cN sN G w _ H locs (by omega) (by omega) hT hK g_h1 hM hP hD hPm hDm hdj hS ls (lv_sub hl [0, 1, 2, 3] rfl)
      · skip
        refine lv_tableIn (off := 283) (tgt := 315) hx hb dL_law_32 (by omega) (by omega) (by rw [tq32]; rfl) (by decide) ?_
        refine lv_aload_n hx hb dL_law_315 rfl (lv_at hl 1 rfl) ?_
        refine lv_aload_n hx hb dL_law_316 rfl (lv_at hl 0 rfl) ?_
        refine lv_iload_n hx hb dL_law_317 rfl (lv_at hl 3 rfl) ?_
        refine lv_iconst (v := 1) hx hb dL_law_318 (by decide) ?_
        refine lv_iadd hx hb dL_law_319 ?_
        refine lv_topi (fun vq319 eq319 => ?_)
        refine va_sld hx hb hX hbl hbA hS (law_in hL hz0 hgo (by decide) (by decide) eq319) dL_law_320 ?_
        refine lv_topi (fun vq320 eq320 => ?_)
        refine l_ci (K := K) (K2 := K) (G := G) (w := w) (w2 := mZ K a (th, um, sm, sA, uA, kA, iA, wA, fA, cA, yA, tA)) (post := fun _ _ _ => True) (va_runV (mc := 0) (ms := 0) (rm := rmX5_mends) (As := [.int vq320]) (rest := []) ⟨hx, hb, hml, hown, htl⟩ (k_X5_mends l hT H.size g_h1 vq320) (cwV 1 htl gL_law_X5_mends rfl rfl rfl (by decide +kernel) ⟨Nat.le_of_ble_eq_true rfl, Nat.le_of_ble_eq_true rfl⟩) (kPreV (hT.rcv6 g_h1 hK hP) hP hK hD hN) rfl rfl hl.1 rfl (lv_room (Nat.le_of_ble_eq_true rfl)) dL_law_321 ⟨show cN + 0 ≤ 600000 by omega, show sN + 0 ≤ 7302250 by omega⟩) hD hS hA hPm hdj (fun rq321 G w H locs hp321 hg hT hP hD hPm hdj hS => ?_)
        have g_h1 := hg.at g_h1 (by decide)
        refine lv_pop hx hb dL_law_324 rfl ?_
        refine lv_aload_n hx hb dL_law_325 rfl (lv_at hl 2 rfl) ?_
        refine lv_aload_n hx hb dL_law_326 rfl (lv_at hl 0 rfl) ?_
        refine lv_iload_n hx hb dL_law_327 rfl (lv_at hl 3 rfl) ?_
        refine lv_iconst (v := 1) hx hb dL_law_328 (by decide) ?_
        refine lv_iadd hx hb dL_law_329 ?_
        refine lv_topi (fun vq329 eq329 => ?_)
        refine va_sld hx hb hX hbl hbA hS (law_in hL hz0 hgo (by decide) (by decide) eq329) dL_law_330 ?_
        refine lv_topi (fun vq330 eq330 => ?_)
        refine l_mi (K := K) (K2 := K) (a := a) (w := mZ K a (th, um, sm, sA, uA, kA, iA, wA, fA, cA, yA, tA)) (w2 := w) (post := fun _ _ => True) (va_runV (mc := 0) (ms := 0) (rm := rmX6_mends) (As := [.int vq330]) (rest := []) ⟨hx, hb, hml, hown, htl⟩ (k_X6_mends l (a := a) hM H.size vq330) (cwV 1 htl gL_law_X6_mends rfl rfl rfl (by decide +kernel) ⟨Nat.le_of_ble_eq_true rfl, Nat.le_of_ble_eq_true rfl⟩) (kPreV (m_rcv hK hPm) hPm hK hDm hN) rfl rfl hl.1 rfl (lv_room (Nat.le_of_ble_eq_true rfl)) dL_law_331 ⟨show cN + 0 ≤ 600000 by omega, show sN + 0 ≤ 7302250 by omega⟩) hDm hS hA hP hdj.sym (fun rq331 uq331 H locs hp331 hM hPm hDm hP hdj hS => ?_)
        have hdj := hdj.sym
        refine lv_pop hx hb dL_law_334 rfl ?_
        refine lv_goto (tgt := 759) hx hb dL_law_335 (by decide) ?_
        exact hend hgo (K) cN sN G w _ H locs (by omega) (by omega) hT hK g_h1 hM hP hD hPm hDm hdj hS ls (lv_sub hl [0, 1, 2, 3] rfl)
      · skip
        refine lv_tableIn (off := 306) (tgt := 338) hx hb dL_law_32 (by omega) (by omega) (by rw [tq32]; rfl) (by decide) ?_
        refine lv_aload_n hx hb dL_law_338 rfl (lv_at hl 1 rfl) ?_
        refine l_ci (K := K) (K2 := K) (G := G) (w := w) (w2 := mZ K a (th, um, sm, sA, uA, kA, iA, wA, fA, cA, yA, tA)) (post := fun _ _ _ => True) (va_runV (mc := 0) (ms := 0) (rm := rmX5_undo) (As := []) (rest := []) ⟨hx, hb, hml, hown, htl⟩ (k_X5_undo l hT H.size g_h1 ) (cwV 0 htl gL_law_X5_undo rfl rfl rfl (by decide +kernel) ⟨Nat.le_of_ble_eq_true rfl, Nat.le_of_ble_eq_true rfl⟩) (kPreV (hT.rcv6 g_h1 hK hP) hP hK hD hN) rfl rfl hl.1 rfl (lv_room (Nat.le_of_ble_eq_true rfl)) dL_law_339 ⟨show cN + 0 ≤ 600000 by omega, show sN + 0 ≤ 7302250 by omega⟩) hD hS hA hPm hdj (fun rq339 G w H locs hp339 hg hT hP hD hPm hdj hS => ?_)
        have g_h1 := hg.at g_h1 (by decide)
        refine lv_pop hx hb dL_law_342 rfl ?_
        refine lv_aload_n hx hb dL_law_343 rfl (lv_at hl 2 rfl) ?_
        refine l_mi (K := K) (K2 := K) (a := a) (w := mZ K a (th, um, sm, sA, uA, kA, iA, wA, fA, cA, yA, tA)) (w2 := w) (post := fun _ _ => True) (va_runV (mc := 0) (ms := 0) (rm := rmX6_undo) (As := []) (rest := []) ⟨hx, hb, hml, hown, htl⟩ (k_X6_undo l (a := a) hM H.size ) (cwV 0 htl gL_law_X6_undo rfl rfl rfl (by decide +kernel) ⟨Nat.le_of_ble_eq_true rfl, Nat.le_of_ble_eq_true rfl⟩) (kPreV (m_rcv hK hPm) hPm hK hDm hN) rfl rfl hl.1 rfl (lv_room (Nat.le_of_ble_eq_true rfl)) dL_law_344 ⟨show cN + 0 ≤ 600000 by omega, show sN + 0 ≤ 7302250 by omega⟩) hDm hS hA hP hdj.sym (fun rq344 uq344 H locs hp344 hM hPm hDm hP hdj hS => ?_)
        have hdj := hdj.sym
        refine lv_pop hx hb dL_law_347 rfl ?_
        refine lv_goto (tgt := 759) hx hb dL_law_348 (by decide) ?_
        exact hend hgo (K) cN sN G w _ H locs (by omega) (by omega) hT hK g_h1 hM hP hD hPm hDm hdj hS ls (lv_sub hl [0, 1, 2, 3] rfl)
      · skip
        refine lv_tableIn (off := 319) (tgt := 351) hx hb dL_law_32 (by omega) (by omega) (by rw [tq32]; rfl) (by decide) ?_
        refine lv_aload_n hx hb dL_law_351 rfl (lv_at hl 1 rfl) ?_
        refine lv_aload_n hx hb dL_law_352 rfl (lv_at hl 0 rfl) ?_
        refine lv_iload_n hx hb dL_law_353 rfl (lv_at hl 3 rfl) ?_
        refine lv_iconst (v := 1) hx hb dL_law_354 (by decide) ?_
        refine lv_iadd hx hb dL_law_355 ?_
        refine lv_topi (fun vq355 eq355 => ?_)
        refine va_sld hx hb hX hbl hbA hS (law_in hL hz0 hgo (by decide) (by decide) eq355) dL_law_356 ?_
        refine lv_topi (fun vq356 eq356 => ?_)
        refine lv_aload_n hx hb dL_law_357 rfl (lv_at hl 0 rfl) ?_
        refine lv_iload_n hx hb dL_law_358 rfl (lv_at hl 3 rfl) ?_
        refine lv_iconst (v := 2) hx hb dL_law_359 (by decide) ?_
        refine lv_iadd hx hb dL_law_360 ?_
        refine lv_topi (fun vq360 eq360 => ?_)
        refine va_sld hx hb hX hbl hbA hS (law_in hL hz0 hgo (by decide) (by decide) eq360) dL_law_361 ?_
        refine lv_topi (fun vq361 eq361 => ?_)
        refine l_ri (K := K) (w := w) (w2 := mZ K a (th, um, sm, sA, uA, kA, iA, wA, fA, cA, yA, tA)) (post := fun _ => True) (va_runV (As := [.int vq356, .int vq361]) (rest := []) ⟨hx, hb, hml, hown, htl⟩ (k_X5_register l hT g_h1 vq356 vq361) (cwV 2 htl gL_law_X5_register rfl rfl rfl (by decide +kernel) ⟨Nat.le_of_ble_eq_true rfl, Nat.le_of_ble_eq_true rfl⟩) (rPreV (hT.rcv6 g_h1 hK hP) hP hK hD hN) rfl rfl hl.1 rfl (lv_room (Nat.le_of_ble_eq_true rfl)) dL_law_362 ⟨show cN + 0 ≤ 600000 by omega, show sN + 0 ≤ 7302250 by omega⟩) hP hPm hS (fun rq362 H locs hp362 hP hPm hS => ?_)
        refine lv_pop hx hb dL_law_365 rfl ?_
        refine lv_aload_n hx hb dL_law_366 rfl (lv_at hl 2 rfl) ?_
        refine lv_aload_n hx hb dL_law_367 rfl (lv_at hl 0 rfl) ?_
        refine lv_iload_n hx hb dL_law_368 rfl (lv_at hl 3 rfl) ?_
        refine lv_iconst (v := 1) hx hb dL_law_369 (by decide) ?_
        refine lv_iadd hx hb dL_law_370 ?_
        refine lv_topi (fun vq370 eq370 => ?_)
        refine va_sld hx hb hX hbl hbA hS (law_in hL hz0 hgo (by decide) (by decide) eq370) dL_law_371 ?_
        refine lv_topi (fun vq371 eq371 => ?_)
        refine lv_aload_n hx hb dL_law_372 rfl (lv_at hl 0 rfl) ?_
        refine lv_iload_n hx hb dL_law_373 rfl (lv_at hl 3 rfl) ?_
        refine lv_iconst (v := 2) hx hb dL_law_374 (by decide) ?_
        refine lv_iadd hx hb dL_law_375 ?_
        refine lv_topi (fun vq375 eq375 => ?_)
        refine va_sld hx hb hX hbl hbA hS (law_in hL hz0 hgo (by decide) (by decide) eq375) dL_law_376 ?_
        refine lv_topi (fun vq376 eq376 => ?_)
        refine l_mi (K := K) (K2 := K) (a := a) (w := mZ K a (th, um, sm, sA, uA, kA, iA, wA, fA, cA, yA, tA)) (w2 := w) (post := fun _ _ => True) (va_runV (mc := 0) (ms := 0) (rm := rmX6_register) (As := [.int vq371, .int vq376]) (rest := []) ⟨hx, hb, hml, hown, htl⟩ (k_X6_register l (a := a) hM H.size vq371 vq376) (cwV 2 htl gL_law_X6_register rfl rfl rfl (by decide +kernel) ⟨Nat.le_of_ble_eq_true rfl, Nat.le_of_ble_eq_true rfl⟩) (kPreV (m_rcv hK hPm) hPm hK hDm hN) rfl rfl hl.1 rfl (lv_room (Nat.le_of_ble_eq_true rfl)) dL_law_377 ⟨show cN + 0 ≤ 600000 by omega, show sN + 0 ≤ 7302250 by omega⟩) hDm hS hA hP hdj.sym (fun rq377 uq377 H locs hp377 hM hPm hDm hP hdj hS => ?_)
        have hdj := hdj.sym
        refine lv_pop hx hb dL_law_380 rfl ?_
        refine lv_goto (tgt := 759) hx hb dL_law_381 (by decide) ?_
        exact hend hgo (K) cN sN G w _ H locs (by omega) (by omega) hT hK g_h1 hM hP hD hPm hDm hdj hS ls (lv_sub hl [0, 1, 2, 3] rfl)
      · skip
        refine lv_tableIn (off := 352) (tgt := 384) hx hb dL_law_32 (by omega) (by omega) (by rw [tq32]; rfl) (by decide) ?_
        refine lv_aload_n hx hb dL_law_384 rfl (lv_at hl 1 rfl) ?_
        refine lv_aload_n hx hb dL_law_385 rfl (lv_at hl 0 rfl) ?_
        refine lv_iload_n hx hb dL_law_386 rfl (lv_at hl 3 rfl) ?_
        refine lv_iconst (v := 1) hx hb dL_law_387 (by decide) ?_
        refine lv_iadd hx hb dL_law_388 ?_
        refine lv_topi (fun vq388 eq388 => ?_)
        refine va_sld hx hb hX hbl hbA hS (law_in hL hz0 hgo (by decide) (by decide) eq388) dL_law_389 ?_
        refine lv_topi (fun vq389 eq389 => ?_)
        refine l_ri (K := K) (w := w) (w2 := mZ K a (th, um, sm, sA, uA, kA, iA, wA, fA, cA, yA, tA)) (post := fun r : Int32 => r.toInt = wAns vq389) (va_runV (As := [.int vq389]) (rest := []) ⟨hx, hb, hml, hown, htl⟩ (k_X5_weight l hT g_h1 vq389) (cwV 1 htl gL_law_X5_weight rfl rfl rfl (by decide +kernel) ⟨Nat.le_of_ble_eq_true rfl, Nat.le_of_ble_eq_true rfl⟩) (rPreV (hT.rcv6 g_h1 hK hP) hP hK hD hN) rfl rfl hl.1 rfl (lv_room (Nat.le_of_ble_eq_true rfl)) dL_law_390 ⟨show cN + 0 ≤ 600000 by omega, show sN + 0 ≤ 7302250 by omega⟩) hP hPm hS (fun rq390 H locs hp390 hP hPm hS => ?_)
        refine lv_pop hx hb dL_law_393 rfl ?_
        refine lv_aload_n hx hb dL_law_394 rfl (lv_at hl 2 rfl) ?_
        refine lv_aload_n hx hb dL_law_395 rfl (lv_at hl 0 rfl) ?_
        refine lv_iload_n hx hb dL_law_396 rfl (lv_at hl 3 rfl) ?_
        refine lv_iconst (v := 1) hx hb dL_law_397 (by decide) ?_
        refine lv_iadd hx hb dL_law_398 ?_
        refine lv_topi (fun vq398 eq398 => ?_)
        refine va_sld hx hb hX hbl hbA hS (law_in hL hz0 hgo (by decide) (by decide) eq398) dL_law_399 ?_
        refine lv_topi (fun vq399 eq399 => ?_)
        refine l_mi (K := K) (K2 := K) (a := a) (w := mZ K a (th, um, sm, sA, uA, kA, iA, wA, fA, cA, yA, tA)) (w2 := w) (post := fun (r : Int32) _ => r.toInt = wAns vq399) (va_runV (mc := 0) (ms := 0) (rm := rmX6_weight) (As := [.int vq399]) (rest := []) ⟨hx, hb, hml, hown, htl⟩ (k_X6_weight l (a := a) hM H.size vq399) (cwV 1 htl gL_law_X6_weight rfl rfl rfl (by decide +kernel) ⟨Nat.le_of_ble_eq_true rfl, Nat.le_of_ble_eq_true rfl⟩) (kPreV (m_rcv hK hPm) hPm hK hDm hN) rfl rfl hl.1 rfl (lv_room (Nat.le_of_ble_eq_true rfl)) dL_law_400 ⟨show cN + 0 ≤ 600000 by omega, show sN + 0 ≤ 7302250 by omega⟩) hDm hS hA hP hdj.sym (fun rq400 uq400 H locs hp400 hM hPm hDm hP hdj hS => ?_)
        have hdj := hdj.sym
        refine lv_pop hx hb dL_law_403 rfl ?_
        refine lv_goto (tgt := 759) hx hb dL_law_404 (by decide) ?_
        exact hend hgo (K) cN sN G w _ H locs (by omega) (by omega) hT hK g_h1 hM hP hD hPm hDm hdj hS ls (lv_sub hl [0, 1, 2, 3] rfl)
      · skip
        refine lv_tableIn (off := 375) (tgt := 407) hx hb dL_law_32 (by omega) (by omega) (by rw [tq32]; rfl) (by decide) ?_
        refine lv_aload_n hx hb dL_law_407 rfl (lv_at hl 1 rfl) ?_
        refine lv_aload_n hx hb dL_law_408 rfl (lv_at hl 0 rfl) ?_
        refine lv_iload_n hx hb dL_law_409 rfl (lv_at hl 3 rfl) ?_
        refine lv_iconst (v := 1) hx hb dL_law_410 (by decide) ?_
        refine lv_iadd hx hb dL_law_411 ?_
        refine lv_topi (fun vq411 eq411 => ?_)
        refine va_sld hx hb hX hbl hbA hS (law_in hL hz0 hgo (by decide) (by decide) eq411) dL_law_412 ?_
        refine lv_topi (fun vq412 eq412 => ?_)
        refine lv_aload_n hx hb dL_law_413 rfl (lv_at hl 0 rfl) ?_
        refine lv_iload_n hx hb dL_law_414 rfl (lv_at hl 3 rfl) ?_
        refine lv_iconst (v := 2) hx hb dL_law_415 (by decide) ?_
        refine lv_iadd hx hb dL_law_416 ?_
        refine lv_topi (fun vq416 eq416 => ?_)
        refine va_sld hx hb hX hbl hbA hS (law_in hL hz0 hgo (by decide) (by decide) eq416) dL_law_417 ?_
        refine lv_topi (fun vq417 eq417 => ?_)
        refine l_ri (K := K) (w := w) (w2 := mZ K a (th, um, sm, sA, uA, kA, iA, wA, fA, cA, yA, tA)) (post := fun r : Int32 => dA vq412 vq417 r) (va_runV (As := [.int vq412, .int vq417]) (rest := []) ⟨hx, hb, hml, hown, htl⟩ (k_X5_distance l hT g_h1 vq412 vq417) (cwV 2 htl gL_law_X5_distance rfl rfl rfl (by decide +kernel) ⟨Nat.le_of_ble_eq_true rfl, Nat.le_of_ble_eq_true rfl⟩) (rPreV (hT.rcv6 g_h1 hK hP) hP hK hD hN) rfl rfl hl.1 rfl (lv_room (Nat.le_of_ble_eq_true rfl)) dL_law_418 ⟨show cN + 0 ≤ 600000 by omega, show sN + 0 ≤ 7302250 by omega⟩) hP hPm hS (fun rq418 H locs hp418 hP hPm hS => ?_)
        refine lv_pop hx hb dL_law_421 rfl ?_
        refine lv_aload_n hx hb dL_law_422 rfl (lv_at hl 2 rfl) ?_
        refine lv_aload_n hx hb dL_law_423 rfl (lv_at hl 0 rfl) ?_
        refine lv_iload_n hx hb dL_law_424 rfl (lv_at hl 3 rfl) ?_
        refine lv_iconst (v := 1) hx hb dL_law_425 (by decide) ?_
        refine lv_iadd hx hb dL_law_426 ?_
        refine lv_topi (fun vq426 eq426 => ?_)
        refine va_sld hx hb hX hbl hbA hS (law_in hL hz0 hgo (by decide) (by decide) eq426) dL_law_427 ?_
        refine lv_topi (fun vq427 eq427 => ?_)
        refine lv_aload_n hx hb dL_law_428 rfl (lv_at hl 0 rfl) ?_
        refine lv_iload_n hx hb dL_law_429 rfl (lv_at hl 3 rfl) ?_
        refine lv_iconst (v := 2) hx hb dL_law_430 (by decide) ?_
        refine lv_iadd hx hb dL_law_431 ?_
        refine lv_topi (fun vq431 eq431 => ?_)
        refine va_sld hx hb hX hbl hbA hS (law_in hL hz0 hgo (by decide) (by decide) eq431) dL_law_432 ?_
        refine lv_topi (fun vq432 eq432 => ?_)
        refine l_mi (K := K) (K2 := K) (a := a) (w := mZ K a (th, um, sm, sA, uA, kA, iA, wA, fA, cA, yA, tA)) (w2 := w) (post := fun (r : Int32) _ => dA vq427 vq432 r) (va_runV (mc := 0) (ms := 0) (rm := rmX6_distance) (As := [.int vq427, .int vq432]) (rest := []) ⟨hx, hb, hml, hown, htl⟩ (k_X6_distance l (a := a) hM H.size vq427 vq432) (cwV 2 htl gL_law_X6_distance rfl rfl rfl (by decide +kernel) ⟨Nat.le_of_ble_eq_true rfl, Nat.le_of_ble_eq_true rfl⟩) (kPreV (m_rcv hK hPm) hPm hK hDm hN) rfl rfl hl.1 rfl (lv_room (Nat.le_of_ble_eq_true rfl)) dL_law_433 ⟨show cN + 0 ≤ 600000 by omega, show sN + 0 ≤ 7302250 by omega⟩) hDm hS hA hP hdj.sym (fun rq433 uq433 H locs hp433 hM hPm hDm hP hdj hS => ?_)
        have hdj := hdj.sym
        refine lv_pop hx hb dL_law_436 rfl ?_
        refine lv_goto (tgt := 759) hx hb dL_law_437 (by decide) ?_
        exact hend hgo (K) cN sN G w _ H locs (by omega) (by omega) hT hK g_h1 hM hP hD hPm hDm hdj hS ls (lv_sub hl [0, 1, 2, 3] rfl)
      · skip
        refine lv_tableIn (off := 408) (tgt := 440) hx hb dL_law_32 (by omega) (by omega) (by rw [tq32]; rfl) (by decide) ?_
        refine lv_aload_n hx hb dL_law_440 rfl (lv_at hl 1 rfl) ?_
        refine lv_aload_n hx hb dL_law_441 rfl (lv_at hl 0 rfl) ?_
        refine lv_iload_n hx hb dL_law_442 rfl (lv_at hl 3 rfl) ?_
        refine lv_iconst (v := 1) hx hb dL_law_443 (by decide) ?_
        refine lv_iadd hx hb dL_law_444 ?_
        refine lv_topi (fun vq444 eq444 => ?_)
        refine va_sld hx hb hX hbl hbA hS (law_in hL hz0 hgo (by decide) (by decide) eq444) dL_law_445 ?_
        refine lv_topi (fun vq445 eq445 => ?_)
        refine lv_aload_n hx hb dL_law_446 rfl (lv_at hl 0 rfl) ?_
        refine lv_iload_n hx hb dL_law_447 rfl (lv_at hl 3 rfl) ?_
        refine lv_iconst (v := 2) hx hb dL_law_448 (by decide) ?_
        refine lv_iadd hx hb dL_law_449 ?_
        refine lv_topi (fun vq449 eq449 => ?_)
        refine va_sld hx hb hX hbl hbA hS (law_in hL hz0 hgo (by decide) (by decide) eq449) dL_law_450 ?_
        refine lv_topi (fun vq450 eq450 => ?_)
        refine l_ri (K := K) (w := w) (w2 := mZ K a (th, um, sm, sA, uA, kA, iA, wA, fA, cA, yA, tA)) (post := fun r : Int32 => lA vq445 vq450 r) (va_runV (As := [.int vq445, .int vq450]) (rest := []) ⟨hx, hb, hml, hown, htl⟩ (k_X5_least l hT g_h1 vq445 vq450) (cwV 2 htl gL_law_X5_least rfl rfl rfl (by decide +kernel) ⟨Nat.le_of_ble_eq_true rfl, Nat.le_of_ble_eq_true rfl⟩) (rPreV (hT.rcv6 g_h1 hK hP) hP hK hD hN) rfl rfl hl.1 rfl (lv_room (Nat.le_of_ble_eq_true rfl)) dL_law_451 ⟨show cN + 0 ≤ 600000 by omega, show sN + 0 ≤ 7302250 by omega⟩) hP hPm hS (fun rq451 H locs hp451 hP hPm hS => ?_)
        refine lv_pop hx hb dL_law_454 rfl ?_
        refine lv_aload_n hx hb dL_law_455 rfl (lv_at hl 2 rfl) ?_
        refine lv_aload_n hx hb dL_law_456 rfl (lv_at hl 0 rfl) ?_
        refine lv_iload_n hx hb dL_law_457 rfl (lv_at hl 3 rfl) ?_
        refine lv_iconst (v := 1) hx hb dL_law_458 (by decide) ?_
        refine lv_iadd hx hb dL_law_459 ?_
        refine lv_topi (fun vq459 eq459 => ?_)
        refine va_sld hx hb hX hbl hbA hS (law_in hL hz0 hgo (by decide) (by decide) eq459) dL_law_460 ?_
        refine lv_topi (fun vq460 eq460 => ?_)
        refine lv_aload_n hx hb dL_law_461 rfl (lv_at hl 0 rfl) ?_
        refine lv_iload_n hx hb dL_law_462 rfl (lv_at hl 3 rfl) ?_
        refine lv_iconst (v := 2) hx hb dL_law_463 (by decide) ?_
        refine lv_iadd hx hb dL_law_464 ?_
        refine lv_topi (fun vq464 eq464 => ?_)
        refine va_sld hx hb hX hbl hbA hS (law_in hL hz0 hgo (by decide) (by decide) eq464) dL_law_465 ?_
        refine lv_topi (fun vq465 eq465 => ?_)
        refine l_mi (K := K) (K2 := K) (a := a) (w := mZ K a (th, um, sm, sA, uA, kA, iA, wA, fA, cA, yA, tA)) (w2 := w) (post := fun (r : Int32) _ => lA vq460 vq465 r) (va_runV (mc := 0) (ms := 0) (rm := rmX6_least) (As := [.int vq460, .int vq465]) (rest := []) ⟨hx, hb, hml, hown, htl⟩ (k_X6_least l (a := a) hM H.size vq460 vq465) (cwV 2 htl gL_law_X6_least rfl rfl rfl (by decide +kernel) ⟨Nat.le_of_ble_eq_true rfl, Nat.le_of_ble_eq_true rfl⟩) (kPreV (m_rcv hK hPm) hPm hK hDm hN) rfl rfl hl.1 rfl (lv_room (Nat.le_of_ble_eq_true rfl)) dL_law_466 ⟨show cN + 0 ≤ 600000 by omega, show sN + 0 ≤ 7302250 by omega⟩) hDm hS hA hP hdj.sym (fun rq466 uq466 H locs hp466 hM hPm hDm hP hdj hS => ?_)
        have hdj := hdj.sym
        refine lv_pop hx hb dL_law_469 rfl ?_
        refine lv_goto (tgt := 759) hx hb dL_law_470 (by decide) ?_
        exact hend hgo (K) cN sN G w _ H locs (by omega) (by omega) hT hK g_h1 hM hP hD hPm hDm hdj hS ls (lv_sub hl [0, 1, 2, 3] rfl)
      · skip
        refine lv_tableIn (off := 441) (tgt := 473) hx hb dL_law_32 (by omega) (by omega) (by rw [tq32]; rfl) (by decide) ?_
        refine lv_aload_n hx hb dL_law_473 rfl (lv_at hl 1 rfl) ?_
        refine lv_aload_n hx hb dL_law_474 rfl (lv_at hl 0 rfl) ?_
        refine lv_iload_n hx hb dL_law_475 rfl (lv_at hl 3 rfl) ?_
        refine lv_iconst (v := 1) hx hb dL_law_476 (by decide) ?_
        refine lv_iadd hx hb dL_law_477 ?_
        refine lv_topi (fun vq477 eq477 => ?_)
        refine va_sld hx hb hX hbl hbA hS (law_in hL hz0 hgo (by decide) (by decide) eq477) dL_law_478 ?_
        refine lv_topi (fun vq478 eq478 => ?_)
        refine l_ri (K := K) (w := w) (w2 := mZ K a (th, um, sm, sA, uA, kA, iA, wA, fA, cA, yA, tA)) (post := fun r : Int32 => rAns vq478 r) (va_runV (As := [.int vq478]) (rest := []) ⟨hx, hb, hml, hown, htl⟩ (k_X5_round l hT g_h1 vq478) (cwV 1 htl gL_law_X5_round rfl rfl rfl (by decide +kernel) ⟨Nat.le_of_ble_eq_true rfl, Nat.le_of_ble_eq_true rfl⟩) (rPreV (hT.rcv6 g_h1 hK hP) hP hK hD hN) rfl rfl hl.1 rfl (lv_room (Nat.le_of_ble_eq_true rfl)) dL_law_479 ⟨show cN + 0 ≤ 600000 by omega, show sN + 0 ≤ 7302250 by omega⟩) hP hPm hS (fun rq479 H locs hp479 hP hPm hS => ?_)
        refine lv_pop hx hb dL_law_482 rfl ?_
        refine lv_aload_n hx hb dL_law_483 rfl (lv_at hl 2 rfl) ?_
        refine lv_aload_n hx hb dL_law_484 rfl (lv_at hl 0 rfl) ?_
        refine lv_iload_n hx hb dL_law_485 rfl (lv_at hl 3 rfl) ?_
        refine lv_iconst (v := 1) hx hb dL_law_486 (by decide) ?_
        refine lv_iadd hx hb dL_law_487 ?_
        refine lv_topi (fun vq487 eq487 => ?_)
        refine va_sld hx hb hX hbl hbA hS (law_in hL hz0 hgo (by decide) (by decide) eq487) dL_law_488 ?_
        refine lv_topi (fun vq488 eq488 => ?_)
        refine l_mi (K := K) (K2 := K) (a := a) (w := mZ K a (th, um, sm, sA, uA, kA, iA, wA, fA, cA, yA, tA)) (w2 := w) (post := fun (r : Int32) _ => rAns vq488 r) (va_runV (mc := 0) (ms := 0) (rm := rmX6_round) (As := [.int vq488]) (rest := []) ⟨hx, hb, hml, hown, htl⟩ (k_X6_round l (a := a) hM H.size vq488) (cwV 1 htl gL_law_X6_round rfl rfl rfl (by decide +kernel) ⟨Nat.le_of_ble_eq_true rfl, Nat.le_of_ble_eq_true rfl⟩) (kPreV (m_rcv hK hPm) hPm hK hDm hN) rfl rfl hl.1 rfl (lv_room (Nat.le_of_ble_eq_true rfl)) dL_law_489 ⟨show cN + 0 ≤ 600000 by omega, show sN + 0 ≤ 7302250 by omega⟩) hDm hS hA hP hdj.sym (fun rq489 uq489 H locs hp489 hM hPm hDm hP hdj hS => ?_)
        have hdj := hdj.sym
        refine lv_pop hx hb dL_law_492 rfl ?_
        refine lv_goto (tgt := 759) hx hb dL_law_493 (by decide) ?_
        exact hend hgo (K) cN sN G w _ H locs (by omega) (by omega) hT hK g_h1 hM hP hD hPm hDm hdj hS ls (lv_sub hl [0, 1, 2, 3] rfl)
      · skip
        refine lv_tableIn (off := 464) (tgt := 496) hx hb dL_law_32 (by omega) (by omega) (by rw [tq32]; rfl) (by decide) ?_
        refine lv_aload_n hx hb dL_law_496 rfl (lv_at hl 1 rfl) ?_
        refine lv_aload_n hx hb dL_law_497 rfl (lv_at hl 0 rfl) ?_
        refine lv_iload_n hx hb dL_law_498 rfl (lv_at hl 3 rfl) ?_
        refine lv_iconst (v := 1) hx hb dL_law_499 (by decide) ?_
        refine lv_iadd hx hb dL_law_500 ?_
        refine lv_topi (fun vq500 eq500 => ?_)
        refine va_sld hx hb hX hbl hbA hS (law_in hL hz0 hgo (by decide) (by decide) eq500) dL_law_501 ?_
        refine lv_topi (fun vq501 eq501 => ?_)
        refine lv_aload_n hx hb dL_law_502 rfl (lv_at hl 0 rfl) ?_
        refine lv_iload_n hx hb dL_law_503 rfl (lv_at hl 3 rfl) ?_
        refine lv_iconst (v := 2) hx hb dL_law_504 (by decide) ?_
        refine lv_iadd hx hb dL_law_505 ?_
        refine lv_topi (fun vq505 eq505 => ?_)
        refine va_sld hx hb hX hbl hbA hS (law_in hL hz0 hgo (by decide) (by decide) eq505) dL_law_506 ?_
        refine lv_topi (fun vq506 eq506 => ?_)
        refine l_ri (K := K) (w := w) (w2 := mZ K a (th, um, sm, sA, uA, kA, iA, wA, fA, cA, yA, tA)) (post := fun r : Int32 => pA vq501 vq506 r) (va_runV (As := [.int vq501, .int vq506]) (rest := []) ⟨hx, hb, hml, hown, htl⟩ (k_X5_plain l hT g_h1 vq501 vq506) (cwV 2 htl gL_law_X5_plain rfl rfl rfl (by decide +kernel) ⟨Nat.le_of_ble_eq_true rfl, Nat.le_of_ble_eq_true rfl⟩) (rPreV (hT.rcv6 g_h1 hK hP) hP hK hD hN) rfl rfl hl.1 rfl (lv_room (Nat.le_of_ble_eq_true rfl)) dL_law_507 ⟨show cN + 0 ≤ 600000 by omega, show sN + 0 ≤ 7302250 by omega⟩) hP hPm hS (fun rq507 H locs hp507 hP hPm hS => ?_)
        refine lv_pop hx hb dL_law_510 rfl ?_
        refine lv_aload_n hx hb dL_law_511 rfl (lv_at hl 2 rfl) ?_
        refine lv_aload_n hx hb dL_law_512 rfl (lv_at hl 0 rfl) ?_
        refine lv_iload_n hx hb dL_law_513 rfl (lv_at hl 3 rfl) ?_
        refine lv_iconst (v := 1) hx hb dL_law_514 (by decide) ?_
        refine lv_iadd hx hb dL_law_515 ?_
        refine lv_topi (fun vq515 eq515 => ?_)
        refine va_sld hx hb hX hbl hbA hS (law_in hL hz0 hgo (by decide) (by decide) eq515) dL_law_516 ?_
        refine lv_topi (fun vq516 eq516 => ?_)
        refine lv_aload_n hx hb dL_law_517 rfl (lv_at hl 0 rfl) ?_
        refine lv_iload_n hx hb dL_law_518 rfl (lv_at hl 3 rfl) ?_
        refine lv_iconst (v := 2) hx hb dL_law_519 (by decide) ?_
        refine lv_iadd hx hb dL_law_520 ?_
        refine lv_topi (fun vq520 eq520 => ?_)
        refine va_sld hx hb hX hbl hbA hS (law_in hL hz0 hgo (by decide) (by decide) eq520) dL_law_521 ?_
        refine lv_topi (fun vq521 eq521 => ?_)
        refine l_mi (K := K) (K2 := K) (a := a) (w := mZ K a (th, um, sm, sA, uA, kA, iA, wA, fA, cA, yA, tA)) (w2 := w) (post := fun (r : Int32) _ => pA vq516 vq521 r) (va_runV (mc := 0) (ms := 0) (rm := rmX6_plain) (As := [.int vq516, .int vq521]) (rest := []) ⟨hx, hb, hml, hown, htl⟩ (k_X6_plain l (a := a) hM H.size vq516 vq521) (cwV 2 htl gL_law_X6_plain rfl rfl rfl (by decide +kernel) ⟨Nat.le_of_ble_eq_true rfl, Nat.le_of_ble_eq_true rfl⟩) (kPreV (m_rcv hK hPm) hPm hK hDm hN) rfl rfl hl.1 rfl (lv_room (Nat.le_of_ble_eq_true rfl)) dL_law_522 ⟨show cN + 0 ≤ 600000 by omega, show sN + 0 ≤ 7302250 by omega⟩) hDm hS hA hP hdj.sym (fun rq522 uq522 H locs hp522 hM hPm hDm hP hdj hS => ?_)
        have hdj := hdj.sym
        refine lv_pop hx hb dL_law_525 rfl ?_
        refine lv_goto (tgt := 759) hx hb dL_law_526 (by decide) ?_
        exact hend hgo (K) cN sN G w _ H locs (by omega) (by omega) hT hK g_h1 hM hP hD hPm hDm hdj hS ls (lv_sub hl [0, 1, 2, 3] rfl)
      · skip
        refine lv_tableIn (off := 497) (tgt := 529) hx hb dL_law_32 (by omega) (by omega) (by rw [tq32]; rfl) (by decide) ?_
        refine lv_aload_n hx hb dL_law_529 rfl (lv_at hl 1 rfl) ?_
        refine lv_aload_n hx hb dL_law_530 rfl (lv_at hl 0 rfl) ?_
        refine lv_iload_n hx hb dL_law_531 rfl (lv_at hl 3 rfl) ?_
        refine lv_iconst (v := 1) hx hb dL_law_532 (by decide) ?_
        refine lv_iadd hx hb dL_law_533 ?_
        refine lv_topi (fun vq533 eq533 => ?_)
        refine va_sld hx hb hX hbl hbA hS (law_in hL hz0 hgo (by decide) (by decide) eq533) dL_law_534 ?_
        refine lv_topi (fun vq534 eq534 => ?_)
        refine lv_aload_n hx hb dL_law_535 rfl (lv_at hl 0 rfl) ?_
        refine lv_iload_n hx hb dL_law_536 rfl (lv_at hl 3 rfl) ?_
        refine lv_iconst (v := 2) hx hb dL_law_537 (by decide) ?_
        refine lv_iadd hx hb dL_law_538 ?_
        refine lv_topi (fun vq538 eq538 => ?_)
        refine va_sld hx hb hX hbl hbA hS (law_in hL hz0 hgo (by decide) (by decide) eq538) dL_law_539 ?_
        refine lv_topi (fun vq539 eq539 => ?_)
        refine l_ri (K := K) (w := w) (w2 := mZ K a (th, um, sm, sA, uA, kA, iA, wA, fA, cA, yA, tA)) (post := fun _ => True) (va_runV (As := [.int vq534, .int vq539]) (rest := []) ⟨hx, hb, hml, hown, htl⟩ (k_X5_same l hT g_h1 vq534 vq539) (cwV 2 htl gL_law_X5_same rfl rfl rfl (by decide +kernel) ⟨Nat.le_of_ble_eq_true rfl, Nat.le_of_ble_eq_true rfl⟩) (rPreV (hT.rcv6 g_h1 hK hP) hP hK hD hN) rfl rfl hl.1 rfl (lv_room (Nat.le_of_ble_eq_true rfl)) dL_law_540 ⟨show cN + 0 ≤ 600000 by omega, show sN + 0 ≤ 7302250 by omega⟩) hP hPm hS (fun rq540 H locs hp540 hP hPm hS => ?_)
        refine lv_pop hx hb dL_law_543 rfl ?_
        refine lv_aload_n hx hb dL_law_544 rfl (lv_at hl 2 rfl) ?_
        refine lv_aload_n hx hb dL_law_545 rfl (lv_at hl 0 rfl) ?_
        refine lv_iload_n hx hb dL_law_546 rfl (lv_at hl 3 rfl) ?_
        refine lv_iconst (v := 1) hx hb dL_law_547 (by decide) ?_
        refine lv_iadd hx hb dL_law_548 ?_
        refine lv_topi (fun vq548 eq548 => ?_)
        refine va_sld hx hb hX hbl hbA hS (law_in hL hz0 hgo (by decide) (by decide) eq548) dL_law_549 ?_
        refine lv_topi (fun vq549 eq549 => ?_)
        refine lv_aload_n hx hb dL_law_550 rfl (lv_at hl 0 rfl) ?_
        refine lv_iload_n hx hb dL_law_551 rfl (lv_at hl 3 rfl) ?_
        refine lv_iconst (v := 2) hx hb dL_law_552 (by decide) ?_
        refine lv_iadd hx hb dL_law_553 ?_
        refine lv_topi (fun vq553 eq553 => ?_)
        refine va_sld hx hb hX hbl hbA hS (law_in hL hz0 hgo (by decide) (by decide) eq553) dL_law_554 ?_
        refine lv_topi (fun vq554 eq554 => ?_)
        refine l_mi (K := K) (K2 := K) (a := a) (w := mZ K a (th, um, sm, sA, uA, kA, iA, wA, fA, cA, yA, tA)) (w2 := w) (post := fun _ _ => True) (va_runV (mc := 0) (ms := 0) (rm := rmX6_same) (As := [.int vq549, .int vq554]) (rest := []) ⟨hx, hb, hml, hown, htl⟩ (k_X6_same l (a := a) hM H.size vq549 vq554) (cwV 2 htl gL_law_X6_same rfl rfl rfl (by decide +kernel) ⟨Nat.le_of_ble_eq_true rfl, Nat.le_of_ble_eq_true rfl⟩) (kPreV (m_rcv hK hPm) hPm hK hDm hN) rfl rfl hl.1 rfl (lv_room (Nat.le_of_ble_eq_true rfl)) dL_law_555 ⟨show cN + 0 ≤ 600000 by omega, show sN + 0 ≤ 7302250 by omega⟩) hDm hS hA hP hdj.sym (fun rq555 uq555 H locs hp555 hM hPm hDm hP hdj hS => ?_)
        have hdj := hdj.sym
        refine lv_pop hx hb dL_law_558 rfl ?_
        refine lv_goto (tgt := 759) hx hb dL_law_559 (by decide) ?_
        exact hend hgo (K) cN sN G w _ H locs (by omega) (by omega) hT hK g_h1 hM hP hD hPm hDm hdj hS ls (lv_sub hl [0, 1, 2, 3] rfl)
      · skip
        refine lv_tableIn (off := 530) (tgt := 562) hx hb dL_law_32 (by omega) (by omega) (by rw [tq32]; rfl) (by decide) ?_
        refine lv_aload_n hx hb dL_law_562 rfl (lv_at hl 1 rfl) ?_
        refine l_ri (K := K) (w := w) (w2 := mZ K a (th, um, sm, sA, uA, kA, iA, wA, fA, cA, yA, tA)) (post := fun _ => True) (va_runV (As := []) (rest := []) ⟨hx, hb, hml, hown, htl⟩ (k_X5_missed l hT g_h1 ) (cwV 0 htl gL_law_X5_missed rfl rfl rfl (by decide +kernel) ⟨Nat.le_of_ble_eq_true rfl, Nat.le_of_ble_eq_true rfl⟩) (rPreV (hT.rcv6 g_h1 hK hP) hP hK hD hN) rfl rfl hl.1 rfl (lv_room (Nat.le_of_ble_eq_true rfl)) dL_law_563 ⟨show cN + 0 ≤ 600000 by omega, show sN + 0 ≤ 7302250 by omega⟩) hP hPm hS (fun rq563 H locs hp563 hP hPm hS => ?_)
        refine lv_pop hx hb dL_law_566 rfl ?_
        refine lv_aload_n hx hb dL_law_567 rfl (lv_at hl 2 rfl) ?_
        refine l_mi (K := K) (K2 := K) (a := a) (w := mZ K a (th, um, sm, sA, uA, kA, iA, wA, fA, cA, yA, tA)) (w2 := w) (post := fun _ _ => True) (va_runV (mc := 0) (ms := 0) (rm := rmX6_missed) (As := []) (rest := []) ⟨hx, hb, hml, hown, htl⟩ (k_X6_missed l (a := a) hM H.size ) (cwV 0 htl gL_law_X6_missed rfl rfl rfl (by decide +kernel) ⟨Nat.le_of_ble_eq_true rfl, Nat.le_of_ble_eq_true rfl⟩) (kPreV (m_rcv hK hPm) hPm hK hDm hN) rfl rfl hl.1 rfl (lv_room (Nat.le_of_ble_eq_true rfl)) dL_law_568 ⟨show cN + 0 ≤ 600000 by omega, show sN + 0 ≤ 7302250 by omega⟩) hDm hS hA hP hdj.sym (fun rq568 uq568 H locs hp568 hM hPm hDm hP hdj hS => ?_)
        have hdj := hdj.sym
        refine lv_pop hx hb dL_law_571 rfl ?_
        refine lv_goto (tgt := 759) hx hb dL_law_572 (by decide) ?_
        exact hend hgo (K) cN sN G w _ H locs (by omega) (by omega) hT hK g_h1 hM hP hD hPm hDm hdj hS ls (lv_sub hl [0, 1, 2, 3] rfl)
      · skip
        refine lv_tableIn (off := 543) (tgt := 575) hx hb dL_law_32 (by omega) (by omega) (by rw [tq32]; rfl) (by decide) ?_
        refine lv_aload_n hx hb dL_law_575 rfl (lv_at hl 1 rfl) ?_
        refine lv_aload_n hx hb dL_law_576 rfl (lv_at hl 0 rfl) ?_
        refine lv_iload_n hx hb dL_law_577 rfl (lv_at hl 3 rfl) ?_
        refine lv_iconst (v := 1) hx hb dL_law_578 (by decide) ?_
        refine lv_iadd hx hb dL_law_579 ?_
        refine lv_topi (fun vq579 eq579 => ?_)
        refine va_sld hx hb hX hbl hbA hS (law_in hL hz0 hgo (by decide) (by decide) eq579) dL_law_580 ?_
        refine lv_topi (fun vq580 eq580 => ?_)
        refine lv_aload_n hx hb dL_law_581 rfl (lv_at hl 0 rfl) ?_
        refine lv_iload_n hx hb dL_law_582 rfl (lv_at hl 3 rfl) ?_
        refine lv_iconst (v := 2) hx hb dL_law_583 (by decide) ?_
        refine lv_iadd hx hb dL_law_584 ?_
        refine lv_topi (fun vq584 eq584 => ?_)
        refine va_sld hx hb hX hbl hbA hS (law_in hL hz0 hgo (by decide) (by decide) eq584) dL_law_585 ?_
        refine lv_topi (fun vq585 eq585 => ?_)
        refine l_ci (K := K) (K2 := K) (G := G) (w := w) (w2 := mZ K a (th, um, sm, sA, uA, kA, iA, wA, fA, cA, yA, tA)) (post := fun _ _ _ => True) (va_runV (mc := 0) (ms := 0) (rm := rmX5_odds) (As := [.int vq580, .int vq585]) (rest := []) ⟨hx, hb, hml, hown, htl⟩ (k_X5_odds l hT H.size g_h1 vq580 vq585) (cwV 2 htl gL_law_X5_odds rfl rfl rfl (by decide +kernel) ⟨Nat.le_of_ble_eq_true rfl, Nat.le_of_ble_eq_true rfl⟩) (kPreV (hT.rcv6 g_h1 hK hP) hP hK hD hN) rfl rfl hl.1 rfl (lv_room (Nat.le_of_ble_eq_true rfl)) dL_law_586 ⟨show cN + 0 ≤ 600000 by omega, show sN + 0 ≤ 7302250 by omega⟩) hD hS hA hPm hdj (fun rq586 G w H locs hp586 hg hT hP hD hPm hdj hS => ?_)
        have g_h1 := hg.at g_h1 (by decide)
        refine lv_pop hx hb dL_law_589 rfl ?_
        refine lv_aload_n hx hb dL_law_590 rfl (lv_at hl 2 rfl) ?_
        refine lv_aload_n hx hb dL_law_591 rfl (lv_at hl 0 rfl) ?_
        refine lv_iload_n hx hb dL_law_592 rfl (lv_at hl 3 rfl) ?_
        refine lv_iconst (v := 1) hx hb dL_law_593 (by decide) ?_
        refine lv_iadd hx hb dL_law_594 ?_
        refine lv_topi (fun vq594 eq594 => ?_)
        refine va_sld hx hb hX hbl hbA hS (law_in hL hz0 hgo (by decide) (by decide) eq594) dL_law_595 ?_
        refine lv_topi (fun vq595 eq595 => ?_)
        refine lv_aload_n hx hb dL_law_596 rfl (lv_at hl 0 rfl) ?_
        refine lv_iload_n hx hb dL_law_597 rfl (lv_at hl 3 rfl) ?_
        refine lv_iconst (v := 2) hx hb dL_law_598 (by decide) ?_
        refine lv_iadd hx hb dL_law_599 ?_
        refine lv_topi (fun vq599 eq599 => ?_)
        refine va_sld hx hb hX hbl hbA hS (law_in hL hz0 hgo (by decide) (by decide) eq599) dL_law_600 ?_
        refine lv_topi (fun vq600 eq600 => ?_)
        refine l_mi (K := K) (K2 := K) (a := a) (w := mZ K a (th, um, sm, sA, uA, kA, iA, wA, fA, cA, yA, tA)) (w2 := w) (post := fun _ _ => True) (va_runV (mc := 0) (ms := 0) (rm := rmX6_odds) (As := [.int vq595, .int vq600]) (rest := []) ⟨hx, hb, hml, hown, htl⟩ (k_X6_odds l (a := a) hM H.size vq595 vq600) (cwV 2 htl gL_law_X6_odds rfl rfl rfl (by decide +kernel) ⟨Nat.le_of_ble_eq_true rfl, Nat.le_of_ble_eq_true rfl⟩) (kPreV (m_rcv hK hPm) hPm hK hDm hN) rfl rfl hl.1 rfl (lv_room (Nat.le_of_ble_eq_true rfl)) dL_law_601 ⟨show cN + 0 ≤ 600000 by omega, show sN + 0 ≤ 7302250 by omega⟩) hDm hS hA hP hdj.sym (fun rq601 uq601 H locs hp601 hM hPm hDm hP hdj hS => ?_)
        have hdj := hdj.sym
        refine lv_pop hx hb dL_law_604 rfl ?_
        refine lv_goto (tgt := 759) hx hb dL_law_605 (by decide) ?_
        exact hend hgo (K) cN sN G w _ H locs (by omega) (by omega) hT hK g_h1 hM hP hD hPm hDm hdj hS ls (lv_sub hl [0, 1, 2, 3] rfl)
      · skip
        refine lv_tableIn (off := 576) (tgt := 608) hx hb dL_law_32 (by omega) (by omega) (by rw [tq32]; rfl) (by decide) ?_
        refine lv_aload_n hx hb dL_law_608 rfl (lv_at hl 1 rfl) ?_
        refine lv_aload_n hx hb dL_law_609 rfl (lv_at hl 0 rfl) ?_
        refine lv_iload_n hx hb dL_law_610 rfl (lv_at hl 3 rfl) ?_
        refine lv_iconst (v := 1) hx hb dL_law_611 (by decide) ?_
        refine lv_iadd hx hb dL_law_612 ?_
        refine lv_topi (fun vq612 eq612 => ?_)
        refine va_sld hx hb hX hbl hbA hS (law_in hL hz0 hgo (by decide) (by decide) eq612) dL_law_613 ?_
        refine lv_topi (fun vq613 eq613 => ?_)
        refine lv_aload_n hx hb dL_law_614 rfl (lv_at hl 0 rfl) ?_
        refine lv_iload_n hx hb dL_law_615 rfl (lv_at hl 3 rfl) ?_
        refine lv_iconst (v := 2) hx hb dL_law_616 (by decide) ?_
        refine lv_iadd hx hb dL_law_617 ?_
        refine lv_topi (fun vq617 eq617 => ?_)
        refine va_sld hx hb hX hbl hbA hS (law_in hL hz0 hgo (by decide) (by decide) eq617) dL_law_618 ?_
        refine lv_topi (fun vq618 eq618 => ?_)
        refine l_ci (K := K) (K2 := Kw K (seN (snK K) vq613 vq618)) (G := G) (w := w) (w2 := mZ K a (th, um, sm, sA, uA, kA, iA, wA, fA, cA, yA, tA)) (post := fun (r : Int32) _ _ => seA (snK K) vq613 vq618 r) (va_runV (mc := 0) (ms := 0) (rm := rmX5_sees) (As := [.int vq613, .int vq618]) (rest := []) ⟨hx, hb, hml, hown, htl⟩ (k_X5_sees l hT H.size g_h1 vq613 vq618) (cwV 2 htl gL_law_X5_sees rfl rfl rfl (by decide +kernel) ⟨Nat.le_of_ble_eq_true rfl, Nat.le_of_ble_eq_true rfl⟩) (kPreV (hT.rcv6 g_h1 hK hP) hP hK hD hN) rfl rfl hl.1 rfl (lv_room (Nat.le_of_ble_eq_true rfl)) dL_law_619 ⟨show cN + 0 ≤ 600000 by omega, show sN + 0 ≤ 7302250 by omega⟩) hD hS hA hPm hdj (fun rq619 G w H locs hp619 hg hT hP hD hPm hdj hS => ?_)
        have g_h1 := hg.at g_h1 (by decide)
        refine lv_pop hx hb dL_law_622 rfl ?_
        refine lv_aload_n hx hb dL_law_623 rfl (lv_at hl 2 rfl) ?_
        refine lv_aload_n hx hb dL_law_624 rfl (lv_at hl 0 rfl) ?_
        refine lv_iload_n hx hb dL_law_625 rfl (lv_at hl 3 rfl) ?_
        refine lv_iconst (v := 1) hx hb dL_law_626 (by decide) ?_
        refine lv_iadd hx hb dL_law_627 ?_
        refine lv_topi (fun vq627 eq627 => ?_)
        refine va_sld hx hb hX hbl hbA hS (law_in hL hz0 hgo (by decide) (by decide) eq627) dL_law_628 ?_
        refine lv_topi (fun vq628 eq628 => ?_)
        refine lv_aload_n hx hb dL_law_629 rfl (lv_at hl 0 rfl) ?_
        refine lv_iload_n hx hb dL_law_630 rfl (lv_at hl 3 rfl) ?_
        refine lv_iconst (v := 2) hx hb dL_law_631 (by decide) ?_
        refine lv_iadd hx hb dL_law_632 ?_
        refine lv_topi (fun vq632 eq632 => ?_)
        refine va_sld hx hb hX hbl hbA hS (law_in hL hz0 hgo (by decide) (by decide) eq632) dL_law_633 ?_
        refine lv_topi (fun vq633 eq633 => ?_)
        refine l_mi (K := K) (K2 := Kw K (seN (snK K) vq628 vq633)) (a := a) (w := mZ K a (th, um, sm, sA, uA, kA, iA, wA, fA, cA, yA, tA)) (w2 := w) (post := fun (r : Int32) _ => seA (snK K) vq628 vq633 r) (va_runV (mc := 0) (ms := 0) (rm := rmX6_sees) (As := [.int vq628, .int vq633]) (rest := []) ⟨hx, hb, hml, hown, htl⟩ (k_X6_sees l (a := a) hM H.size vq628 vq633) (cwV 2 htl gL_law_X6_sees rfl rfl rfl (by decide +kernel) ⟨Nat.le_of_ble_eq_true rfl, Nat.le_of_ble_eq_true rfl⟩) (kPreV (m_rcv hK hPm) hPm hK hDm hN) rfl rfl hl.1 rfl (lv_room (Nat.le_of_ble_eq_true rfl)) dL_law_634 ⟨show cN + 0 ≤ 600000 by omega, show sN + 0 ≤ 7302250 by omega⟩) hDm hS hA hP hdj.sym (fun rq634 uq634 H locs hp634 hM hPm hDm hP hdj hS => ?_)
        have hdj := hdj.sym
        subst eq612
        subst eq613
        subst eq617
        subst eq618
        subst eq627
        subst eq628
        subst eq632
        subst eq633
        refine lv_pop hx hb dL_law_637 rfl ?_
        refine lv_goto (tgt := 759) hx hb dL_law_638 (by decide) ?_
        exact hend hgo (_) cN sN G w _ H locs (by omega) (by omega) hT hK g_h1 hM hP hD hPm hDm hdj hS ls (lv_sub hl [0, 1, 2, 3] rfl)
      · skip
        refine lv_tableIn (off := 609) (tgt := 641) hx hb dL_law_32 (by omega) (by omega) (by rw [tq32]; rfl) (by decide) ?_
        refine lv_aload_n hx hb dL_law_641 rfl (lv_at hl 1 rfl) ?_
        refine l_ci (K := K) (K2 := Kw K (0, (snK K).2.1, (snK K).2.2)) (G := G) (w := w) (w2 := mZ K a (th, um, sm, sA, uA, kA, iA, wA, fA, cA, yA, tA)) (post := fun (r : Int32) _ _ => r = (snK K).1) (va_runV (mc := 0) (ms := 0) (rm := rmX5_forget) (As := []) (rest := []) ⟨hx, hb, hml, hown, htl⟩ (k_X5_forget l hT H.size g_h1 ) (cwV 0 htl gL_law_X5_forget rfl rfl rfl (by decide +kernel) ⟨Nat.le_of_ble_eq_true rfl, Nat.le_of_ble_eq_true rfl⟩) (kPreV (hT.rcv6 g_h1 hK hP) hP hK hD hN) rfl rfl hl.1 rfl (lv_room (Nat.le_of_ble_eq_true rfl)) dL_law_642 ⟨show cN + 0 ≤ 600000 by omega, show sN + 0 ≤ 7302250 by omega⟩) hD hS hA hPm hdj (fun rq642 G w H locs hp642 hg hT hP hD hPm hdj hS => ?_)
        have g_h1 := hg.at g_h1 (by decide)
        refine lv_pop hx hb dL_law_645 rfl ?_
        refine lv_aload_n hx hb dL_law_646 rfl (lv_at hl 2 rfl) ?_
        refine l_mi (K := K) (K2 := Kw K (0, (snK K).2.1, (snK K).2.2)) (a := a) (w := mZ K a (th, um, sm, sA, uA, kA, iA, wA, fA, cA, yA, tA)) (w2 := w) (post := fun (r : Int32) _ => r = (snK K).1) (va_runV (mc := 0) (ms := 0) (rm := rmX6_forget) (As := []) (rest := []) ⟨hx, hb, hml, hown, htl⟩ (k_X6_forget l (a := a) hM H.size ) (cwV 0 htl gL_law_X6_forget rfl rfl rfl (by decide +kernel) ⟨Nat.le_of_ble_eq_true rfl, Nat.le_of_ble_eq_true rfl⟩) (kPreV (m_rcv hK hPm) hPm hK hDm hN) rfl rfl hl.1 rfl (lv_room (Nat.le_of_ble_eq_true rfl)) dL_law_647 ⟨show cN + 0 ≤ 600000 by omega, show sN + 0 ≤ 7302250 by omega⟩) hDm hS hA hP hdj.sym (fun rq647 uq647 H locs hp647 hM hPm hDm hP hdj hS => ?_)
        have hdj := hdj.sym
        refine lv_pop hx hb dL_law_650 rfl ?_
        refine lv_goto (tgt := 759) hx hb dL_law_651 (by decide) ?_
        exact hend hgo (_) cN sN G w _ H locs (by omega) (by omega) hT hK g_h1 hM hP hD hPm hDm hdj hS ls (lv_sub hl [0, 1, 2, 3] rfl)
      · skip
        refine lv_tableIn (off := 622) (tgt := 654) hx hb dL_law_32 (by omega) (by omega) (by rw [tq32]; rfl) (by decide) ?_
        refine lv_aload_n hx hb dL_law_654 rfl (lv_at hl 1 rfl) ?_
        refine lv_aload_n hx hb dL_law_655 rfl (lv_at hl 0 rfl) ?_
        refine lv_iload_n hx hb dL_law_656 rfl (lv_at hl 3 rfl) ?_
        refine lv_iconst (v := 1) hx hb dL_law_657 (by decide) ?_
        refine lv_iadd hx hb dL_law_658 ?_
        refine lv_topi (fun vq658 eq658 => ?_)
        refine va_sld hx hb hX hbl hbA hS (law_in hL hz0 hgo (by decide) (by decide) eq658) dL_law_659 ?_
        refine lv_topi (fun vq659 eq659 => ?_)
        refine l_ci (K := K) (K2 := K) (G := G) (w := w) (w2 := mZ K a (th, um, sm, sA, uA, kA, iA, wA, fA, cA, yA, tA)) (post := fun (r : Int32) _ _ => unA (snK K) vq659 r) (va_runV (mc := 0) (ms := 0) (rm := rmX5_unseen) (As := [.int vq659]) (rest := []) ⟨hx, hb, hml, hown, htl⟩ (k_X5_unseen l hT H.size g_h1 vq659) (cwV 1 htl gL_law_X5_unseen rfl rfl rfl (by decide +kernel) ⟨Nat.le_of_ble_eq_true rfl, Nat.le_of_ble_eq_true rfl⟩) (kPreV (hT.rcv6 g_h1 hK hP) hP hK hD hN) rfl rfl hl.1 rfl (lv_room (Nat.le_of_ble_eq_true rfl)) dL_law_660 ⟨show cN + 0 ≤ 600000 by omega, show sN + 0 ≤ 7302250 by omega⟩) hD hS hA hPm hdj (fun rq660 G w H locs hp660 hg hT hP hD hPm hdj hS => ?_)
        have g_h1 := hg.at g_h1 (by decide)
        refine lv_pop hx hb dL_law_663 rfl ?_
        refine lv_aload_n hx hb dL_law_664 rfl (lv_at hl 2 rfl) ?_
        refine lv_aload_n hx hb dL_law_665 rfl (lv_at hl 0 rfl) ?_
        refine lv_iload_n hx hb dL_law_666 rfl (lv_at hl 3 rfl) ?_
        refine lv_iconst (v := 1) hx hb dL_law_667 (by decide) ?_
        refine lv_iadd hx hb dL_law_668 ?_
        refine lv_topi (fun vq668 eq668 => ?_)
        refine va_sld hx hb hX hbl hbA hS (law_in hL hz0 hgo (by decide) (by decide) eq668) dL_law_669 ?_
        refine lv_topi (fun vq669 eq669 => ?_)
        refine l_mi (K := K) (K2 := K) (a := a) (w := mZ K a (th, um, sm, sA, uA, kA, iA, wA, fA, cA, yA, tA)) (w2 := w) (post := fun (r : Int32) _ => unA (snK K) vq669 r) (va_runV (mc := 0) (ms := 0) (rm := rmX6_unseen) (As := [.int vq669]) (rest := []) ⟨hx, hb, hml, hown, htl⟩ (k_X6_unseen l (a := a) hM H.size vq669) (cwV 1 htl gL_law_X6_unseen rfl rfl rfl (by decide +kernel) ⟨Nat.le_of_ble_eq_true rfl, Nat.le_of_ble_eq_true rfl⟩) (kPreV (m_rcv hK hPm) hPm hK hDm hN) rfl rfl hl.1 rfl (lv_room (Nat.le_of_ble_eq_true rfl)) dL_law_670 ⟨show cN + 0 ≤ 600000 by omega, show sN + 0 ≤ 7302250 by omega⟩) hDm hS hA hP hdj.sym (fun rq670 uq670 H locs hp670 hM hPm hDm hP hdj hS => ?_)
        have hdj := hdj.sym
        refine lv_pop hx hb dL_law_673 rfl ?_
        refine lv_goto (tgt := 759) hx hb dL_law_674 (by decide) ?_
        exact hend hgo (K) cN sN G w _ H locs (by omega) (by omega) hT hK g_h1 hM hP hD hPm hDm hdj hS ls (lv_sub hl [0, 1, 2, 3] rfl)
      · skip
        refine lv_tableIn (off := 645) (tgt := 677) hx hb dL_law_32 (by omega) (by omega) (by rw [tq32]; rfl) (by decide) ?_
        refine lv_aload_n hx hb dL_law_677 rfl (lv_at hl 1 rfl) ?_
        refine l_ci (K := K) (K2 := K) (G := G) (w := w) (w2 := mZ K a (th, um, sm, sA, uA, kA, iA, wA, fA, cA, yA, tA)) (post := fun (r : Int32) _ _ => nxA (snK K) r) (va_runV (mc := 0) (ms := 0) (rm := rmX5_next) (As := []) (rest := []) ⟨hx, hb, hml, hown, htl⟩ (k_X5_next l hT H.size g_h1 ) (cwV 0 htl gL_law_X5_next rfl rfl rfl (by decide +kernel) ⟨Nat.le_of_ble_eq_true rfl, Nat.le_of_ble_eq_true rfl⟩) (kPreV (hT.rcv6 g_h1 hK hP) hP hK hD hN) rfl rfl hl.1 rfl (lv_room (Nat.le_of_ble_eq_true rfl)) dL_law_678 ⟨show cN + 0 ≤ 600000 by omega, show sN + 0 ≤ 7302250 by omega⟩) hD hS hA hPm hdj (fun rq678 G w H locs hp678 hg hT hP hD hPm hdj hS => ?_)
        have g_h1 := hg.at g_h1 (by decide)
        refine lv_aload_n hx hb dL_law_681 rfl (lv_at hl 2 rfl) ?_
        refine l_mi (K := K) (K2 := K) (a := a) (w := mZ K a (th, um, sm, sA, uA, kA, iA, wA, fA, cA, yA, tA)) (w2 := w) (post := fun (r : Int32) _ => nxA (snK K) r) (va_runV (mc := 0) (ms := 0) (rm := rmX6_next) (As := []) (rest := [.int rq678]) ⟨hx, hb, hml, hown, htl⟩ (k_X6_next l (a := a) hM H.size ) (cwV 0 htl gL_law_X6_next rfl rfl rfl (by decide +kernel) ⟨Nat.le_of_ble_eq_true rfl, Nat.le_of_ble_eq_true rfl⟩) (kPreV (m_rcv hK hPm) hPm hK hDm hN) rfl rfl hl.1 rfl (lv_room (Nat.le_of_ble_eq_true rfl)) dL_law_682 ⟨show cN + 0 ≤ 600000 by omega, show sN + 0 ≤ 7302250 by omega⟩) hDm hS hA hP hdj.sym (fun rq682 uq682 H locs hp682 hM hPm hDm hP hdj hS => ?_)
        have hdj := hdj.sym
        refine lv_icmp_eq (tgt := 759) hx hb dL_law_685 (by decide) (fun cq685 => ?_) (fun cq685 => ?_)
        · skip
          exact hend hgo (K) cN sN G w _ H locs (by omega) (by omega) hT hK g_h1 hM hP hD hPm hDm hdj hS ls (lv_sub hl [0, 1, 2, 3] rfl)
        · skip
          exact absurd (nxA_eq hp678 hp682) cq685
      · skip
        refine lv_tableIn (off := 658) (tgt := 690) hx hb dL_law_32 (by omega) (by omega) (by rw [tq32]; rfl) (by decide) ?_
        refine lv_aload_n hx hb dL_law_690 rfl (lv_at hl 1 rfl) ?_
        refine lv_aload_n hx hb dL_law_691 rfl (lv_at hl 0 rfl) ?_
        refine lv_iload_n hx hb dL_law_692 rfl (lv_at hl 3 rfl) ?_
        refine lv_iconst (v := 1) hx hb dL_law_693 (by decide) ?_
        refine lv_iadd hx hb dL_law_694 ?_
        refine lv_topi (fun vq694 eq694 => ?_)
        refine va_sld hx hb hX hbl hbA hS (law_in hL hz0 hgo (by decide) (by decide) eq694) dL_law_695 ?_
        refine lv_topi (fun vq695 eq695 => ?_)
        refine l_ci (K := K) (K2 := K) (G := G) (w := w) (w2 := mZ K a (th, um, sm, sA, uA, kA, iA, wA, fA, cA, yA, tA)) (post := fun _ _ _ => True) (va_runV (mc := 3) (ms := 12) (rm := rmX5_keep) (As := [.int vq695]) (rest := []) ⟨hx, hb, hml, hown, htl⟩ (k_X5_keep l hT H.size g_h1 vq695) (cwV 1 htl gL_law_X5_keep rfl rfl rfl (by decide +kernel) ⟨Nat.le_of_ble_eq_true rfl, Nat.le_of_ble_eq_true rfl⟩) (kPreV (hT.rcv6 g_h1 hK hP) hP hK hD hN) rfl rfl hl.1 rfl (lv_room (Nat.le_of_ble_eq_true rfl)) dL_law_696 ⟨show cN + 3 ≤ 600000 by omega, show sN + 12 ≤ 7302250 by omega⟩) hD hS hA hPm hdj (fun rq696 G w H locs hp696 hg hT hP hD hPm hdj hS => ?_)
        have g_h1 := hg.at g_h1 (by decide)
        refine lv_pop hx hb dL_law_699 rfl ?_
        refine lv_aload_n hx hb dL_law_700 rfl (lv_at hl 2 rfl) ?_
        refine lv_aload_n hx hb dL_law_701 rfl (lv_at hl 0 rfl) ?_
        refine lv_iload_n hx hb dL_law_702 rfl (lv_at hl 3 rfl) ?_
        refine lv_iconst (v := 1) hx hb dL_law_703 (by decide) ?_
        refine lv_iadd hx hb dL_law_704 ?_
        refine lv_topi (fun vq704 eq704 => ?_)
        refine va_sld hx hb hX hbl hbA hS (law_in hL hz0 hgo (by decide) (by decide) eq704) dL_law_705 ?_
        refine lv_topi (fun vq705 eq705 => ?_)
        refine l_mi (K := K) (K2 := K) (a := a) (w := mZ K a (th, um, sm, sA, uA, kA, iA, wA, fA, cA, yA, tA)) (w2 := w) (post := fun _ _ => True) (va_runV (mc := 0) (ms := 0) (rm := rmX6_keep) (As := [.int vq705]) (rest := []) ⟨hx, hb, hml, hown, htl⟩ (k_X6_keep l (a := a) hM H.size vq705) (cwV 1 htl gL_law_X6_keep rfl rfl rfl (by decide +kernel) ⟨Nat.le_of_ble_eq_true rfl, Nat.le_of_ble_eq_true rfl⟩) (kPreV (m_rcv hK hPm) hPm hK hDm hN) rfl rfl hl.1 rfl (lv_room (Nat.le_of_ble_eq_true rfl)) dL_law_706 ⟨show (cN + 3) + 0 ≤ 600000 by omega, show (sN + 12) + 0 ≤ 7302250 by omega⟩) hDm hS hA hP hdj.sym (fun rq706 uq706 H locs hp706 hM hPm hDm hP hdj hS => ?_)
        have hdj := hdj.sym
        refine lv_pop hx hb dL_law_709 rfl ?_
        refine lv_goto (tgt := 759) hx hb dL_law_710 (by decide) ?_
        exact hend hgo (K) (cN + 3) (sN + 12) G w _ H locs (by omega) (by omega) hT hK g_h1 hM hP hD hPm hDm hdj hS ls (lv_sub hl [0, 1, 2, 3] rfl)
      · skip
        refine lv_tableIn (off := 681) (tgt := 713) hx hb dL_law_32 (by omega) (by omega) (by rw [tq32]; rfl) (by decide) ?_
        refine lv_aload_n hx hb dL_law_713 rfl (lv_at hl 1 rfl) ?_
        refine lv_aload_n hx hb dL_law_714 rfl (lv_at hl 0 rfl) ?_
        refine lv_iload_n hx hb dL_law_715 rfl (lv_at hl 3 rfl) ?_
        refine lv_iconst (v := 1) hx hb dL_law_716 (by decide) ?_
        refine lv_iadd hx hb dL_law_717 ?_
        refine lv_topi (fun vq717 eq717 => ?_)
        refine va_sld hx hb hX hbl hbA hS (law_in hL hz0 hgo (by decide) (by decide) eq717) dL_law_718 ?_
        refine lv_topi (fun vq718 eq718 => ?_)
        refine l_ci (K := K) (K2 := K) (G := G) (w := w) (w2 := mZ K a (th, um, sm, sA, uA, kA, iA, wA, fA, cA, yA, tA)) (post := fun _ _ _ => True) (va_runV (mc := 0) (ms := 0) (rm := rmX5_back) (As := [.int vq718]) (rest := []) ⟨hx, hb, hml, hown, htl⟩ (k_X5_back l hT H.size g_h1 vq718) (cwV 1 htl gL_law_X5_back rfl rfl rfl (by decide +kernel) ⟨Nat.le_of_ble_eq_true rfl, Nat.le_of_ble_eq_true rfl⟩) (kPreV (hT.rcv6 g_h1 hK hP) hP hK hD hN) rfl rfl hl.1 rfl (lv_room (Nat.le_of_ble_eq_true rfl)) dL_law_719 ⟨show cN + 0 ≤ 600000 by omega, show sN + 0 ≤ 7302250 by omega⟩) hD hS hA hPm hdj (fun rq719 G w H locs hp719 hg hT hP hD hPm hdj hS => ?_)
        have g_h1 := hg.at g_h1 (by decide)
        refine lv_pop hx hb dL_law_722 rfl ?_
        refine lv_aload_n hx hb dL_law_723 rfl (lv_at hl 2 rfl) ?_
        refine lv_aload_n hx hb dL_law_724 rfl (lv_at hl 0 rfl) ?_
        refine lv_iload_n hx hb dL_law_725 rfl (lv_at hl 3 rfl) ?_
        refine lv_iconst (v := 1) hx hb dL_law_726 (by decide) ?_
        refine lv_iadd hx hb dL_law_727 ?_
        refine lv_topi (fun vq727 eq727 => ?_)
        refine va_sld hx hb hX hbl hbA hS (law_in hL hz0 hgo (by decide) (by decide) eq727) dL_law_728 ?_
        refine lv_topi (fun vq728 eq728 => ?_)
        refine l_mi (K := K) (K2 := K) (a := a) (w := mZ K a (th, um, sm, sA, uA, kA, iA, wA, fA, cA, yA, tA)) (w2 := w) (post := fun _ _ => True) (va_runV (mc := 0) (ms := 0) (rm := rmX6_back) (As := [.int vq728]) (rest := []) ⟨hx, hb, hml, hown, htl⟩ (k_X6_back l (a := a) hM H.size vq728) (cwV 1 htl gL_law_X6_back rfl rfl rfl (by decide +kernel) ⟨Nat.le_of_ble_eq_true rfl, Nat.le_of_ble_eq_true rfl⟩) (kPreV (m_rcv hK hPm) hPm hK hDm hN) rfl rfl hl.1 rfl (lv_room (Nat.le_of_ble_eq_true rfl)) dL_law_729 ⟨show cN + 0 ≤ 600000 by omega, show sN + 0 ≤ 7302250 by omega⟩) hDm hS hA hP hdj.sym (fun rq729 uq729 H locs hp729 hM hPm hDm hP hdj hS => ?_)
        have hdj := hdj.sym
        refine lv_pop hx hb dL_law_732 rfl ?_
        refine lv_goto (tgt := 759) hx hb dL_law_733 (by decide) ?_
        exact hend hgo (K) cN sN G w _ H locs (by omega) (by omega) hT hK g_h1 hM hP hD hPm hDm hdj hS ls (lv_sub hl [0, 1, 2, 3] rfl)
      · skip
        refine lv_tableIn (off := 704) (tgt := 736) hx hb dL_law_32 (by omega) (by omega) (by rw [tq32]; rfl) (by decide) ?_
        refine lv_aload_n hx hb dL_law_736 rfl (lv_at hl 1 rfl) ?_
        refine lv_aload_n hx hb dL_law_737 rfl (lv_at hl 0 rfl) ?_
        refine lv_iload_n hx hb dL_law_738 rfl (lv_at hl 3 rfl) ?_
        refine lv_iconst (v := 1) hx hb dL_law_739 (by decide) ?_
        refine lv_iadd hx hb dL_law_740 ?_
        refine lv_topi (fun vq740 eq740 => ?_)
        refine va_sld hx hb hX hbl hbA hS (law_in hL hz0 hgo (by decide) (by decide) eq740) dL_law_741 ?_
        refine lv_topi (fun vq741 eq741 => ?_)
        refine l_ri (K := K) (w := w) (w2 := mZ K a (th, um, sm, sA, uA, kA, iA, wA, fA, cA, yA, tA)) (post := fun _ => True) (va_runV (As := [.int vq741]) (rest := []) ⟨hx, hb, hml, hown, htl⟩ (k_X5_count l hT g_h1 vq741) (cwV 1 htl gL_law_X5_count rfl rfl rfl (by decide +kernel) ⟨Nat.le_of_ble_eq_true rfl, Nat.le_of_ble_eq_true rfl⟩) (rPreV (hT.rcv6 g_h1 hK hP) hP hK hD hN) rfl rfl hl.1 rfl (lv_room (Nat.le_of_ble_eq_true rfl)) dL_law_742 ⟨show cN + 0 ≤ 600000 by omega, show sN + 0 ≤ 7302250 by omega⟩) hP hPm hS (fun rq742 H locs hp742 hP hPm hS => ?_)
        refine lv_pop hx hb dL_law_745 rfl ?_
        refine lv_aload_n hx hb dL_law_746 rfl (lv_at hl 2 rfl) ?_
        refine lv_aload_n hx hb dL_law_747 rfl (lv_at hl 0 rfl) ?_
        refine lv_iload_n hx hb dL_law_748 rfl (lv_at hl 3 rfl) ?_
        refine lv_iconst (v := 1) hx hb dL_law_749 (by decide) ?_
        refine lv_iadd hx hb dL_law_750 ?_
        refine lv_topi (fun vq750 eq750 => ?_)
        refine va_sld hx hb hX hbl hbA hS (law_in hL hz0 hgo (by decide) (by decide) eq750) dL_law_751 ?_
        refine lv_topi (fun vq751 eq751 => ?_)
        refine l_mi (K := K) (K2 := K) (a := a) (w := mZ K a (th, um, sm, sA, uA, kA, iA, wA, fA, cA, yA, tA)) (w2 := w) (post := fun _ _ => True) (va_runV (mc := 0) (ms := 0) (rm := rmX6_count) (As := [.int vq751]) (rest := []) ⟨hx, hb, hml, hown, htl⟩ (k_X6_count l (a := a) hM H.size vq751) (cwV 1 htl gL_law_X6_count rfl rfl rfl (by decide +kernel) ⟨Nat.le_of_ble_eq_true rfl, Nat.le_of_ble_eq_true rfl⟩) (kPreV (m_rcv hK hPm) hPm hK hDm hN) rfl rfl hl.1 rfl (lv_room (Nat.le_of_ble_eq_true rfl)) dL_law_752 ⟨show cN + 0 ≤ 600000 by omega, show sN + 0 ≤ 7302250 by omega⟩) hDm hS hA hP hdj.sym (fun rq752 uq752 H locs hp752 hM hPm hDm hP hdj hS => ?_)
        have hdj := hdj.sym
        refine lv_pop hx hb dL_law_755 rfl ?_
        refine lv_goto (tgt := 759) hx hb dL_law_756 (by decide) ?_
        exact hend hgo (K) cN sN G w _ H locs (by omega) (by omega) hT hK g_h1 hM hP hD hPm hDm hdj hS ls (lv_sub hl [0, 1, 2, 3] rfl)

/-! the reference's marks -/
def canF (n : SN) (c : Nat → Int32) (m : Nat) : Prop := ∀ i : Nat, i < m → c (2 * i + 3) = if opn n (2 * i + 3) = true then 1 else 0
def maI (n : SN) (c : Nat → Int32) (z1 z2 : Int32) : Prop := ∃ i : Nat, i ≤ 99 ∧ z2.toInt = 2 * (i : Int) + 3 ∧ z1.toInt = ((opL n i).length : Int) ∧ canF n c i
theorem maI_0 {n : SN} {c : Nat → Int32} : maI n c 0 3 := ⟨0, by decide, by decide, rfl, fun i hi => absurd hi (Nat.not_lt_zero i)⟩
def mkI (n : SN) (z2 z3 z4 : Int32) : Prop := (0 ≤ z4.toInt ∧ z4.toInt ≤ n.1.toInt) ∧ ((z3 = 1 ∧ opB n z2.toInt.toNat z4.toInt.toNat = true) ∨ (z3 = 0 ∧ opB n z2.toInt.toNat z4.toInt.toNat = false))
theorem mkI_0 {n : SN} {z2 : Int32} (h : okN n) : mkI n z2 1 0 := ⟨⟨by decide, h.1.1⟩, Or.inl ⟨rfl, rfl⟩⟩
theorem mk_lt {n : SN} {sm z : Int32} (hs : sm = n.1) (c : ¬ sm ≤ z) : z.toInt < n.1.toInt := by
  rw [iq_le, hs] at c
  omega
theorem mkI_zero {n : SN} {z2 z3 z4 v71 : Int32} (h : mkI n z2 z3 z4) (hok : okN n) (c26 : z3 = 0) (hlt : z4.toInt < n.1.toInt) (e71 : v71 = z4 + 1) : mkI n z2 0 v71 := by
  have h0 := h.1.1
  have h6 := hok.1.2
  have e := iq_add1 e71 (by omega)
  have hf := (h.2.resolve_left (fun q => by rw [c26] at q; exact absurd q.1 (by decide))).2
  refine ⟨⟨by omega, by omega⟩, Or.inr ⟨rfl, ?_⟩⟩
  rw [show v71.toInt.toNat = z4.toInt.toNat + 1 by omega]
  exact opB_down hf 1
def mkS (n : SN) (z2 z4 sk : Int32) : Prop := (0 ≤ z4.toInt ∧ z4.toInt < n.1.toInt) ∧ opB n z2.toInt.toNat z4.toInt.toNat = true ∧ ((sk = 1 ∧ (n.2.1 z4.toNatClampNeg).toInt % z2.toInt = 0) ∨ (sk = 0 ∧ ¬ (n.2.1 z4.toNatClampNeg).toInt % z2.toInt = 0))
theorem mkS_of {n : SN} {w : Nat → Int32} {z2 z3 z4 v35 v37 sk : Int32} (h : mkI n z2 z3 z4) (hok : okN n) (c26 : ¬ z3 = 0) (hlt : z4.toInt < n.1.toInt) (hw : w = n.2.1) (e35 : v35 = w z4.toNatClampNeg) (e37 : v37 = v35 - v35 / z2 * z2) (hs : (v37 = 0 ∧ sk = 1) ∨ (¬ v37 = 0 ∧ sk = 0)) : mkS n z2 z4 sk := by
  have h0 := h.1.1
  have hw1 := (hok.2 z4.toInt.toNat (by omega)).1.1
  rw [hw, cl_toNat] at e35
  have hr := iq_remn (by rw [e35]; omega) e37
  rw [e35] at hr
  refine ⟨⟨h0, hlt⟩, (h.2.resolve_right (fun q => c26 q.1)).2, ?_⟩
  rw [cl_toNat]
  rcases hs with ⟨h1, h2⟩ | ⟨h1, h2⟩
  · exact Or.inl ⟨h2, by rw [← hr, h1]; rfl⟩
  · exact Or.inr ⟨h2, fun q => h1 (iq_eq.mpr (hr.trans q))⟩
theorem mkI_step {n : SN} {f : Nat → Int32} {z2 z4 sk v52 cb x v71 : Int32} (h : mkS n z2 z4 sk) (hok : okN n) (ha : 1 ≤ z2.toInt) (hf : f = n.2.2) (e52 : v52 = f z4.toNatClampNeg) (hc : (v52 = 1 ∧ cb = 1) ∨ (¬ v52 = 1 ∧ cb = 0)) (hx : (sk = cb ∧ x = 1) ∨ (¬ sk = cb ∧ x = 0)) (e71 : v71 = z4 + 1) : mkI n z2 x v71 := by
  obtain ⟨⟨h0, hlt⟩, hb, hs⟩ := h
  have h6 := hok.1.2
  have e := iq_add1 e71 (by omega)
  have hfb := (hok.2 z4.toInt.toNat (by omega)).2
  rw [hf, cl_toNat] at e52
  have hw := bit_w (n := n) (z := z4) ha
  refine ⟨⟨by omega, by omega⟩, ?_⟩
  rw [show v71.toInt.toNat = z4.toInt.toNat + 1 by omega]
  show (x = 1 ∧ (opB n z2.toInt.toNat z4.toInt.toNat && bitB n z2.toInt.toNat z4.toInt.toNat) = true) ∨ (x = 0 ∧ (opB n z2.toInt.toNat z4.toInt.toNat && bitB n z2.toInt.toNat z4.toInt.toNat) = false)
  rw [hb, Bool.true_and]
  unfold bitB
  rw [← e52]
  have hA : (sk = 1 ∧ decide ((n.2.1 z4.toInt.toNat).toInt % (z2.toInt.toNat : Int) = 0) = true) ∨ (sk = 0 ∧ decide ((n.2.1 z4.toInt.toNat).toInt % (z2.toInt.toNat : Int) = 0) = false) := hs.imp (fun q => ⟨q.1, decide_eq_true (hw.mp q.2)⟩) (fun q => ⟨q.1, decide_eq_false (fun q2 => q.2 (hw.mpr q2))⟩)
  have hB : (cb = 1 ∧ decide (v52 = 1) = true) ∨ (cb = 0 ∧ decide (v52 = 1) = false) := hc.imp (fun q => ⟨q.2, decide_eq_true q.1⟩) (fun q => ⟨q.2, decide_eq_false q.1⟩)
  rcases hA with ⟨a1, a2⟩ | ⟨a1, a2⟩ <;> rcases hB with ⟨b1, b2⟩ | ⟨b1, b2⟩ <;> rw [a2, b2] <;> rw [a1, b1] at hx <;> rcases hx with ⟨q, r⟩ | ⟨q, r⟩
  · exact Or.inl ⟨r, rfl⟩
  · exact absurd rfl q
  · exact absurd q (by decide)
  · exact Or.inr ⟨r, rfl⟩
  · exact absurd q (by decide)
  · exact Or.inr ⟨r, rfl⟩
  · exact Or.inl ⟨r, rfl⟩
  · exact absurd rfl q
theorem canF_next {n : SN} {c : Nat → Int32} {i : Nat} {x : Int32} (h : canF n c i) (hx : x = if opn n (2 * i + 3) = true then 1 else 0) : canF n (upd c (2 * i + 3) x) (i + 1) := fun j hj => by
  by_cases hq : j = i
  · subst hq
    rw [upd_at]
    exact hx
  · rw [upd_off _ _ (by omega)]
    exact h j (by omega)
theorem maI_next {n : SN} {c c2 : Nat → Int32} {z1 z2 z3 z4 v94 v96 : Int32} (h : maI n c z1 z2) (hz2 : z2.toInt < 200) (hk : mkI n z2 z3 z4) (hge : n.1.toInt ≤ z4.toInt) (en : upd c z2.toNatClampNeg (vp_nar .boolean z3) = c2) (hv : (z3 = 0 ∧ v94 = z1 + 0) ∨ (¬ z3 = 0 ∧ v94 = z1 + 1)) (e96 : v96 = z2 + 2) : maI n c2 v94 v96 := by
  obtain ⟨i, h1, h2, h3, h4⟩ := h
  have hl := opL_len (n := n) i
  have e := iq_add2 e96 (by omega)
  have hk1 := hk.1
  have hkk := hk.2
  rw [show z4.toInt.toNat = n.1.toInt.toNat by omega, ga_toNat h2] at hkk
  rw [cl_toNat, ga_toNat h2] at en
  subst en
  rcases hkk with ⟨a, b⟩ | ⟨a, b⟩
  · have b : opn n (2 * i + 3) = true := b
    have hv1 := (hv.resolve_left (fun q => by rw [a] at q; exact absurd q.1 (by decide))).2
    have e1 := iq_add1 hv1 (by omega)
    refine ⟨i + 1, by omega, by omega, ?_, canF_next h4 (by rw [if_pos b, a]; rfl)⟩
    rw [opL_yes b, List.length_append]
    show _ = (((opL n i).length + 1 : Nat) : Int)
    omega
  · have b : opn n (2 * i + 3) = false := b
    have hv1 := (hv.resolve_right (fun q => q.1 a)).2
    have e1 : v94.toInt = z1.toInt := by
      rw [hv1, iq_add (by show _ ≤ z1.toInt + 0; omega) (by show z1.toInt + 0 < _; omega)]
      show z1.toInt + 0 = _
      omega
    refine ⟨i + 1, by omega, by omega, ?_, canF_next h4 (by rw [if_neg (by rw [b]; decide), a]; rfl)⟩
    rw [opL_no b]
    omega
def mkA (n : SN) (r : Int32) (c : Nat → Int32) : Prop := r.toInt = ((opL n 99).length : Int) ∧ canF n c 99
theorem maI_end {n : SN} {c : Nat → Int32} {z1 z2 : Int32} (h : maI n c z1 z2) (c8 : 200 ≤ z2) : mkA n z1 c := by
  obtain ⟨i, h1, h2, h3, h4⟩ := h
  rw [iq_le] at c8
  have c8 : (200 : Int) ≤ z2.toInt := c8
  have hq : i = 99 := by omega
  subst hq
  exact ⟨h3, h4⟩
/-! its least one -/
def foI (n : SN) (z3 : Int32) : Prop := ∃ i : Nat, i ≤ 99 ∧ z3.toInt = 2 * (i : Int) + 3 ∧ ∀ j : Nat, j < i → opn n (2 * j + 3) = false
theorem foI_0 {n : SN} : foI n 3 := ⟨0, by decide, by decide, fun j hj => absurd hj (Nat.not_lt_zero j)⟩
theorem can_at {n : SN} {c : Nat → Int32} {z v : Int32} {i : Nat} (hc : canF n c 99) (hi : i < 99) (hz : z.toInt = 2 * (i : Int) + 3) (e : v = c z.toNatClampNeg) : v = 0 ↔ opn n (2 * i + 3) = false := by
  rw [cl_toNat, ga_toNat hz, hc i hi] at e
  rw [e]
  cases opn n (2 * i + 3) <;> decide
theorem fo_lt {z3 : Int32} {i : Nat} (hz : z3.toInt = 2 * (i : Int) + 3) (c28 : ¬ 200 ≤ z3) : i < 99 := by
  rw [iq_le] at c28
  have c28 : ¬ (200 : Int) ≤ z3.toInt := c28
  omega
theorem foI_next {n : SN} {c : Nat → Int32} {z3 v36 v40 : Int32} (h : foI n z3) (hc : canF n c 99) (c28 : ¬ 200 ≤ z3) (e36 : v36 = c z3.toNatClampNeg) (c37 : v36 = 0) (e40 : v40 = z3 + 2) : foI n v40 := by
  obtain ⟨i, h1, h2, h3⟩ := h
  have hl := fo_lt h2 c28
  have e := iq_add2 e40 (by omega)
  have hn := (can_at hc hl h2 e36).mp c37
  refine ⟨i + 1, hl, by omega, fun j hj => ?_⟩
  by_cases hq : j = i
  · rw [hq]; exact hn
  · exact h3 j (by omega)
def frI (n : SN) (z3 : Int32) : Prop := ∃ i : Nat, i ≤ 99 ∧ z3.toInt = 2 * (i : Int) + 3 ∧ (∀ j : Nat, j < i → opn n (2 * j + 3) = false) ∧ (i = 99 ∨ opn n (2 * i + 3) = true)
theorem frI_out {n : SN} {z3 : Int32} (h : foI n z3) (c28 : 200 ≤ z3) : frI n z3 := by
  obtain ⟨i, h1, h2, h3⟩ := h
  rw [iq_le] at c28
  have c28 : (200 : Int) ≤ z3.toInt := c28
  exact ⟨i, h1, h2, h3, Or.inl (by omega)⟩
theorem frI_hit {n : SN} {c : Nat → Int32} {z3 v36 : Int32} (h : foI n z3) (hc : canF n c 99) (c28 : ¬ 200 ≤ z3) (e36 : v36 = c z3.toNatClampNeg) (c37 : ¬ v36 = 0) : frI n z3 := by
  obtain ⟨i, h1, h2, h3⟩ := h
  have hl := fo_lt h2 c28
  refine ⟨i, h1, h2, h3, Or.inr ?_⟩
  cases hq : opn n (2 * i + 3) with
  | true => rfl
  | false => exact absurd ((can_at hc hl h2 e36).mpr hq) c37
theorem loA_m0 {n : SN} {z3 : Int32} (h : frI n z3) (c58 : 200 ≤ z3) : loA n (-1000000) := by
  obtain ⟨i, h1, h2, h3, h4⟩ := h
  rw [iq_le] at c58
  have c58 : (200 : Int) ≤ z3.toInt := c58
  have hq : i = 99 := by omega
  subst hq
  exact Or.inl ⟨by rw [opL_nil 99 h3]; rfl, rfl⟩
theorem loA_m1 {n : SN} {z3 : Int32} (h : frI n z3) (c58 : ¬ 200 ≤ z3) : loA n z3 := by
  obtain ⟨i, h1, h2, h3, h4⟩ := h
  have hl := fo_lt h2 c58
  have hy := h4.resolve_left (by omega)
  have hh := opL_head h3 hy (98 - i)
  rw [show i + 1 + (98 - i) = 99 by omega] at hh
  exact Or.inr ⟨2 * i + 3, hh, by omega⟩
theorem unA_m {n : SN} {p z2 r : Int32} (h0 : 0 ≤ p.toInt ∧ p.toInt ≤ 1) (hl : z2.toInt = ((opL n 99).length : Int)) (hr : (p = 0 ∧ r = z2) ∨ (¬ p = 0 ∧ loA n r)) : unA n p r := by
  rcases hr with ⟨q, e⟩ | ⟨q, e⟩
  · exact Or.inr (Or.inl ⟨by rw [q]; rfl, by rw [e]; exact hl⟩)
  · have : p.toInt ≠ 0 := fun q2 => q (iq_eq.mpr q2)
    exact Or.inr (Or.inr ⟨by omega, e⟩)
/-! its word to try -/
def rnI (n : SN) (z2 z3 z4 : Int32) : Prop := ∃ m : Nat, m ≤ 99 ∧ z4.toInt = (m : Int) + 1 ∧ bI n m z2 z3 999 ∧ (m = 0 ∨ 1 < (opL n 99).length)
theorem rnI_0 {n : SN} : rnI n (-1000000) 999 1 := ⟨0, by decide, by decide, Or.inl ⟨rfl, rfl, by decide⟩, Or.inl rfl⟩
theorem rnI_keep {n : SN} {z1 z2 z3 z4 g v : Int32} (h : rnI n z2 z3 z4) (h4 : z4.toInt < 100) (hl : z1.toInt = ((opL n 99).length : Int)) (h1 : ¬ z1 ≤ 1) (hg : g.toInt = (gW n z4.toInt.toNat : Int)) (c : z3 ≤ g) (e : v = z4 + 1) : rnI n z2 z3 v := by
  obtain ⟨m, a1, a2, a3, a4⟩ := h
  have ev := iq_add1 e (by omega)
  have hz := opL_len (n := n) 99
  rw [show z4.toInt.toNat = m + 1 by omega] at hg
  rw [iq_le] at h1
  have h1 : ¬ z1.toInt ≤ (1 : Int) := h1
  exact ⟨m + 1, by omega, by omega, bI_keep a3 (by omega) hg c, Or.inr (by omega)⟩
theorem rnI_take {n : SN} {z1 z2 z3 z4 g v : Int32} (h : rnI n z2 z3 z4) (h4 : z4.toInt < 100) (hl : z1.toInt = ((opL n 99).length : Int)) (h1 : ¬ z1 ≤ 1) (hg : g.toInt = (gW n z4.toInt.toNat : Int)) (c : ¬ z3 ≤ g) (e : v = z4 + 1) : rnI n z4 g v := by
  obtain ⟨m, a1, a2, a3, a4⟩ := h
  have ev := iq_add1 e (by omega)
  rw [show z4.toInt.toNat = m + 1 by omega] at hg
  rw [iq_le] at h1
  have h1 : ¬ z1.toInt ≤ (1 : Int) := h1
  exact ⟨m + 1, by omega, by omega, bI_take a3 hg (by omega) c, Or.inr (by omega)⟩
theorem rnI_end {n : SN} {z1 z2 z3 z4 : Int32} (h : rnI n z2 z3 z4) (hl : z1.toInt = ((opL n 99).length : Int)) (c : 100 ≤ z4 ∨ z1 ≤ 1) : nxA n z2 := by
  obtain ⟨m, a1, a2, a3, a4⟩ := h
  by_cases hq : 1 < (opL n 99).length
  · rcases c with c | c
    · rw [iq_le] at c
      have c : (100 : Int) ≤ z4.toInt := c
      have hm : m = 99 := by omega
      subst hm
      exact bI_end a3 hq
    · rw [iq_le] at c
      have c : z1.toInt ≤ (1 : Int) := c
      omega
  · have hm : m = 0 := a4.resolve_right hq
    subst hm
    rcases a3 with ⟨-, b, -⟩ | ⟨j, b1, b2, -⟩
    · exact Or.inl ⟨by omega, b⟩
    · omega
def yeI (n : SN) (z4 z5 z6 : Int32) : Prop := ∃ i : Nat, i ≤ 99 ∧ z6.toInt = 2 * (i : Int) + 3 ∧ z5.toInt = (cntW n z4.toInt i : Int)
theorem yeI_0 {n : SN} {z4 : Int32} : yeI n z4 0 3 := ⟨0, by decide, by decide, rfl⟩
theorem cnt_no {n : SN} {x : Int} {i : Nat} (h : opn n (2 * i + 3) = false ∨ divB x (2 * i + 3) = false) : cntW n x (i + 1) = cntW n x i := by
  unfold cntW
  cases hq : opn n (2 * i + 3) with
  | false => rw [opL_no hq]
  | true =>
    have h := h.resolve_left (by rw [hq]; decide)
    rw [opL_yes hq, List.countP_append, List.countP_singleton, if_neg (by rw [h]; decide)]
    omega
theorem cnt_yes {n : SN} {x : Int} {i : Nat} (h : opn n (2 * i + 3) = true) (h2 : divB x (2 * i + 3) = true) : cntW n x (i + 1) = cntW n x i + 1 := by
  unfold cntW
  rw [opL_yes h, List.countP_append, List.countP_singleton, if_pos h2]
theorem cnt_le {n : SN} {x : Int} {i : Nat} : cntW n x i ≤ i := Nat.le_trans List.countP_le_length (opL_len i)
theorem ye_add0 {x v : Int32} (e : v = x + 0) (h : 0 ≤ x.toInt) (h2 : x.toInt ≤ 1000) : v.toInt = x.toInt := by
  rw [e, iq_add (by show _ ≤ x.toInt + 0; omega) (by show x.toInt + 0 < _; omega)]
  show x.toInt + 0 = _
  omega
theorem yeI_no1 {n : SN} {c : Nat → Int32} {z4 z5 z6 v54 v71 v74 : Int32} (h : yeI n z4 z5 z6) (hc : canF n c 99) (c43 : ¬ 200 ≤ z6) (e54 : v54 = c z6.toNatClampNeg) (c55 : v54 = 0) (e71 : v71 = z5 + 0) (e74 : v74 = z6 + 2) : yeI n z4 v71 v74 := by
  obtain ⟨i, h1, h2, h3⟩ := h
  have hl := fo_lt h2 c43
  have e := iq_add2 e74 (by omega)
  have hn := (can_at hc hl h2 e54).mp c55
  have hle := cnt_le (n := n) (x := z4.toInt) (i := i)
  refine ⟨i + 1, hl, by omega, ?_⟩
  rw [cnt_no (Or.inl hn), ye_add0 e71 (by omega) (by omega)]
  exact h3
theorem ye_div {z4 z6 v62 : Int32} {i : Nat} (h4 : 0 ≤ z4.toInt) (h2 : z6.toInt = 2 * (i : Int) + 3) (e62 : v62 = z4 - z4 / z6 * z6) : v62 = 0 ↔ divB z4.toInt (2 * i + 3) = true := by
  have hr := iq_remn h4 e62
  have h6 : ((2 * i + 3 : Nat) : Int) = z6.toInt := by omega
  unfold divB
  rw [h6, decide_eq_true_iff, ← hr]
  exact ⟨fun q => by rw [q]; rfl, fun q => iq_eq.mpr q⟩
theorem yeI_no2 {n : SN} {c : Nat → Int32} {z4 z5 z6 v54 v62 v71 v74 : Int32} (h : yeI n z4 z5 z6) (h4 : 0 ≤ z4.toInt) (_hc : canF n c 99) (c43 : ¬ 200 ≤ z6) (_e54 : v54 = c z6.toNatClampNeg) (e62 : v62 = z4 - z4 / z6 * z6) (c63 : ¬ v62 = 0) (e71 : v71 = z5 + 0) (e74 : v74 = z6 + 2) : yeI n z4 v71 v74 := by
  obtain ⟨i, h1, h2, h3⟩ := h
  have hl := fo_lt h2 c43
  have e := iq_add2 e74 (by omega)
  have hd : divB z4.toInt (2 * i + 3) = false := Bool.eq_false_iff.mpr (fun q => c63 ((ye_div h4 h2 e62).mpr q))
  have hle := cnt_le (n := n) (x := z4.toInt) (i := i)
  refine ⟨i + 1, hl, by omega, ?_⟩
  rw [cnt_no (Or.inr hd), ye_add0 e71 (by omega) (by omega)]
  exact h3
theorem yeI_yes {n : SN} {c : Nat → Int32} {z4 z5 z6 v54 v62 v71 v74 : Int32} (h : yeI n z4 z5 z6) (h4 : 0 ≤ z4.toInt) (hc : canF n c 99) (c43 : ¬ 200 ≤ z6) (e54 : v54 = c z6.toNatClampNeg) (c55 : ¬ v54 = 0) (e62 : v62 = z4 - z4 / z6 * z6) (c63 : v62 = 0) (e71 : v71 = z5 + 1) (e74 : v74 = z6 + 2) : yeI n z4 v71 v74 := by
  obtain ⟨i, h1, h2, h3⟩ := h
  have hl := fo_lt h2 c43
  have e := iq_add2 e74 (by omega)
  have hd := (ye_div h4 h2 e62).mp c63
  have hy : opn n (2 * i + 3) = true := by
    cases hq : opn n (2 * i + 3) with
    | true => rfl
    | false => exact absurd ((can_at hc hl h2 e54).mpr hq) c55
  have hle := cnt_le (n := n) (x := z4.toInt) (i := i)
  refine ⟨i + 1, hl, by omega, ?_⟩
  rw [cnt_yes hy hd, iq_add1 e71 (by omega)]
  omega
theorem yeI_end {n : SN} {z1 z4 z5 z6 v85 g : Int32} (h : yeI n z4 z5 z6) (h4 : 0 ≤ z4.toInt) (c43 : 200 ≤ z6) (hl : z1.toInt = ((opL n 99).length : Int)) (e85 : v85 = z1 - z5) (hg : (z5 ≤ v85 ∧ g = z1 - z5) ∨ (¬ z5 ≤ v85 ∧ g = z5)) : g.toInt = (gW n z4.toInt.toNat : Int) := by
  obtain ⟨i, a1, a2, a3⟩ := h
  rw [iq_le] at c43
  have c43 : (200 : Int) ≤ z6.toInt := c43
  have hq : i = 99 := by omega
  subst hq
  have h1 := opL_len (n := n) 99
  have h2 := cntW_le (n := n) (x := z4.toInt)
  have h3 : v85.toInt = z1.toInt - z5.toInt := by rw [e85, iq_sub (by omega) (by omega)]
  have h5 : z4.toInt = ((z4.toInt.toNat : Nat) : Int) := by omega
  unfold gW
  rw [← h5]
  rcases hg with ⟨q, e⟩ | ⟨q, e⟩
  · rw [iq_le] at q
    have e9 : g.toInt = z1.toInt - z5.toInt := by rw [e, iq_sub (by omega) (by omega)]
    omega
  · rw [iq_le] at q
    rw [e]
    omega

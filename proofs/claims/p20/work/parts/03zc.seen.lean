/-! what was SEEN, changed -/
abbrev isSe (p1 p2 : Int32) : Prop := (1 ≤ p1.toInt ∧ p1.toInt ≤ 9999) ∧ 0 ≤ p2.toInt ∧ p2.toInt ≤ 1
theorem isSe.bit {p1 p2 : Int32} (h : isSe p1 p2) : p2 = 0 ∨ p2 = 1 := by
  have h1 := h.2.1
  have h2 := h.2.2
  rcases (show p2.toInt = 0 ∨ p2.toInt = 1 by omega) with h3 | h3
  · exact Or.inl (iq_eq.mpr h3)
  · exact Or.inr (iq_eq.mpr h3)
theorem cn_ne {x : Int32} {j : Nat} (h : (j : Int) < x.toInt) : j ≠ x.toNatClampNeg := by
  show j ≠ x.toInt.toNat
  omega
theorem cn_up {x : Int32} {j : Nat} (h0 : 0 ≤ x.toInt) (hj : ¬ (j : Int) < x.toInt) (h : (j : Int) < x.toInt + 1) : j = x.toNatClampNeg := by
  show j = x.toInt.toNat
  omega
theorem upd_at (f : Nat → Int32) (i : Nat) (x : Int32) : upd f i x i = x := by simp [upd]
theorem upd_off (f : Nat → Int32) {i j : Nat} (x : Int32) (h : j ≠ i) : upd f i x j = f j := by simp [upd, h]
theorem okN.w1 {n : SN} (h : okN n) (p1 : Int32) : okN (n.1, upd n.2.1 n.1.toNatClampNeg p1, n.2.2) := ⟨h.1, fun j hj => by
  show (1 ≤ (upd n.2.1 n.1.toNatClampNeg p1 j).toInt ∧ (upd n.2.1 n.1.toNatClampNeg p1 j).toInt ≤ 9999) ∧ _
  rw [upd_off _ _ (cn_ne hj)]
  exact h.2 j hj⟩
theorem okN.w2 {n : SN} (h : okN n) (p2 : Int32) : okN (n.1, n.2.1, upd n.2.2 n.1.toNatClampNeg p2) := ⟨h.1, fun j hj => by
  show _ ∧ (upd n.2.2 n.1.toNatClampNeg p2 j = 0 ∨ upd n.2.2 n.1.toNatClampNeg p2 j = 1)
  rw [upd_off _ _ (cn_ne hj)]
  exact h.2 j hj⟩
theorem okN.w3 {n : SN} {p1 p2 : Int32} (h : okN n) (hlt : n.1.toInt < 6) (h1 : 1 ≤ p1.toInt) (h2 : p1.toInt ≤ 9999) (h3 : p2 = 0 ∨ p2 = 1) : okN (n.1 + 1, upd n.2.1 n.1.toNatClampNeg p1, upd n.2.2 n.1.toNatClampNeg p2) := by
  have h0 := h.1.1
  have e1 : (n.1 + 1).toInt = n.1.toInt + 1 := iq_add1 rfl (by omega)
  refine ⟨⟨?_, ?_⟩, fun j hj => ?_⟩
  · show 0 ≤ (n.1 + 1).toInt
    omega
  · show (n.1 + 1).toInt ≤ 6
    omega
  · have hj : (j : Int) < (n.1 + 1).toInt := hj
    rw [e1] at hj
    show (1 ≤ (upd n.2.1 n.1.toNatClampNeg p1 j).toInt ∧ (upd n.2.1 n.1.toNatClampNeg p1 j).toInt ≤ 9999) ∧ (upd n.2.2 n.1.toNatClampNeg p2 j = 0 ∨ upd n.2.2 n.1.toNatClampNeg p2 j = 1)
    by_cases hq : (j : Int) < n.1.toInt
    · rw [upd_off _ _ (cn_ne hq), upd_off _ _ (cn_ne hq)]
      exact h.2 j hq
    · rw [cn_up h0 hq hj, upd_at, upd_at]
      exact ⟨⟨h1, h2⟩, h3⟩
theorem okN.fg {n : SN} (_h : okN n) : okN (0, n.2.1, n.2.2) := ⟨⟨(by decide : (0 : Int) ≤ (0 : Int32).toInt), (by decide : (0 : Int32).toInt ≤ 6)⟩, fun j hj => absurd hj (by show ¬ (j : Int) < 0; omega)⟩
def noN (n : SN) (p1 p2 : Int32) : SN := if n.1.toInt < 6 then (n.1 + 1, upd n.2.1 n.1.toNatClampNeg p1, upd n.2.2 n.1.toNatClampNeg p2) else n
theorem noN_full {K : Cx} {G : Nat → Nat} {w : va_W} {p1 p2 : Int32} (h : TH K G w) (hf : ¬ (snK K).1.toInt < 6) : TH (Kw K (noN (snK K) p1 p2)) G w := by
  unfold noN
  rw [if_neg hf]
  exact h
theorem noN_more {K : Cx} {G : Nat → Nat} {w : va_W} {p1 p2 : Int32} (h : TH (Kw K ((snK K).1 + 1, upd (snK K).2.1 (snK K).1.toNatClampNeg p1, upd (snK K).2.2 (snK K).1.toNatClampNeg p2)) G w) (hf : (snK K).1.toInt < 6) : TH (Kw K (noN (snK K) p1 p2)) G w := by
  unfold noN
  rw [if_pos hf]
  exact h
def seN (n : SN) (p1 p2 : Int32) : SN := if isSe p1 p2 then noN n p1 p2 else n
theorem seN_bad {K : Cx} {G : Nat → Nat} {w : va_W} {p1 p2 : Int32} (h : TH K G w) (hf : ¬ isSe p1 p2) : TH (Kw K (seN (snK K) p1 p2)) G w := by
  unfold seN
  rw [if_neg hf]
  exact h
theorem seN_ok {K : Cx} {G : Nat → Nat} {w : va_W} {p1 p2 : Int32} (h : TH (Kw K (noN (snK K) p1 p2)) G w) (hf : isSe p1 p2) : TH (Kw K (seN (snK K) p1 p2)) G w := by
  unfold seN
  rw [if_pos hf]
  exact h
def seA (n : SN) (p1 p2 r : Int32) : Prop := (¬ isSe p1 p2 ∧ r = -1000001) ∨ (isSe p1 p2 ∧ n.1.toInt < 6 ∧ r = n.1 + 1) ∨ (isSe p1 p2 ∧ ¬ n.1.toInt < 6 ∧ r = -1000003)
theorem seA_more {n : SN} {p1 p2 r x : Int32} (hse : isSe p1 p2) (hp : (r = 1 ∧ n.1.toInt < 6) ∨ (r = 0 ∧ ¬ n.1.toInt < 6)) (c : ¬ r = 0) (hx : x = (noN n p1 p2).1) : seA n p1 p2 x := by
  have h := (hp.resolve_right (fun q => c q.1)).2
  refine Or.inr (Or.inl ⟨hse, h, ?_⟩)
  rw [hx]
  unfold noN
  rw [if_pos h]
theorem seA_full {n : SN} {p1 p2 r : Int32} (hse : isSe p1 p2) (hp : (r = 1 ∧ n.1.toInt < 6) ∨ (r = 0 ∧ ¬ n.1.toInt < 6)) (c : r = 0) : seA n p1 p2 (-1000003) := Or.inr (Or.inr ⟨hse, (hp.resolve_left (fun q => by rw [q.1] at c; exact absurd c (by decide))).2, rfl⟩)
theorem seA_eq {n : SN} {p1 p2 r r2 : Int32} (h : seA n p1 p2 r) (h2 : seA n p1 p2 r2) : r = r2 := by
  rcases h with ⟨h, q⟩ | ⟨h, h', q⟩ | ⟨h, h', q⟩ <;> rcases h2 with ⟨g, q'⟩ | ⟨g, g', q'⟩ | ⟨g, g', q'⟩
  · rw [q, q']
  · exact absurd g h
  · exact absurd g h
  · exact absurd h g
  · rw [q, q']
  · exact absurd h' g'
  · exact absurd h g
  · exact absurd g' h'
  · rw [q, q']

/-! the least constant that is enough -/
def hasD (e d a : Nat) : Prop := a < e ∧ ∀ k : Nat, 1 ≤ k → k * a < e → d ≤ Pn (k * a)
def isDd (p : Int32) : Prop := 1 ≤ p.toInt ∧ p.toInt ≤ 5
def lsN (e d n : Nat) : Prop := ∀ b : Nat, 3 ≤ b → b < n → b % 2 = 1 → ¬ hasD e d b
def lsA (e d : Nat) (r : Int32) : Prop := (∃ a : Nat, r.toInt = (a : Int) ∧ 3 ≤ a ∧ a ≤ 199 ∧ a % 2 = 1 ∧ hasD e d a ∧ lsN e d a) ∨ (r = -1000000 ∧ lsN e d 200)
def lA (p w r : Int32) : Prop := (¬ (isDd p ∧ isWd w) ∧ r = -1000001) ∨ (isDd p ∧ isWd w ∧ lsA (2 ^ w.toInt.toNat) p.toInt.toNat r)
theorem lsA_eq {e d : Nat} {r r2 : Int32} (h : lsA e d r) (h2 : lsA e d r2) : r = r2 := by
  rcases h with ⟨a, e1, a3, a199, ao, ah, am⟩ | ⟨e1, hn⟩ <;> rcases h2 with ⟨b, e2, b3, b199, bo, bh, bm⟩ | ⟨e2, hn2⟩
  · apply iq_eq.mpr
    rcases Nat.lt_trichotomy a b with q | q | q
    · exact absurd ah (bm a a3 q ao)
    · rw [e1, e2, q]
    · exact absurd bh (am b b3 q bo)
  · exact absurd ah (hn2 a a3 (by omega) ao)
  · exact absurd bh (hn b b3 (by omega) bo)
  · rw [e1, e2]
theorem lA_eq {p w r r2 : Int32} (h : lA p w r) (h2 : lA p w r2) : r = r2 := by
  rcases h with ⟨h, q⟩ | ⟨h, h', hd⟩ <;> rcases h2 with ⟨g, q'⟩ | ⟨g, g', gd⟩
  · rw [q, q']
  · exact absurd ⟨g, g'⟩ h
  · exact absurd ⟨h, h'⟩ g
  · exact lsA_eq hd gd
theorem lm_has {a e d tl : Nat} {r : Int32} (h3 : 3 ≤ a) (ho : a % 2 = 1) (hd : 1 ≤ d) (ht : tl + 1 ≤ d ∨ tl ≤ 2) (h : lmA a e tl r) : (d : Int) ≤ r.toInt ↔ hasD e d a := by
  rcases h with ⟨h, q⟩ | ⟨h, ⟨k, k1, k2, k3⟩, h4⟩
  · rw [q]
    constructor
    · intro x
      have x : (d : Int) ≤ -1000000 := x
      omega
    · intro x
      have := x.1
      omega
  · constructor
    · intro x
      refine ⟨h, fun j j1 j2 => ?_⟩
      have h2 := Pn_two (k := j) h3 ho j1
      rcases h4 with h4 | h4
      · omega
      · have := h4 j j1 j2
        omega
    · intro x
      have := x.2 k k1 k2
      omega
theorem d_has {a e d : Nat} {r : Int32} (hd : 1 ≤ d) (h : dAns a e r) : (d : Int) ≤ r.toInt ↔ hasD e d a := by
  rcases h with ⟨h, q⟩ | ⟨h, ⟨k, k1, k2, k3⟩, h4⟩
  · rw [q]
    constructor
    · intro x
      have x : (d : Int) ≤ -1000000 := x
      omega
    · intro x
      have := x.1
      omega
  · constructor
    · intro x
      refine ⟨h, fun j j1 j2 => ?_⟩
      have := h4 j j1 j2
      omega
    · intro x
      have := x.2 k k1 k2
      omega
theorem lsN_0 {e d : Nat} : lsN e d (3 : Int32).toInt.toNat := fun b h1 h2 => absurd h2 (by show ¬ b < 3; omega)
theorem lsN_next {e d : Nat} {z v : Int32} (h : lsN e d z.toInt.toNat) (h0 : 3 ≤ z.toInt) (ho : z.toInt % 2 = 1) (hn : ¬ hasD e d z.toInt.toNat) (hv : v.toInt = z.toInt + 2) : lsN e d v.toInt.toNat := fun b h1 h2 h3 => by
  rcases Nat.lt_or_ge b z.toInt.toNat with q | q
  · exact h b h1 q h3
  · rw [show b = z.toInt.toNat by omega]
    exact hn
theorem ls_none {e d : Nat} {z : Int32} (h : lsN e d z.toInt.toNat) (hz : 200 ≤ z.toInt) : lsA e d (-1000000) := Or.inr ⟨rfl, fun b h1 h2 h3 => h b h1 (by omega) h3⟩
theorem ls_some {e d : Nat} {z : Int32} (h : lsN e d z.toInt.toNat) (h0 : 3 ≤ z.toInt) (h1 : z.toInt ≤ 199) (ho : z.toInt % 2 = 1) (hh : hasD e d z.toInt.toNat) : lsA e d z := Or.inl ⟨z.toInt.toNat, by omega, by omega, by omega, by omega, hh, h⟩
theorem iq_tl {v v23 p1 : Int32} (h : isDd p1) (e23 : v23 = p1 - 1) (e : v = if 2 < v23 then v23 else 2) : v.toInt + 1 ≤ p1.toInt ∨ v.toInt ≤ 2 := by
  have h1 := h.1
  have h2 := iq_sub1 e23 (by omega)
  by_cases hq : 2 < v23
  · rw [e, if_pos hq]
    exact Or.inl (by omega)
  · rw [e, if_neg hq]
    exact Or.inr (by decide)

/-! the cell of a Code, and what is kept -/
def cell3 (w : va_W) (h : Nat) (x y : Int32) : Prop := ∃ k q r : Nat, w[k]? = some (h, .inr (2, [.int x, .int y, .ref q, .ref r]))
def kpO (w w1 : va_W) (h : Nat) : Prop := ∀ (j b : Nat) (o : Nat × List Value), b ≠ h → w[j]? = some (b, .inr o) → w1[j]? = some (b, .inr o)
def kpA (w w1 : va_W) : Prop := ∀ (j b : Nat) (o : Nat × List Value), w[j]? = some (b, .inr o) → w1[j]? = some (b, .inr o)
theorem w_uniq {A : Nat → Prop} {w : va_W} (hD : va_D A w) {k j a : Nat} {e e2 : va_E} (h : w[k]? = some (a, e)) (h2 : w[j]? = some (a, e2)) : e = e2 := by
  have hq := hD.1 k j _ _ h h2 rfl
  subst hq
  rw [h] at h2
  cases h2
  rfl
theorem cell3.eq {A : Nat → Prop} {w : va_W} {h k q r : Nat} {x y x2 y2 : Int32} (hc : cell3 w h x y) (hD : va_D A w) (hk : w[k]? = some (h, .inr (2, [.int x2, .int y2, .ref q, .ref r]))) : x2 = x ∧ y2 = y := by
  obtain ⟨k1, q1, r1, h1⟩ := hc
  have h2 := w_uniq hD hk h1
  cases h2
  exact ⟨rfl, rfl⟩
theorem cell3.kp {w w1 : va_W} {h : Nat} {x y : Int32} (hc : cell3 w h x y) (hk : kpA w w1) : cell3 w1 h x y := by
  obtain ⟨k1, q1, r1, h1⟩ := hc
  exact ⟨k1, q1, r1, hk _ _ _ h1⟩
theorem lq_div {x y : Int32} : (x.toInt64 / y.toInt64).toInt32 = x / y := iq_eq.mpr (by
  rw [Int64.toInt_toInt32, Int64.toInt_div, Int32.toInt_div, Int32.toInt_toInt64, Int32.toInt_toInt64]
  exact Int.bmod_bmod_of_dvd (by decide))
def cdA (a w r : Int32) : Prop := (¬ (isC a ∧ isWd w) ∧ r = -1000001) ∨ (isC a ∧ isWd w ∧ r = ((1 <<< (w &&& 31)) - 1) / a)
theorem cdA_eq {p w r r2 : Int32} (h : cdA p w r) (h2 : cdA p w r2) : r = r2 := by
  rcases h with ⟨h, q⟩ | ⟨h, h', hd⟩ <;> rcases h2 with ⟨g, q'⟩ | ⟨g, g', gd⟩
  · rw [q, q']
  · exact absurd ⟨g, g'⟩ h
  · exact absurd ⟨h, h'⟩ g
  · rw [hd, gd]

/-! the distance of a constant -/
theorem Pn_zero {n : Nat} (h : Pn n = 0) : n = 0 := by
  induction n using Nat.strongRecOn with
  | _ n ih =>
    rcases Nat.mod_two_eq_zero_or_one n with h2 | h2
    · obtain ⟨k, rfl⟩ : ∃ k, n = 2 * k := ⟨n / 2, by omega⟩
      rw [Pn_even] at h
      by_cases hk : k = 0
      · omega
      · have := ih k (by omega) h
        omega
    · rcases (show n % 4 = 1 ∨ n % 4 = 3 by omega) with h4 | h4
      · obtain ⟨j, rfl⟩ : ∃ j, n = 4 * j + 1 := ⟨n / 4, by omega⟩
        rw [Pn_1] at h
        omega
      · obtain ⟨j, rfl⟩ : ∃ j, n = 4 * j + 3 := ⟨n / 4, by omega⟩
        rw [Pn_3] at h
        omega
theorem Pn_one {n : Nat} (h : Pn n = 1) : ∃ j : Nat, n = 2 ^ j := by
  induction n using Nat.strongRecOn with
  | _ n ih =>
    rcases Nat.mod_two_eq_zero_or_one n with h2 | h2
    · obtain ⟨k, rfl⟩ : ∃ k, n = 2 * k := ⟨n / 2, by omega⟩
      rw [Pn_even] at h
      by_cases hk : k = 0
      · subst hk
        simp [Pn, popc] at h
      · obtain ⟨j, hj⟩ := ih k (by omega) h
        exact ⟨j + 1, by rw [Nat.pow_succ]; omega⟩
    · rcases (show n % 4 = 1 ∨ n % 4 = 3 by omega) with h4 | h4
      · obtain ⟨j, rfl⟩ : ∃ j, n = 4 * j + 1 := ⟨n / 4, by omega⟩
        rw [Pn_1] at h
        have := Pn_zero (n := 2 * j) (by omega)
        exact ⟨0, by omega⟩
      · obtain ⟨j, rfl⟩ : ∃ j, n = 4 * j + 3 := ⟨n / 4, by omega⟩
        rw [Pn_3] at h
        have := Pn_zero (n := 2 * j + 2) (by omega)
        omega
theorem odd_pow {a : Nat} (h3 : 3 ≤ a) (ho : a % 2 = 1) : ∀ (j k : Nat), k * a ≠ 2 ^ j := by
  intro j
  induction j with
  | zero =>
    intro k h
    rw [Nat.pow_zero] at h
    have : k = 0 ∨ a ≤ k * a := by
      rcases Nat.eq_zero_or_pos k with q | q
      · exact Or.inl q
      · exact Or.inr (Nat.le_mul_of_pos_left a q)
    rcases this with q | q
    · subst q
      omega
    · omega
  | succ j ih =>
    intro k h
    rw [Nat.pow_succ] at h
    have hm : (k * a) % 2 = 0 := by omega
    rw [Nat.mul_mod, ho, Nat.mul_one, Nat.mod_mod] at hm
    obtain ⟨t, rfl⟩ : ∃ t, k = 2 * t := ⟨k / 2, by omega⟩
    refine ih t ?_
    rw [Nat.mul_assoc] at h
    omega
theorem Pn_two {a k : Nat} (h3 : 3 ≤ a) (ho : a % 2 = 1) (hk : 1 ≤ k) : 2 ≤ Pn (k * a) := by
  have h1 : Pn (k * a) ≠ 0 := fun h => by
    have h2 := Pn_zero h
    have h4 := Nat.le_mul_of_pos_left a hk
    omega
  have h2 : Pn (k * a) ≠ 1 := fun h => by
    obtain ⟨j, hj⟩ := Pn_one h
    exact odd_pow h3 ho j k hj
  omega
/-- every multiple weighs as much as an odd one that is no greater -/
theorem Pn_oddpart {a : Nat} : ∀ k : Nat, 1 ≤ k → ∃ t : Nat, 2 * t + 1 ≤ k ∧ Pn (k * a) = Pn ((2 * t + 1) * a) := by
  intro k
  induction k using Nat.strongRecOn with
  | _ k ih =>
    intro hk
    rcases Nat.mod_two_eq_zero_or_one k with h2 | h2
    · obtain ⟨t, ht1, ht2⟩ := ih (k / 2) (by omega) (by omega)
      refine ⟨t, by omega, ?_⟩
      rw [← ht2, ← Pn_even (k / 2 * a), ← Nat.mul_assoc, show 2 * (k / 2) = k by omega]
    · exact ⟨k / 2, by omega, by rw [show 2 * (k / 2) + 1 = k by omega]⟩
def isWd (p : Int32) : Prop := 4 ≤ p.toInt ∧ p.toInt ≤ 16
/-- the least weight of the multiples of a below e; what is found may end the search at t -/
def lmA (a e t : Nat) (r : Int32) : Prop := (e ≤ a ∧ r = -1000000) ∨ (a < e ∧ (∃ k : Nat, 1 ≤ k ∧ k * a < e ∧ r.toInt = (Pn (k * a) : Int)) ∧ (r.toInt ≤ t ∨ ∀ k : Nat, 1 ≤ k → k * a < e → r.toInt ≤ (Pn (k * a) : Int)))
def dAns (a e : Nat) (r : Int32) : Prop := (e ≤ a ∧ r = -1000000) ∨ (a < e ∧ (∃ k : Nat, 1 ≤ k ∧ k * a < e ∧ r.toInt = (Pn (k * a) : Int)) ∧ ∀ k : Nat, 1 ≤ k → k * a < e → r.toInt ≤ (Pn (k * a) : Int))
theorem dAns_eq {a e : Nat} {r r2 : Int32} (h : dAns a e r) (h2 : dAns a e r2) : r = r2 := by
  rcases h with ⟨h, q⟩ | ⟨h, ⟨k, k1, k2, k3⟩, hm⟩ <;> rcases h2 with ⟨h', q'⟩ | ⟨h', ⟨k', k1', k2', k3'⟩, hm'⟩
  · rw [q, q']
  · omega
  · omega
  · apply iq_eq.mpr
    have e1 := hm k' k1' k2'
    have e2 := hm' k k1 k2
    omega
theorem lmA_d {a e : Nat} {r : Int32} (h3 : 3 ≤ a) (ho : a % 2 = 1) (h : lmA a e 2 r) : dAns a e r := by
  rcases h with h | ⟨h, ⟨k, k1, k2, k3⟩, h4 | h4⟩
  · exact Or.inl h
  · exact Or.inr ⟨h, ⟨k, k1, k2, k3⟩, fun j j1 _ => by have := Pn_two h3 ho j1; omega⟩
  · exact Or.inr ⟨h, ⟨k, k1, k2, k3⟩, h4⟩
def lmI (a e tl : Nat) (n x : Int32) : Prop := ∃ t : Nat, n.toInt = (((2 * t + 1) * a : Nat) : Int) ∧ (∀ s : Nat, s < t → (2 * s + 1) * a < e) ∧ ((t = 0 ∧ x = -1000000) ∨ (1 ≤ t ∧ (tl : Int) < x.toInt ∧ (∃ s : Nat, s < t ∧ x.toInt = (Pn ((2 * s + 1) * a) : Int)) ∧ ∀ s : Nat, s < t → x.toInt ≤ (Pn ((2 * s + 1) * a) : Int)))
def lmJ (a e : Nat) (n x : Int32) : Prop := ∃ t : Nat, n.toInt = (((2 * t + 1) * a : Nat) : Int) ∧ (∀ s : Nat, s < t + 1 → (2 * s + 1) * a < e) ∧ (∃ s : Nat, s < t + 1 ∧ x.toInt = (Pn ((2 * s + 1) * a) : Int)) ∧ ∀ s : Nat, s < t + 1 → x.toInt ≤ (Pn ((2 * s + 1) * a) : Int)
theorem lmI_0 {p : Int32} {e tl : Nat} (h : 0 ≤ p.toInt) : lmI p.toInt.toNat e tl p (-1000000) := ⟨0, by simp only [Nat.mul_zero, Nat.zero_add, Nat.one_mul]; omega, fun s hs => absurd hs (Nat.not_lt_zero _), Or.inl ⟨rfl, rfl⟩⟩
theorem lmI_pos {a e tl : Nat} {n x : Int32} (h : lmI a e tl n x) (ha : 1 ≤ a) : 1 ≤ n.toInt := by
  obtain ⟨t, h1, -⟩ := h
  have : 1 * 1 ≤ (2 * t + 1) * a := Nat.mul_le_mul (by omega) ha
  omega
theorem lm_all {a e : Nat} {n : Int32} {t : Nat} (h1 : n.toInt = (((2 * t + 1) * a : Nat) : Int)) (h2 : ∀ s : Nat, s < t → (2 * s + 1) * a < e) (hn : n.toInt < e) : ∀ s : Nat, s < t + 1 → (2 * s + 1) * a < e := fun s hs => by
  rcases Nat.lt_or_ge s t with q | q
  · exact h2 s q
  · rw [show s = t by omega]
    omega
theorem lmJ_take {a e tl : Nat} {n x r : Int32} (h : lmI a e tl n x) (hn : n.toInt < e) (hr : r.toInt = (Pn n.toInt.toNat : Int)) (hx : x = -1000000 ∨ r < x) : lmJ a e n r := by
  obtain ⟨t, h1, h2, h3⟩ := h
  have hrt : r.toInt = (Pn ((2 * t + 1) * a) : Int) := by rw [hr, h1, Int.toNat_natCast]
  refine ⟨t, h1, lm_all h1 h2 hn, ⟨t, by omega, hrt⟩, fun s hs => ?_⟩
  rcases Nat.lt_or_ge s t with q | q
  · rcases h3 with ⟨h3, -⟩ | ⟨-, h4, h5, h6⟩
    · omega
    · rcases hx with hx | hx
      · rw [hx] at h4
        exact absurd h4 (by show ¬ (tl : Int) < -1000000; omega)
      · rw [iq_lt] at hx
        have := h6 s q
        omega
  · rw [show s = t by omega]
    omega
theorem lmJ_keep {a e tl : Nat} {n x r : Int32} (h : lmI a e tl n x) (hn : n.toInt < e) (hr : r.toInt = (Pn n.toInt.toNat : Int)) (hx : ¬ x = -1000000) (hx2 : ¬ r < x) : lmJ a e n x := by
  obtain ⟨t, h1, h2, h3⟩ := h
  have hrt : r.toInt = (Pn ((2 * t + 1) * a) : Int) := by rw [hr, h1, Int.toNat_natCast]
  rw [iq_lt] at hx2
  rcases h3 with ⟨-, h3⟩ | ⟨-, h4, ⟨s0, h5, h5'⟩, h6⟩
  · exact absurd h3 hx
  · refine ⟨t, h1, lm_all h1 h2 hn, ⟨s0, by omega, h5'⟩, fun s hs => ?_⟩
    rcases Nat.lt_or_ge s t with q | q
    · exact h6 s q
    · rw [show s = t by omega]
      omega
theorem lmI_next {e : Nat} {p n x v60 v61 tl : Int32} (h : lmJ p.toInt.toNat e n x) (hx : tl < x) (htl : 0 ≤ tl.toInt) (hp0 : 0 ≤ p.toInt) (hp : p.toInt ≤ 199) (he : n.toInt ≤ 65536) (hn0 : 0 ≤ n.toInt) (e60 : v60 = 2 * p) (e61 : v61 = n + v60) : lmI p.toInt.toNat e tl.toInt.toNat v61 x := by
  obtain ⟨t, h1, h2, h3, h4⟩ := h
  rw [iq_lt] at hx
  have h5 := iq_mul2 hp0 (by omega) e60
  have h6 : v61.toInt = n.toInt + v60.toInt := by rw [e61, iq_add (by omega) (by omega)]
  have h7 : (2 * (t + 1) + 1) * p.toInt.toNat = (2 * t + 1) * p.toInt.toNat + 2 * p.toInt.toNat := by rw [← Nat.add_mul]; congr 1
  refine ⟨t + 1, by rw [h6, h5, h1, h7]; omega, h2, Or.inr ⟨by omega, by omega, h3, h4⟩⟩
theorem lm_cut {e : Nat} {p n x tl : Int32} (h : lmJ p.toInt.toNat e n x) (hp : 3 ≤ p.toInt) (hx : ¬ tl < x) (htl : 0 ≤ tl.toInt) : lmA p.toInt.toNat e tl.toInt.toNat x := by
  obtain ⟨t, h1, h2, ⟨s, h3, h3'⟩, h4⟩ := h
  rw [iq_lt] at hx
  have h0 := h2 0 (by omega)
  exact Or.inr ⟨by omega, ⟨2 * s + 1, by omega, h2 s h3, h3'⟩, Or.inl (by omega)⟩
theorem lm_end {e tl : Nat} {p n x : Int32} (h : lmI p.toInt.toNat e tl n x) (hn : (e : Int) ≤ n.toInt) : lmA p.toInt.toNat e tl x := by
  obtain ⟨t, h1, h2, ⟨rfl, h3⟩ | ⟨h3, h4, ⟨s, h5, h5'⟩, h6⟩⟩ := h
  · exact Or.inl ⟨by simp only [Nat.mul_zero, Nat.zero_add, Nat.one_mul] at h1; omega, h3⟩
  · have h0 := h2 0 (by omega)
    refine Or.inr ⟨by omega, ⟨2 * s + 1, by omega, h2 s h5, h5'⟩, Or.inr (fun k k1 k2 => ?_)⟩
    obtain ⟨j, j1, j2⟩ := Pn_oddpart (a := p.toInt.toNat) k k1
    rw [j2]
    refine h6 j (Nat.lt_of_not_le fun q => ?_)
    have h7 : (2 * t + 1) * p.toInt.toNat ≤ k * p.toInt.toNat := Nat.mul_le_mul (by omega) (Nat.le_refl _)
    omega
def dI (a e : Nat) (n x : Int32) : Prop := ∃ k : Nat, 1 ≤ k ∧ n.toInt = ((k * a : Nat) : Int) ∧ (∀ j : Nat, 1 ≤ j → j < k → j * a < e) ∧ ((k = 1 ∧ x = -1000000) ∨ (2 ≤ k ∧ 0 ≤ x.toInt ∧ (∃ j : Nat, 1 ≤ j ∧ j < k ∧ x.toInt = (Pn (j * a) : Int)) ∧ ∀ j : Nat, 1 ≤ j → j < k → x.toInt ≤ (Pn (j * a) : Int)))
theorem dI_0 {p : Int32} {e : Nat} (h : 0 ≤ p.toInt) : dI p.toInt.toNat e p (-1000000) := ⟨1, by omega, by rw [Nat.one_mul]; omega, fun j j1 j2 => absurd j2 (by omega), Or.inl ⟨rfl, rfl⟩⟩
theorem dI_next {e : Nat} {p n x r y v : Int32} (h : dI p.toInt.toNat e n x) (hn : n.toInt < e) (hr : r.toInt = (Pn n.toInt.toNat : Int)) (hy : ((x = -1000000 ∨ r < x) ∧ y = r) ∨ (¬ x = -1000000 ∧ ¬ r < x ∧ y = x)) (hp0 : 0 ≤ p.toInt) (hv : v.toInt = n.toInt + p.toInt) : dI p.toInt.toNat e v y := by
  obtain ⟨k, k1, h1, h2, h3⟩ := h
  have hrt : r.toInt = (Pn (k * p.toInt.toNat) : Int) := by rw [hr, h1, Int.toNat_natCast]
  have hall : ∀ j : Nat, 1 ≤ j → j < k + 1 → j * p.toInt.toNat < e := fun j j1 j2 => by
    rcases Nat.lt_or_ge j k with q | q
    · exact h2 j j1 q
    · rw [show j = k by omega]
      omega
  refine ⟨k + 1, by omega, by rw [hv, h1, Nat.add_mul, Nat.one_mul]; omega, hall, Or.inr ⟨by omega, ?_⟩⟩
  rcases hy with ⟨hx, rfl⟩ | ⟨hx, hx2, rfl⟩
  · refine ⟨by omega, ⟨k, k1, by omega, hrt⟩, fun j j1 j2 => ?_⟩
    rcases Nat.lt_or_ge j k with q | q
    · rcases h3 with ⟨h3, -⟩ | ⟨-, h4, -, h6⟩
      · omega
      · rcases hx with hx | hx
        · rw [hx] at h4
          exact absurd h4 (by decide)
        · rw [iq_lt] at hx
          have := h6 j j1 q
          omega
    · rw [show j = k by omega]
      omega
  · rw [iq_lt] at hx2
    rcases h3 with ⟨-, h3⟩ | ⟨-, h4, ⟨j0, h5, h5', h5''⟩, h6⟩
    · exact absurd h3 hx
    · refine ⟨h4, ⟨j0, h5, by omega, h5''⟩, fun j j1 j2 => ?_⟩
      rcases Nat.lt_or_ge j k with q | q
      · exact h6 j j1 q
      · rw [show j = k by omega]
        omega
theorem dI_end {e : Nat} {p n x : Int32} (h : dI p.toInt.toNat e n x) (hn : (e : Int) ≤ n.toInt) : dAns p.toInt.toNat e x := by
  obtain ⟨k, k1, h1, h2, ⟨rfl, h3⟩ | ⟨h3, h4, ⟨j, h5, h5', h5''⟩, h6⟩⟩ := h
  · exact Or.inl ⟨by rw [Nat.one_mul] at h1; omega, h3⟩
  · have h0 := h2 1 (by omega) (by omega)
    refine Or.inr ⟨by rw [Nat.one_mul] at h0; omega, ⟨j, h5, h2 j h5 h5', h5''⟩, fun i i1 i2 => h6 i i1 (Nat.lt_of_not_le fun q => ?_)⟩
    have h7 : k * p.toInt.toNat ≤ i * p.toInt.toNat := Nat.mul_le_mul q (Nat.le_refl _)
    omega
theorem iq_endp {x v : Int32} (h1 : 4 ≤ x.toInt) (h2 : x.toInt ≤ 16) (e : v = (1 : Int32) <<< (x &&& 31)) : v.toInt = ((2 ^ x.toInt.toNat : Nat) : Int) := by
  rw [e]
  rcases iq_width h1 h2 with rfl | rfl | rfl | rfl | rfl | rfl | rfl | rfl | rfl | rfl | rfl | rfl | rfl <;> decide
theorem pw_le {x : Int32} (h : x.toInt ≤ 16) : 2 ^ x.toInt.toNat ≤ 65536 := Nat.pow_le_pow_right (n := 2) (by decide) (show x.toInt.toNat ≤ 16 by omega)
def dA (p w r : Int32) : Prop := (¬ (isC p ∧ isWd w) ∧ r = -1000001) ∨ (isC p ∧ isWd w ∧ dAns p.toInt.toNat (2 ^ w.toInt.toNat) r)
theorem dA_eq {p w r r2 : Int32} (h : dA p w r) (h2 : dA p w r2) : r = r2 := by
  rcases h with ⟨h, q⟩ | ⟨h, h', hd⟩ <;> rcases h2 with ⟨g, q'⟩ | ⟨g, g', gd⟩
  · rw [q, q']
  · exact absurd ⟨g, g'⟩ h
  · exact absurd ⟨h, h'⟩ g
  · exact dAns_eq hd gd
theorem iq_max2 {v v23 : Int32} (e : v = if 2 < v23 then v23 else 2) : 0 ≤ v.toInt := by
  by_cases h : 2 < v23
  · rw [e, if_pos h]
    rw [iq_lt] at h
    have h : (2 : Int) < v23.toInt := h
    omega
  · rw [e, if_neg h]
    decide

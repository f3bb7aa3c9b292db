/-- powers of two come round -/
def rqT (a : Nat) : Bool := (List.range a).any (fun n => 2 ^ (n + 1) % a == 1 || 2 ^ (n + 1) % a == a - 1)
theorem rq_all : ((List.range 200).all (fun a => a % 2 == 0 || a == 1 || rqT a)) = true := by decide +kernel
theorem rq_ex {a : Nat} (h1 : a % 2 = 1) (h3 : 3 ≤ a) (h : a < 200) : ∃ N : Nat, N ≤ a ∧ 1 ≤ N ∧ (2 ^ N % a = 1 ∨ 2 ^ N % a = a - 1) := by
  have h4 := List.all_eq_true.mp rq_all a (List.mem_range.mpr h)
  simp only [Bool.or_eq_true, beq_iff_eq] at h4
  have h5 : rqT a = true := by
    rcases h4 with (h4 | h4) | h4
    · omega
    · omega
    · exact h4
  obtain ⟨n, hn, h6⟩ := List.any_eq_true.mp h5
  simp only [Bool.or_eq_true, beq_iff_eq] at h6
  exact ⟨n + 1, by have := List.mem_range.mp hn; omega, by omega, h6⟩
theorem rq_first {p1 v : Int32} (h : 3 ≤ p1.toInt) (e : v = 2 - 2 / p1 * p1) : v.toInt = ((2 ^ (1 : Int32).toInt.toNat % p1.toInt.toNat : Nat) : Int) := by
  have h1 : v.toInt = (2 : Int) % p1.toInt := iq_remn (x := 2) (by decide) e
  rw [h1]
  show (2 : Int) % p1.toInt = ((2 % p1.toInt.toNat : Nat) : Int)
  obtain ⟨A, hA⟩ : ∃ A : Nat, p1.toInt = A := ⟨p1.toInt.toNat, by omega⟩
  rw [hA, Int.toNat_natCast]
  rfl
theorem rq_step {p1 z2 z3 v35 v37 v39 : Int32} (h3 : 3 ≤ p1.toInt) (h199 : p1.toInt ≤ 199) (h1 : 1 ≤ z2.toInt) (h100 : z2.toInt ≤ 201) (hz : z3.toInt = ((2 ^ z2.toInt.toNat % p1.toInt.toNat : Nat) : Int)) (e35 : v35 = 2 * z3) (e37 : v37 = v35 - v35 / p1 * p1) (e39 : v39 = z2 + 1) : v37.toInt = ((2 ^ v39.toInt.toNat % p1.toInt.toNat : Nat) : Int) := by
  have hlt : 2 ^ z2.toInt.toNat % p1.toInt.toNat < p1.toInt.toNat := Nat.mod_lt _ (by omega)
  have h5 : v35.toInt = 2 * z3.toInt := iq_mul2 (by omega) (by omega) e35
  have h6 : v37.toInt = v35.toInt % p1.toInt := iq_remn (by omega) e37
  have h7 := iq_add1 e39 (by omega)
  have h8 : v39.toInt.toNat = z2.toInt.toNat + 1 := by omega
  have h9 : 2 ^ v39.toInt.toNat % p1.toInt.toNat = (2 * (2 ^ z2.toInt.toNat % p1.toInt.toNat)) % p1.toInt.toNat := by
    rw [h8, Nat.pow_succ, Nat.mul_comm, Nat.mul_mod, Nat.mul_mod 2 (2 ^ z2.toInt.toNat % p1.toInt.toNat), Nat.mod_mod]
  rw [h6, h5, hz, h9]
  generalize 2 ^ z2.toInt.toNat % p1.toInt.toNat = t
  obtain ⟨A, hA⟩ : ∃ A : Nat, p1.toInt = A := ⟨p1.toInt.toNat, by omega⟩
  rw [hA, Int.toNat_natCast]
  rfl
theorem rq_go {p1 z2 z3 v29 : Int32} {N : Nat} (h3 : 3 ≤ p1.toInt) (hz : z3.toInt = ((2 ^ z2.toInt.toNat % p1.toInt.toNat : Nat) : Int)) (hN : 2 ^ N % p1.toInt.toNat = 1 ∨ 2 ^ N % p1.toInt.toNat = p1.toInt.toNat - 1) (h1 : 0 ≤ z2.toInt) (hle : z2.toInt ≤ N) (c23 : ¬ z3 = 1) (e29 : v29 = p1 - 1) (c30 : ¬ z3 = v29) : z2.toInt < N := by
  rcases Int.lt_or_le z2.toInt N with h | h
  · exact h
  · have h2 : z2.toInt.toNat = N := by omega
    rw [h2] at hz
    have h4 := iq_sub1 e29 (by omega)
    rcases hN with h5 | h5
    · exact absurd (iq_eq.mpr (by rw [hz, h5]; rfl)) c23
    · exact absurd (iq_eq.mpr (by rw [hz, h5, h4]; omega)) c30
def isC (p : Int32) : Prop := 3 ≤ p.toInt ∧ p.toInt ≤ 199 ∧ p.toInt % 2 = 1
def rGood (a n : Nat) : Prop := 2 ^ n % a = 1 ∨ 2 ^ n % a = a - 1
def rAns (p r : Int32) : Prop := (¬ isC p ∧ r = -1000001) ∨ (isC p ∧ 1 ≤ r.toInt ∧ rGood p.toInt.toNat r.toInt.toNat ∧ ∀ m : Nat, 1 ≤ m → m < r.toInt.toNat → ¬ rGood p.toInt.toNat m)
theorem rAns_eq {p r r2 : Int32} (h : rAns p r) (h2 : rAns p r2) : r = r2 := by
  rcases h with ⟨h, e⟩ | ⟨h, h1, hg, hm⟩ <;> rcases h2 with ⟨h', e'⟩ | ⟨h', h1', hg', hm'⟩
  · rw [e, e']
  · exact absurd h' h
  · exact absurd h h'
  · apply iq_eq.mpr
    rcases Nat.lt_trichotomy r.toInt.toNat r2.toInt.toNat with q | q | q
    · exact absurd hg (hm' _ (by omega) q)
    · omega
    · exact absurd hg' (hm _ (by omega) q)
theorem cr_step {p1 z2 v21 r23 : Int32} {k : Nat} (h : isC p1) (hz : z2.toInt = ((2 ^ k % p1.toInt.toNat : Nat) : Int)) (e21 : v21 = 2 * z2) (hp : 1 ≤ p1.toInt → r23.toInt = v21.toInt % p1.toInt) : r23.toInt = ((2 ^ (k + 1) % p1.toInt.toNat : Nat) : Int) := by
  have h3 := h.1
  have h4 := h.2.1
  have hlt : 2 ^ k % p1.toInt.toNat < p1.toInt.toNat := Nat.mod_lt _ (by omega)
  have h5 : v21.toInt = 2 * z2.toInt := iq_mul2 (by omega) (by omega) e21
  have h9 : 2 ^ (k + 1) % p1.toInt.toNat = (2 * (2 ^ k % p1.toInt.toNat)) % p1.toInt.toNat := by
    rw [Nat.pow_succ, Nat.mul_comm, Nat.mul_mod, Nat.mul_mod 2 (2 ^ k % p1.toInt.toNat), Nat.mod_mod]
  rw [hp (by omega), h5, hz, h9]
  generalize 2 ^ k % p1.toInt.toNat = t
  obtain ⟨A, hA⟩ : ∃ A : Nat, p1.toInt = A := ⟨p1.toInt.toNat, by omega⟩
  rw [hA, Int.toNat_natCast]
  rfl
theorem cr_good {p1 r v : Int32} {n : Nat} (h : isC p1) (hr : r.toInt = ((2 ^ n % p1.toInt.toNat : Nat) : Int)) (e : v = p1 - 1) : rGood p1.toInt.toNat n ↔ (r = 1 ∨ r = v) := by
  have h3 := h.1
  have h4 := iq_sub1 e (by omega)
  unfold rGood
  rw [iq_eq, iq_eq (y := v), hr, h4]
  show _ ↔ (_ = (1 : Int) ∨ _)
  omega
theorem cr_first {p1 : Int32} (h : isC p1) : (1 : Int32).toInt = ((2 ^ ((1 : Int32).toInt.toNat - 1) % p1.toInt.toNat : Nat) : Int) := by
  have h3 := h.1
  show (1 : Int) = ((1 % p1.toInt.toNat : Nat) : Int)
  rw [Nat.mod_eq_of_lt (by omega)]
  rfl
theorem cr_next {a : Nat} {z v : Int32} (h1 : 1 ≤ z.toInt) (hm : ∀ m : Nat, 1 ≤ m → m < z.toInt.toNat → ¬ rGood a m) (hn : ¬ rGood a z.toInt.toNat) (hv : v.toInt = z.toInt + 1) : ∀ m : Nat, 1 ≤ m → m < v.toInt.toNat → ¬ rGood a m := fun m h2 h3 => by
  rcases Nat.lt_or_ge m z.toInt.toNat with q | q
  · exact hm m h2 q
  · rw [show m = z.toInt.toNat by omega]
    exact hn
theorem cr_end {p1 z : Int32} (h : isC p1) (hm : ∀ m : Nat, 1 ≤ m → m < z.toInt.toNat → ¬ rGood p1.toInt.toNat m) (hc : p1 < z) : False := by
  have h3 := h.1
  have h4 := h.2.1
  have h5 := h.2.2
  rw [iq_lt] at hc
  obtain ⟨N, hN, hN1, hg⟩ := rq_ex (a := p1.toInt.toNat) (by omega) (by omega) (by omega)
  exact hm N hN1 (by omega) hg

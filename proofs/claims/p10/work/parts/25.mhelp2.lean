theorem iq_sub1 {x v : Int32} (hv : v = x - 1) (h : -2147483648 < x.toInt) : v.toInt = x.toInt - 1 := by
  have := iq_hi x
  rw [hv, iq_sub (by show _ ≤ x.toInt - 1; omega) (by show x.toInt - 1 < _; omega)]
  rfl
theorem iq_tenc {um z v62 v64 : Int32} (h0 : 0 ≤ um.toInt) (h1 : um.toInt ≤ 12) (z0 : 0 ≤ z.toInt) (hc : ¬ 10 ≤ z) (e62 : v62 = 10 * um) (e64 : v64 = v62 + z) : v64.toNatClampNeg = 10 * um.toInt.toNat + z.toNatClampNeg := by
  have h := iq_ten h0 h1 z0 hc e62 e64
  have h5 : z.toNatClampNeg = z.toInt.toNat := rfl
  rw [h5]
  exact iq_clamp (by omega)
theorem iq_tenin {um z v62 v64 : Int32} {n : Nat} (h0 : 0 ≤ um.toInt) (h1 : um.toInt ≤ 12) (z0 : 0 ≤ z.toInt) (hc : ¬ 10 ≤ z) (e62 : v62 = 10 * um) (e64 : v64 = v62 + z) (hn : 10 * um.toInt + 10 ≤ n) : vp_in v64 n := by
  have h := iq_ten h0 h1 z0 hc e62 e64
  rw [iq_le] at hc
  have hc : ¬ (10 : Int) ≤ z.toInt := hc
  exact iq_in (by omega) (by omega)
theorem iq_ten1 {z v : Int32} (h : 0 ≤ z.toInt ∧ z.toInt ≤ 10) (hc : ¬ 10 ≤ z) (e : v = z + 1) : 0 ≤ v.toInt ∧ v.toInt ≤ 10 := by
  rw [iq_le] at hc
  have hc : ¬ (10 : Int) ≤ z.toInt := hc
  have := iq_add1 e (by omega)
  exact ⟨by omega, by omega⟩
theorem lq_mul {x y : Int64} (h1 : -9223372036854775808 ≤ x.toInt * y.toInt) (h2 : x.toInt * y.toInt < 9223372036854775808) : (x * y).toInt = x.toInt * y.toInt := by
  rw [Int64.toInt_mul]
  exact Int.bmod_eq_of_le (by omega) (by omega)
theorem lq_whole {z3 v76 v77 : Int64} {r sv : Int32} {k : Nat} (hk : k < 4) (h : 1 ≤ z3.toInt ∧ z3.toInt ≤ 32 ^ k) (h4 : 4 ≤ sv.toInt) (h16 : sv.toInt ≤ 16) (hr : r = 2 * sv) (e76 : v76 = r.toInt64) (e77 : v77 = z3 * v76) : 1 ≤ v77.toInt ∧ v77.toInt ≤ 32 ^ (k + 1) := by
  have h1 : r.toInt = 2 * sv.toInt := iq_mul2 (by omega) (by omega) hr
  have h2 : v76.toInt = r.toInt := by rw [e76]; exact Int32.toInt_toInt64 r
  have h3 : (32 : Int) ^ k ≤ 32768 := by
    rcases (show k = 0 ∨ k = 1 ∨ k = 2 ∨ k = 3 by omega) with rfl | rfl | rfl | rfl <;> decide
  have h5 : z3.toInt * v76.toInt ≤ 32 ^ k * 32 := Int.mul_le_mul h.2 (by omega) (by omega) (by omega)
  have h6 : 1 * 1 ≤ z3.toInt * v76.toInt := Int.mul_le_mul h.1 (by omega) (by omega) (by omega)
  rw [e77, lq_mul (by omega) (by omega), Int.pow_succ]
  exact ⟨by omega, by omega⟩
/-- powers of two come round -/
def rqT (a : Nat) : Bool := (List.range 100).any (fun n => 2 ^ (n + 1) % a == 1 || 2 ^ (n + 1) % a == a - 1)
theorem rq_all : ((List.range 200).all (fun a => a % 2 == 0 || a == 1 || rqT a)) = true := by decide +kernel
theorem rq_ex {a : Nat} (h1 : a % 2 = 1) (h3 : 3 ≤ a) (h : a < 200) : ∃ N : Nat, N < 101 ∧ 1 ≤ N ∧ (2 ^ N % a = 1 ∨ 2 ^ N % a = a - 1) := by
  have h4 := List.all_eq_true.mp rq_all a (List.mem_range.mpr h)
  simp only [Bool.or_eq_true, beq_iff_eq] at h4
  have h5 : rqT a = true := by
    rcases h4 with (h4 | h4) | h4
    · omega
    · omega
    · exact h4
  obtain ⟨n, hn, h6⟩ := List.any_eq_true.mp h5
  simp only [Bool.or_eq_true, beq_iff_eq] at h6
  exact ⟨n + 1, by have := List.mem_range.mp hn; omega, by omega, h6⟩
theorem rq_first {p1 v : Int32} (h : 3 ≤ p1.toInt) (e : v = 2 - 2 / p1 * p1) : v.toInt = ((2 ^ (1 : Int32).toInt.toNat % p1.toInt.toNat : Nat) : Int) := by
  have h1 : v.toInt = (2 : Int) % p1.toInt := iq_remn (x := 2) (by decide) e
  rw [h1]
  show (2 : Int) % p1.toInt = ((2 % p1.toInt.toNat : Nat) : Int)
  obtain ⟨A, hA⟩ : ∃ A : Nat, p1.toInt = A := ⟨p1.toInt.toNat, by omega⟩
  rw [hA, Int.toNat_natCast]
  rfl
theorem rq_step {p1 z2 z3 v35 v37 v39 : Int32} (h3 : 3 ≤ p1.toInt) (h199 : p1.toInt ≤ 199) (h1 : 1 ≤ z2.toInt) (h100 : z2.toInt ≤ 101) (hz : z3.toInt = ((2 ^ z2.toInt.toNat % p1.toInt.toNat : Nat) : Int)) (e35 : v35 = 2 * z3) (e37 : v37 = v35 - v35 / p1 * p1) (e39 : v39 = z2 + 1) : v37.toInt = ((2 ^ v39.toInt.toNat % p1.toInt.toNat : Nat) : Int) := by
  have hlt : 2 ^ z2.toInt.toNat % p1.toInt.toNat < p1.toInt.toNat := Nat.mod_lt _ (by omega)
  have h5 : v35.toInt = 2 * z3.toInt := iq_mul2 (by omega) (by omega) e35
  have h6 : v37.toInt = v35.toInt % p1.toInt := iq_remn (by omega) e37
  have h7 := iq_add1 e39 (by omega)
  have h8 : v39.toInt.toNat = z2.toInt.toNat + 1 := by omega
  have h9 : 2 ^ v39.toInt.toNat % p1.toInt.toNat = (2 * (2 ^ z2.toInt.toNat % p1.toInt.toNat)) % p1.toInt.toNat := by
    rw [h8, Nat.pow_succ, Nat.mul_comm, Nat.mul_mod, Nat.mul_mod 2 (2 ^ z2.toInt.toNat % p1.toInt.toNat), Nat.mod_mod]
  rw [h6, h5, hz, h9]
  generalize 2 ^ z2.toInt.toNat % p1.toInt.toNat = t
  obtain ⟨A, hA⟩ : ∃ A : Nat, p1.toInt = A := ⟨p1.toInt.toNat, by omega⟩
  rw [hA, Int.toNat_natCast]
  rfl
theorem rq_go {p1 z2 z3 v29 : Int32} {N : Nat} (h3 : 3 ≤ p1.toInt) (hz : z3.toInt = ((2 ^ z2.toInt.toNat % p1.toInt.toNat : Nat) : Int)) (hN : 2 ^ N % p1.toInt.toNat = 1 ∨ 2 ^ N % p1.toInt.toNat = p1.toInt.toNat - 1) (h1 : 0 ≤ z2.toInt) (hle : z2.toInt ≤ N) (c23 : ¬ z3 = 1) (e29 : v29 = p1 - 1) (c30 : ¬ z3 = v29) : z2.toInt < N := by
  rcases Int.lt_or_le z2.toInt N with h | h
  · exact h
  · have h2 : z2.toInt.toNat = N := by omega
    rw [h2] at hz
    have h4 := iq_sub1 e29 (by omega)
    rcases hN with h5 | h5
    · exact absurd (iq_eq.mpr (by rw [hz, h5]; rfl)) c23
    · exact absurd (iq_eq.mpr (by rw [hz, h5, h4]; omega)) c30

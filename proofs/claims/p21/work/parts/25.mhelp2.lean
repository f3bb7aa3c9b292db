theorem iq_tenc {um z v62 v64 : Int32} (h0 : 0 ≤ um.toInt) (h1 : um.toInt ≤ 12) (z0 : 0 ≤ z.toInt) (hc : ¬ 10 ≤ z) (e62 : v62 = 10 * um) (e64 : v64 = v62 + z) : v64.toNatClampNeg = 10 * um.toInt.toNat + z.toNatClampNeg := by
  have h := iq_ten h0 h1 z0 hc e62 e64
  have h5 : z.toNatClampNeg = z.toInt.toNat := rfl
  rw [h5]
  exact iq_clamp (by omega)
theorem iq_tenin {um z v62 v64 : Int32} {n : Nat} (h0 : 0 ≤ um.toInt) (h1 : um.toInt ≤ 12) (z0 : 0 ≤ z.toInt) (hc : ¬ 10 ≤ z) (e62 : v62 = 10 * um) (e64 : v64 = v62 + z) (hn : 10 * um.toInt + 10 ≤ n) : vp_in v64 n := by
  have h := iq_ten h0 h1 z0 hc e62 e64
  rw [iq_le] at hc
  have hc : ¬ (10 : Int) ≤ z.toInt := hc
  exact iq_in (by omega) (by omega)
theorem iq_ten1 {z v : Int32} (h : 0 ≤ z.toInt ∧ z.toInt ≤ 10) (hc : ¬ 10 ≤ z) (e : v = z + 1) : 0 ≤ v.toInt ∧ v.toInt ≤ 10 := by
  rw [iq_le] at hc
  have hc : ¬ (10 : Int) ≤ z.toInt := hc
  have := iq_add1 e (by omega)
  exact ⟨by omega, by omega⟩
theorem lq_mul {x y : Int64} (h1 : -9223372036854775808 ≤ x.toInt * y.toInt) (h2 : x.toInt * y.toInt < 9223372036854775808) : (x * y).toInt = x.toInt * y.toInt := by
  rw [Int64.toInt_mul]
  exact Int.bmod_eq_of_le (by omega) (by omega)
theorem lq_whole {z3 v76 v77 : Int64} {r sv : Int32} {k : Nat} (hk : k < 4) (h : 1 ≤ z3.toInt ∧ z3.toInt ≤ 32 ^ k) (h4 : 4 ≤ sv.toInt) (h16 : sv.toInt ≤ 16) (hr : r = 2 * sv) (e76 : v76 = r.toInt64) (e77 : v77 = z3 * v76) : 1 ≤ v77.toInt ∧ v77.toInt ≤ 32 ^ (k + 1) := by
  have h1 : r.toInt = 2 * sv.toInt := iq_mul2 (by omega) (by omega) hr
  have h2 : v76.toInt = r.toInt := by rw [e76]; exact Int32.toInt_toInt64 r
  have h3 : (32 : Int) ^ k ≤ 32768 := by
    rcases (show k = 0 ∨ k = 1 ∨ k = 2 ∨ k = 3 by omega) with rfl | rfl | rfl | rfl <;> decide
  have h5 : z3.toInt * v76.toInt ≤ 32 ^ k * 32 := Int.mul_le_mul h.2 (by omega) (by omega) (by omega)
  have h6 : 1 * 1 ≤ z3.toInt * v76.toInt := Int.mul_le_mul h.1 (by omega) (by omega) (by omega)
  rw [e77, lq_mul (by omega) (by omega), Int.pow_succ]
  exact ⟨by omega, by omega⟩

theorem mRest_mod {v : Int64} {m : Int32} (h0 : 0 < m.toInt) : (mRest v m).toInt = v.toInt % m.toInt := by
  have hm := iq_hi m
  have e1 : m.toInt64.toInt = m.toInt := Int32.toInt_toInt64 m
  have h := lq_rem v m.toInt64
  rw [e1] at h
  have b1 := Int.lt_tmod_of_pos v.toInt h0
  have b2 := Int.tmod_lt_of_pos v.toInt h0
  have e2 := lq_small (x := v - v / m.toInt64 * m.toInt64) (by omega) (by omega)
  have e3 := Int.emod_nonneg v.toInt (show m.toInt ≠ 0 by omega)
  have e4 := Int.emod_lt_of_pos v.toInt h0
  have t : v.toInt.tmod m.toInt = if 0 ≤ v.toInt ∨ v.toInt % m.toInt = 0 then v.toInt % m.toInt else v.toInt % m.toInt - m.toInt := by
    rw [Int.tmod_eq_emod]
    by_cases hq : 0 ≤ v.toInt ∨ m.toInt ∣ v.toInt
    · rw [if_pos hq, if_pos (hq.imp id Int.emod_eq_zero_of_dvd)]; omega
    · rw [if_neg hq, if_neg (fun h => hq (h.imp id Int.dvd_of_emod_eq_zero))]; omega
  unfold mRest
  by_cases hq : 0 ≤ (v - v / m.toInt64 * m.toInt64).toInt32
  · rw [if_pos hq]
    rw [iq_le] at hq
    have hq : (0 : Int) ≤ _ := hq
    by_cases hz : 0 ≤ v.toInt ∨ v.toInt % m.toInt = 0
    · rw [if_pos hz] at t
      omega
    · rw [if_neg hz] at t
      omega
  · rw [if_neg hq]
    rw [iq_le] at hq
    have hq : ¬ (0 : Int) ≤ _ := hq
    rw [iq_add (by omega) (by omega)]
    by_cases hz : 0 ≤ v.toInt ∨ v.toInt % m.toInt = 0
    · rw [if_pos hz] at t
      omega
    · rw [if_neg hz] at t
      omega
theorem mr_f {a z r b : Int32} {v : Int64} (ha : 0 < a.toInt) (hz : 0 ≤ z.toInt) (hb : b = mBy z) (e : v = b.toInt64) (hr : r = mRest v a) : r.toInt = fB a z.toInt.toNat := by
  rw [hr, mRest_mod ha, e, hb, Int32.toInt_toInt64]
  unfold fB
  rw [nI_self hz]
  rfl

/-! the weight of a number: ones of n xor 3 n -/
def popc (x : Nat) : Nat := if h : x = 0 then 0 else x % 2 + popc (x / 2)
  termination_by x
  decreasing_by omega
theorem popc_step (x : Nat) : popc x = x % 2 + popc (x / 2) := by
  by_cases h : x = 0
  · subst h
    simp [popc]
  · rw [popc]
    simp [h]
theorem popc_le (x : Nat) : popc x ≤ x := by
  induction x using Nat.strongRecOn with
  | _ x ih =>
    by_cases h : x = 0
    · subst h
      simp [popc]
    · have := ih (x / 2) (by omega)
      rw [popc_step]
      omega
theorem popc_xor (a b : Nat) : popc (a ^^^ b) = (a + b) % 2 + popc (a / 2 ^^^ b / 2) := by
  have h : ((a ^^^ b) % 2 = 1) ↔ ¬ ((a % 2 = 1) ↔ (b % 2 = 1)) := Nat.xor_mod_two_eq_one
  have h2 : (a ^^^ b) % 2 = (a + b) % 2 := by
    generalize a ^^^ b = x at h
    omega
  rw [popc_step, Nat.xor_div_two, h2]
def Pn (n : Nat) : Nat := popc (n ^^^ (3 * n))
theorem Pn_even (h : Nat) : Pn (2 * h) = Pn h := by
  unfold Pn
  rw [popc_xor, show (2 * h + 3 * (2 * h)) % 2 = 0 by omega, show 2 * h / 2 = h by omega, show 3 * (2 * h) / 2 = 3 * h by omega, Nat.zero_add]
theorem Pn_odd (h : Nat) : Pn (2 * h + 1) = popc (h ^^^ (3 * h + 1)) := by
  unfold Pn
  rw [popc_xor, show (2 * h + 1 + 3 * (2 * h + 1)) % 2 = 0 by omega, show (2 * h + 1) / 2 = h by omega, show 3 * (2 * h + 1) / 2 = 3 * h + 1 by omega, Nat.zero_add]
theorem Rn_even (h : Nat) : popc (2 * h ^^^ (3 * (2 * h) + 1)) = 1 + Pn h := by
  unfold Pn
  rw [popc_xor, show (2 * h + (3 * (2 * h) + 1)) % 2 = 1 by omega, show 2 * h / 2 = h by omega, show (3 * (2 * h) + 1) / 2 = 3 * h by omega]
theorem Rn_odd (h : Nat) : popc ((2 * h + 1) ^^^ (3 * (2 * h + 1) + 1)) = 1 + popc (h ^^^ (3 * h + 2)) := by
  rw [popc_xor, show (2 * h + 1 + (3 * (2 * h + 1) + 1)) % 2 = 1 by omega, show (2 * h + 1) / 2 = h by omega, show (3 * (2 * h + 1) + 1) / 2 = 3 * h + 2 by omega]
theorem Qn_even (h : Nat) : popc (2 * h ^^^ (3 * (2 * h) + 2)) = popc (h ^^^ (3 * h + 1)) := by
  rw [popc_xor, show (2 * h + (3 * (2 * h) + 2)) % 2 = 0 by omega, show 2 * h / 2 = h by omega, show (3 * (2 * h) + 2) / 2 = 3 * h + 1 by omega, Nat.zero_add]
theorem Qn_odd (h : Nat) : popc ((2 * h + 1) ^^^ (3 * (2 * h + 1) + 2)) = popc (h ^^^ (3 * h + 2)) := by
  rw [popc_xor, show (2 * h + 1 + (3 * (2 * h + 1) + 2)) % 2 = 0 by omega, show (2 * h + 1) / 2 = h by omega, show (3 * (2 * h + 1) + 2) / 2 = 3 * h + 2 by omega, Nat.zero_add]
theorem Qn_Pn (j : Nat) : popc (j ^^^ (3 * j + 2)) = Pn (j + 1) := by
  induction j using Nat.strongRecOn with
  | _ j ih =>
    rcases Nat.mod_two_eq_zero_or_one j with h | h
    · obtain ⟨k, rfl⟩ : ∃ k, j = 2 * k := ⟨j / 2, by omega⟩
      rw [Qn_even, Pn_odd]
    · obtain ⟨k, rfl⟩ : ∃ k, j = 2 * k + 1 := ⟨j / 2, by omega⟩
      rw [Qn_odd, ih k (by omega), show 2 * k + 1 + 1 = 2 * (k + 1) by omega, Pn_even]
theorem Pn_1 (j : Nat) : Pn (4 * j + 1) = 1 + Pn (2 * j) := by
  rw [show 4 * j + 1 = 2 * (2 * j) + 1 by omega, Pn_odd, Rn_even, Pn_even]
theorem Pn_3 (j : Nat) : Pn (4 * j + 3) = 1 + Pn (2 * j + 2) := by
  rw [show 4 * j + 3 = 2 * (2 * j + 1) + 1 by omega, Pn_odd, Rn_odd, Qn_Pn, show 2 * j + 2 = 2 * (j + 1) by omega, Pn_even]
theorem Pn_le {n : Nat} (h : n ≤ 100000) : Pn n ≤ 524288 := by
  have h1 : n ^^^ (3 * n) < 2 ^ 19 := Nat.xor_lt_two_pow (by omega) (by omega)
  have h2 := popc_le (n ^^^ (3 * n))
  unfold Pn
  omega
theorem iq_half {x v : Int32} (h : 0 ≤ x.toInt) (e : v = x / 2) : v.toInt = x.toInt / 2 := by
  rw [e, Int32.toInt_div_of_ne_right _ _ (by decide)]
  show x.toInt.tdiv 2 = _
  exact Int.tdiv_eq_ediv_of_nonneg h
theorem iq_remn {x v k : Int32} (h : 0 ≤ x.toInt) (e : v = x - x / k * k) : v.toInt = x.toInt % k.toInt := by
  rw [e, iq_rem]
  exact Int.tmod_eq_emod_of_nonneg h
theorem wq_a {z1 z2 v19 v44 : Int32} {N : Nat} (h0 : 0 < z1.toInt) (e19 : v19 = z1 - z1 / 2 * 2) (c : ¬ v19 = 1) (e44 : v44 = z1 / 2) (hi : z2.toInt + Pn z1.toInt.toNat = N) : v44.toInt = z1.toInt / 2 ∧ z2.toInt + Pn v44.toInt.toNat = N := by
  have h1 := iq_half (by omega) e44
  have h2 : v19.toInt = z1.toInt % 2 := iq_remn (by omega) e19
  have h3 : v19.toInt ≠ 1 := fun q => c (by rw [iq_eq]; exact q)
  refine ⟨h1, ?_⟩
  have h4 : z1.toInt.toNat = 2 * v44.toInt.toNat := by omega
  rw [h4, Pn_even] at hi
  exact hi
theorem wq_b {z1 z2 v19 v24 v30 v40 v44 : Int32} {N : Nat} (h0 : 0 < z1.toInt) (hb : z1.toInt ≤ 100000) (hN : N ≤ 1000000) (e19 : v19 = z1 - z1 / 2 * 2) (c : v19 = 1) (e24 : v24 = z2 + 1) (e30 : v30 = z1 - z1 / 4 * 4) (c32 : ¬ v30 = 3) (e40 : v40 = z1 + (-1)) (e44 : v44 = v40 / 2) (hz : 0 ≤ z2.toInt) (hi : z2.toInt + Pn z1.toInt.toNat = N) : v44.toInt = z1.toInt / 2 ∧ v24.toInt = z2.toInt + 1 ∧ v24.toInt + Pn v44.toInt.toNat = N := by
  have h1 : v40.toInt = z1.toInt - 1 := by
    rw [e40, iq_add (by show _ ≤ z1.toInt + (-1); omega) (by show z1.toInt + (-1) < _; omega)]
    show z1.toInt + (-1) = _
    omega
  have h2 := iq_half (by omega) e44
  have h3 : v19.toInt = z1.toInt % 2 := iq_remn (by omega) e19
  have h4 : v30.toInt = z1.toInt % 4 := iq_remn (by omega) e30
  have h5 : v19.toInt = 1 := by rw [c]; rfl
  have h6 : v30.toInt ≠ 3 := fun q => c32 (by rw [iq_eq]; exact q)
  have h7 : v24.toInt = z2.toInt + 1 := iq_add1 e24 (by omega)
  refine ⟨by omega, h7, ?_⟩
  obtain ⟨j, hj⟩ : ∃ j : Nat, z1.toInt.toNat = 4 * j + 1 := ⟨z1.toInt.toNat / 4, by omega⟩
  rw [hj, Pn_1] at hi
  have h8 : v44.toInt.toNat = 2 * j := by omega
  rw [h8]
  omega
theorem wq_c {z1 z2 v19 v24 v30 v40 v44 : Int32} {N : Nat} (h0 : 0 < z1.toInt) (hb : z1.toInt ≤ 100000) (hN : N ≤ 1000000) (e19 : v19 = z1 - z1 / 2 * 2) (c : v19 = 1) (e24 : v24 = z2 + 1) (e30 : v30 = z1 - z1 / 4 * 4) (c32 : v30 = 3) (e40 : v40 = z1 + 1) (e44 : v44 = v40 / 2) (hz : 0 ≤ z2.toInt) (hi : z2.toInt + Pn z1.toInt.toNat = N) : v44.toInt = (z1.toInt + 1) / 2 ∧ v24.toInt = z2.toInt + 1 ∧ v24.toInt + Pn v44.toInt.toNat = N ∧ 3 ≤ z1.toInt := by
  have h1 : v40.toInt = z1.toInt + 1 := iq_add1 e40 (by omega)
  have h2 := iq_half (by omega) e44
  have h4 : v30.toInt = z1.toInt % 4 := iq_remn (by omega) e30
  have h6 : v30.toInt = 3 := by rw [c32]; rfl
  have h7 : v24.toInt = z2.toInt + 1 := iq_add1 e24 (by omega)
  refine ⟨by omega, h7, ?_, by omega⟩
  obtain ⟨j, hj⟩ : ∃ j : Nat, z1.toInt.toNat = 4 * j + 3 := ⟨z1.toInt.toNat / 4, by omega⟩
  rw [hj, Pn_3] at hi
  have h8 : v44.toInt.toNat = 2 * j + 2 := by omega
  rw [h8]
  omega
theorem iq_negn {x v : Int32} (h : -100000 ≤ x.toInt) (h2 : x.toInt ≤ 100000) (e : v = -x) : v.toInt = -x.toInt := by
  rw [e, Int32.toInt_neg]
  exact Int.bmod_eq_of_le (by omega) (by omega)

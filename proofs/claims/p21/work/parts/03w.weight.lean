/-! the weight of a number: ones of n xor 3 n -/
def popc (x : Nat) : Nat := if h : x = 0 then 0 else x % 2 + popc (x / 2)
  termination_by x
  decreasing_by omega
theorem popc_step (x : Nat) : popc x = x % 2 + popc (x / 2) := by
  by_cases h : x = 0
  · subst h
    simp [popc]
  · rw [popc]
    simp [h]
theorem popc_le (x : Nat) : popc x ≤ x := by
  induction x using Nat.strongRecOn with
  | _ x ih =>
    by_cases h : x = 0
    · subst h
      simp [popc]
    · have := ih (x / 2) (by omega)
      rw [popc_step]
      omega
theorem popc_xor (a b : Nat) : popc (a ^^^ b) = (a + b) % 2 + popc (a / 2 ^^^ b / 2) := by
  have h : ((a ^^^ b) % 2 = 1) ↔ ¬ ((a % 2 = 1) ↔ (b % 2 = 1)) := Nat.xor_mod_two_eq_one
  have h2 : (a ^^^ b) % 2 = (a + b) % 2 := by
    generalize a ^^^ b = x at h
    omega
  rw [popc_step, Nat.xor_div_two, h2]
def Pn (n : Nat) : Nat := popc (n ^^^ (3 * n))
theorem Pn_even (h : Nat) : Pn (2 * h) = Pn h := by
  unfold Pn
  rw [popc_xor, show (2 * h + 3 * (2 * h)) % 2 = 0 by omega, show 2 * h / 2 = h by omega, show 3 * (2 * h) / 2 = 3 * h by omega, Nat.zero_add]
theorem Pn_odd (h : Nat) : Pn (2 * h + 1) = popc (h ^^^ (3 * h + 1)) := by
  unfold Pn
  rw [popc_xor, show (2 * h + 1 + 3 * (2 * h + 1)) % 2 = 0 by omega, show (2 * h + 1) / 2 = h by omega, show 3 * (2 * h + 1) / 2 = 3 * h + 1 by omega, Nat.zero_add]
theorem Rn_even (h : Nat) : popc (2 * h ^^^ (3 * (2 * h) + 1)) = 1 + Pn h := by
  unfold Pn
  rw [popc_xor, show (2 * h + (3 * (2 * h) + 1)) % 2 = 1 by omega, show 2 * h / 2 = h by omega, show (3 * (2 * h) + 1) / 2 = 3 * h by omega]
theorem Rn_odd (h : Nat) : popc ((2 * h + 1) ^^^ (3 * (2 * h + 1) + 1)) = 1 + popc (h ^^^ (3 * h + 2)) := by
  rw [popc_xor, show (2 * h + 1 + (3 * (2 * h + 1) + 1)) % 2 = 1 by omega, show (2 * h + 1) / 2 = h by omega, show (3 * (2 * h + 1) + 1) / 2 = 3 * h + 2 by omega]
theorem Qn_even (h : Nat) : popc (2 * h ^^^ (3 * (2 * h) + 2)) = popc (h ^^^ (3 * h + 1)) := by
  rw [popc_xor, show (2 * h + (3 * (2 * h) + 2)) % 2 = 0 by omega, show 2 * h / 2 = h by omega, show (3 * (2 * h) + 2) / 2 = 3 * h + 1 by omega, Nat.zero_add]
theorem Qn_odd (h : Nat) : popc ((2 * h + 1) ^^^ (3 * (2 * h + 1) + 2)) = popc (h ^^^ (3 * h + 2)) := by
  rw [popc_xor, show (2 * h + 1 + (3 * (2 * h + 1) + 2)) % 2 = 0 by omega, show (2 * h + 1) / 2 = h by omega, show (3 * (2 * h + 1) + 2) / 2 = 3 * h + 2 by omega, Nat.zero_add]
theorem Qn_Pn (j : Nat) : popc (j ^^^ (3 * j + 2)) = Pn (j + 1) := by
  induction j using Nat.strongRecOn with
  | _ j ih =>
    rcases Nat.mod_two_eq_zero_or_one j with h | h
    · obtain ⟨k, rfl⟩ : ∃ k, j = 2 * k := ⟨j / 2, by omega⟩
      rw [Qn_even, Pn_odd]
    · obtain ⟨k, rfl⟩ : ∃ k, j = 2 * k + 1 := ⟨j / 2, by omega⟩
      rw [Qn_odd, ih k (by omega), show 2 * k + 1 + 1 = 2 * (k + 1) by omega, Pn_even]
theorem Pn_1 (j : Nat) : Pn (4 * j + 1) = 1 + Pn (2 * j) := by
  rw [show 4 * j + 1 = 2 * (2 * j) + 1 by omega, Pn_odd, Rn_even, Pn_even]
theorem Pn_3 (j : Nat) : Pn (4 * j + 3) = 1 + Pn (2 * j + 2) := by
  rw [show 4 * j + 3 = 2 * (2 * j + 1) + 1 by omega, Pn_odd, Rn_odd, Qn_Pn, show 2 * j + 2 = 2 * (j + 1) by omega, Pn_even]
theorem Pn_le {n : Nat} (h : n ≤ 100000) : Pn n ≤ 524288 := by
  have h1 : n ^^^ (3 * n) < 2 ^ 19 := Nat.xor_lt_two_pow (by omega) (by omega)
  have h2 := popc_le (n ^^^ (3 * n))
  unfold Pn
  omega
theorem wq_a {z1 z2 v19 v44 : Int32} {N : Nat} (h0 : 0 < z1.toInt) (e19 : v19 = z1 - z1 / 2 * 2) (c : ¬ v19 = 1) (e44 : v44 = z1 / 2) (hi : z2.toInt + Pn z1.toInt.toNat = N) : v44.toInt = z1.toInt / 2 ∧ z2.toInt + Pn v44.toInt.toNat = N := by
  have h1 := iq_half (by omega) e44
  have h2 : v19.toInt = z1.toInt % 2 := iq_remn (by omega) e19
  have h3 : v19.toInt ≠ 1 := fun q => c (by rw [iq_eq]; exact q)
  refine ⟨h1, ?_⟩
  have h4 : z1.toInt.toNat = 2 * v44.toInt.toNat := by omega
  rw [h4, Pn_even] at hi
  exact hi
theorem wq_b {z1 z2 v19 v24 v30 v40 v44 : Int32} {N : Nat} (h0 : 0 < z1.toInt) (hb : z1.toInt ≤ 100000) (hN : N ≤ 1000000) (e19 : v19 = z1 - z1 / 2 * 2) (c : v19 = 1) (e24 : v24 = z2 + 1) (e30 : v30 = z1 - z1 / 4 * 4) (c32 : ¬ v30 = 3) (e40 : v40 = z1 + (-1)) (e44 : v44 = v40 / 2) (hz : 0 ≤ z2.toInt) (hi : z2.toInt + Pn z1.toInt.toNat = N) : v44.toInt = z1.toInt / 2 ∧ v24.toInt = z2.toInt + 1 ∧ v24.toInt + Pn v44.toInt.toNat = N := by
  have h1 : v40.toInt = z1.toInt - 1 := by
    rw [e40, iq_add (by show _ ≤ z1.toInt + (-1); omega) (by show z1.toInt + (-1) < _; omega)]
    show z1.toInt + (-1) = _
    omega
  have h2 := iq_half (by omega) e44
  have h3 : v19.toInt = z1.toInt % 2 := iq_remn (by omega) e19
  have h4 : v30.toInt = z1.toInt % 4 := iq_remn (by omega) e30
  have h5 : v19.toInt = 1 := by rw [c]; rfl
  have h6 : v30.toInt ≠ 3 := fun q => c32 (by rw [iq_eq]; exact q)
  have h7 : v24.toInt = z2.toInt + 1 := iq_add1 e24 (by omega)
  refine ⟨by omega, h7, ?_⟩
  obtain ⟨j, hj⟩ : ∃ j : Nat, z1.toInt.toNat = 4 * j + 1 := ⟨z1.toInt.toNat / 4, by omega⟩
  rw [hj, Pn_1] at hi
  have h8 : v44.toInt.toNat = 2 * j := by omega
  rw [h8]
  omega
theorem wq_c {z1 z2 v19 v24 v30 v40 v44 : Int32} {N : Nat} (h0 : 0 < z1.toInt) (hb : z1.toInt ≤ 100000) (hN : N ≤ 1000000) (e19 : v19 = z1 - z1 / 2 * 2) (c : v19 = 1) (e24 : v24 = z2 + 1) (e30 : v30 = z1 - z1 / 4 * 4) (c32 : v30 = 3) (e40 : v40 = z1 + 1) (e44 : v44 = v40 / 2) (hz : 0 ≤ z2.toInt) (hi : z2.toInt + Pn z1.toInt.toNat = N) : v44.toInt = (z1.toInt + 1) / 2 ∧ v24.toInt = z2.toInt + 1 ∧ v24.toInt + Pn v44.toInt.toNat = N ∧ 3 ≤ z1.toInt := by
  have h1 : v40.toInt = z1.toInt + 1 := iq_add1 e40 (by omega)
  have h2 := iq_half (by omega) e44
  have h4 : v30.toInt = z1.toInt % 4 := iq_remn (by omega) e30
  have h6 : v30.toInt = 3 := by rw [c32]; rfl
  have h7 : v24.toInt = z2.toInt + 1 := iq_add1 e24 (by omega)
  refine ⟨by omega, h7, ?_, by omega⟩
  obtain ⟨j, hj⟩ : ∃ j : Nat, z1.toInt.toNat = 4 * j + 3 := ⟨z1.toInt.toNat / 4, by omega⟩
  rw [hj, Pn_3] at hi
  have h8 : v44.toInt.toNat = 2 * j + 2 := by omega
  rw [h8]
  omega
theorem iq_negn {x v : Int32} (h : -100000 ≤ x.toInt) (h2 : x.toInt ≤ 100000) (e : v = -x) : v.toInt = -x.toInt := by
  rw [e, Int32.toInt_neg]
  exact Int.bmod_eq_of_le (by omega) (by omega)
def wAns (v : Int32) : Int := if -99999 ≤ v.toInt ∧ v.toInt ≤ 99999 then (Pn v.toInt.natAbs : Int) else -1000001
theorem wAns_in {v r : Int32} (h1 : -99999 ≤ v.toInt) (h2 : v.toInt ≤ 99999) (h : r.toInt = (Pn v.toInt.natAbs : Int)) : r.toInt = wAns v := by
  unfold wAns
  rw [if_pos ⟨h1, h2⟩]
  exact h
theorem wAns_out {v : Int32} (h : ¬ (-99999 ≤ v.toInt ∧ v.toInt ≤ 99999)) : (-1000001 : Int32).toInt = wAns v := by
  unfold wAns
  rw [if_neg h]
  rfl
/-! ones of a number, as the JDK counts them -/
theorem bq_and (a b : Nat) : nI a &&& nI b = nI (a &&& b) := by
  apply Int32.toBitVec_inj.1
  show BitVec.ofNat 32 a &&& BitVec.ofNat 32 b = BitVec.ofNat 32 (a &&& b)
  apply BitVec.eq_of_getLsbD_eq
  intro i hi
  simp [hi]
theorem bq_xor (a b : Nat) : nI a ^^^ nI b = nI (a ^^^ b) := by
  apply Int32.toBitVec_inj.1
  show BitVec.ofNat 32 a ^^^ BitVec.ofNat 32 b = BitVec.ofNat 32 (a ^^^ b)
  apply BitVec.eq_of_getLsbD_eq
  intro i hi
  simp [hi]
theorem bq_split {a m : Nat} (b k : Nat) (ha : a < 256) (hm : m < 256) : (a + 256 * b) &&& (m + 256 * k) = (a &&& m) + 256 * (b &&& k) := by
  have h1 : ((a + 256 * b) &&& (m + 256 * k)) % 2 ^ 8 = ((a + 256 * b) % 2 ^ 8) &&& ((m + 256 * k) % 2 ^ 8) := Nat.and_mod_two_pow
  have h2 : ((a + 256 * b) &&& (m + 256 * k)) / 2 ^ 8 = ((a + 256 * b) / 2 ^ 8) &&& ((m + 256 * k) / 2 ^ 8) := Nat.and_div_two_pow
  rw [show (a + 256 * b) % 2 ^ 8 = a by omega, show (m + 256 * k) % 2 ^ 8 = m by omega] at h1
  rw [show (a + 256 * b) / 2 ^ 8 = b by omega, show (m + 256 * k) / 2 ^ 8 = k by omega] at h2
  omega
theorem bq_split3 {x y z m : Nat} (hx : x < 256) (hy : y < 256) (hm : m < 256) : (x + 256 * (y + 256 * z)) &&& (m + 256 * (m + 256 * (m + 256 * m))) = (x &&& m) + 256 * ((y &&& m) + 256 * (z &&& (m + 256 * m))) := by
  rw [bq_split _ _ hx hm, bq_split _ _ hy hm]
theorem bq_low {z m : Nat} (hz : z < 256) (hm : m < 256) : z &&& (m + 256 * m) = z &&& m := by
  have h := bq_split (a := z) (m := m) 0 m hz hm
  simp only [Nat.mul_zero, Nat.add_zero, Nat.zero_and] at h
  exact h
def popF : Nat → Nat → Nat
  | 0, _ => 0
  | n + 1, x => x % 2 + popF n (x / 2)
theorem popc_F (k : Nat) : ∀ (x y : Nat), x < 2 ^ k → popc (x + 2 ^ k * y) = popF k x + popc y := by
  induction k with
  | zero =>
    intro x y hx
    have : x = 0 := by omega
    subst this
    simp [popF]
  | succ k ih =>
    intro x y hx
    rw [Nat.pow_succ] at hx ⊢
    rw [popc_step, show (x + 2 ^ k * 2 * y) / 2 = x / 2 + 2 ^ k * y by rw [Nat.mul_right_comm]; omega, ih (x / 2) y (by omega), show (x + 2 ^ k * 2 * y) % 2 = x % 2 by rw [Nat.mul_right_comm]; omega]
    simp only [popF]
    omega
def bq1 (b : Nat) : Nat := b - (b / 2 &&& 85)
def bq2 (b : Nat) : Nat := (bq1 b &&& 51) + (bq1 b / 4 &&& 51)
theorem bq_t1 : ∀ x, x < 256 → ∀ t, t < 2 → (x / 2 + 128 * t) &&& 85 = x / 2 &&& 85 := by decide +kernel
theorem bq_t1b : ∀ x, x < 256 → bq1 x < 256 ∧ (x / 2 &&& 85) ≤ x := by decide +kernel
theorem bq_t2 : ∀ x, x < 256 → ∀ t, t < 4 → (x / 4 + 64 * t) &&& 51 = x / 4 &&& 51 := by decide +kernel
theorem bq_t2b : ∀ x, x < 256 → bq2 x ≤ 68 ∧ bq2 x % 16 ≤ 4 := by decide +kernel
theorem bq_t3 : ∀ x, x < 256 → ∀ t, t < 16 → (bq2 x + bq2 x / 16 + 16 * t) &&& 15 = popF 8 x := by decide +kernel
theorem bq_t3b : ∀ x, x < 256 → popF 8 x ≤ 8 := by decide +kernel
def bcN (n : Nat) : Nat :=
  let a1 := n - (n / 2 &&& 1431655765)
  let a2 := (a1 &&& 858993459) + (a1 / 4 &&& 858993459)
  let a3 := (a2 + a2 / 16) &&& 252645135
  let a4 := a3 + a3 / 256
  let a5 := a4 + a4 / 65536
  a5 &&& 63
theorem bq_a1 {x y z : Nat} (hx : x < 256) (hy : y < 256) (hz : z < 256) : (x + 256 * (y + 256 * z)) - ((x + 256 * (y + 256 * z)) / 2 &&& 1431655765) = bq1 x + 256 * (bq1 y + 256 * bq1 z) := by
  rw [show (x + 256 * (y + 256 * z)) / 2 = (x / 2 + 128 * (y % 2)) + 256 * ((y / 2 + 128 * (z % 2)) + 256 * (z / 2)) by omega]
  rw [show (1431655765 : Nat) = 85 + 256 * (85 + 256 * (85 + 256 * 85)) by decide, bq_split3 (by omega) (by omega) (by decide), bq_t1 x hx _ (by omega), bq_t1 y hy _ (by omega), bq_low (by omega) (by decide)]
  have h1 := bq_t1b x hx
  have h2 := bq_t1b y hy
  have h3 := bq_t1b z hz
  unfold bq1
  omega
theorem bq_a2 {x y z : Nat} (hx : x < 256) (hy : y < 256) (hz : z < 256) : ((x + 256 * (y + 256 * z)) &&& 858993459) + ((x + 256 * (y + 256 * z)) / 4 &&& 858993459) = ((x &&& 51) + (x / 4 &&& 51)) + 256 * (((y &&& 51) + (y / 4 &&& 51)) + 256 * ((z &&& 51) + (z / 4 &&& 51))) := by
  rw [show (x + 256 * (y + 256 * z)) / 4 = (x / 4 + 64 * (y % 4)) + 256 * ((y / 4 + 64 * (z % 4)) + 256 * (z / 4)) by omega]
  rw [show (858993459 : Nat) = 51 + 256 * (51 + 256 * (51 + 256 * 51)) by decide, bq_split3 hx hy (by decide), bq_split3 (by omega) (by omega) (by decide), bq_t2 x hx _ (by omega), bq_t2 y hy _ (by omega), bq_low hz (by decide), bq_low (by omega) (by decide)]
  omega
theorem bq_a3 {x y z : Nat} (hx : x < 256) (hy : y < 256) (hz : z < 256) : ((bq2 x + 256 * (bq2 y + 256 * bq2 z)) + (bq2 x + 256 * (bq2 y + 256 * bq2 z)) / 16) &&& 252645135 = popF 8 x + 256 * (popF 8 y + 256 * popF 8 z) := by
  have h1 := bq_t2b x hx
  have h2 := bq_t2b y hy
  have h3 := bq_t2b z hz
  rw [show (bq2 x + 256 * (bq2 y + 256 * bq2 z)) + (bq2 x + 256 * (bq2 y + 256 * bq2 z)) / 16 = (bq2 x + bq2 x / 16 + 16 * (bq2 y % 16)) + 256 * ((bq2 y + bq2 y / 16 + 16 * (bq2 z % 16)) + 256 * (bq2 z + bq2 z / 16)) by omega]
  have h4 := bq_t3 z hz 0 (by decide)
  rw [show bq2 z + bq2 z / 16 + 16 * 0 = bq2 z + bq2 z / 16 by omega] at h4
  rw [show (252645135 : Nat) = 15 + 256 * (15 + 256 * (15 + 256 * 15)) by decide, bq_split3 (by omega) (by omega) (by decide), bq_t3 x hx _ (by omega), bq_t3 y hy _ (by omega), bq_low (by omega) (by decide), h4]
theorem bcN_popc {n : Nat} (h : n < 16777216) : bcN n = popc n := by
  obtain ⟨x, y, z, hx, hy, hz, rfl⟩ : ∃ x y z, x < 256 ∧ y < 256 ∧ z < 256 ∧ n = x + 256 * (y + 256 * z) := ⟨n % 256, n / 256 % 256, n / 65536, by omega, by omega, by omega, by omega⟩
  have b1 := (bq_t1b x hx).1
  have b2 := (bq_t1b y hy).1
  have b3 := (bq_t1b z hz).1
  have p1 := bq_t3b x hx
  have p2 := bq_t3b y hy
  have p3 := bq_t3b z hz
  have e2 : ((bq1 x + 256 * (bq1 y + 256 * bq1 z)) &&& 858993459) + ((bq1 x + 256 * (bq1 y + 256 * bq1 z)) / 4 &&& 858993459) = bq2 x + 256 * (bq2 y + 256 * bq2 z) := bq_a2 b1 b2 b3
  have hp : popc (x + 256 * (y + 256 * z)) = popF 8 x + (popF 8 y + popF 8 z) := by
    have h1 := popc_F 8 x (y + 256 * z) hx
    have h2 := popc_F 8 y z hy
    have h3 := popc_F 8 z 0 hz
    have h4 : popc 0 = 0 := by simp [popc]
    simp only [Nat.mul_zero, Nat.add_zero, h4] at h3
    rw [show (256 : Nat) = 2 ^ 8 by decide]
    rw [show (256 : Nat) = 2 ^ 8 by decide] at h1
    rw [h1, h2, h3]
  unfold bcN
  simp only [bq_a1 hx hy hz, e2, bq_a3 hx hy hz]
  generalize popF 8 x = A at hp p1
  generalize popF 8 y = B at hp p2
  generalize popF 8 z = C at hp p3
  rw [hp, show (A + 256 * (B + 256 * C)) / 256 = B + 256 * C by omega, show (A + 256 * (B + 256 * C) + (B + 256 * C)) / 65536 = C by omega, show (63 : Nat) = 2 ^ 6 - 1 by decide, Nat.and_two_pow_sub_one_eq_mod]
  omega
theorem bc_run {n : Nat} {v3 v7 v8 v14 v17 v21 v22 v27 v28 v32 v38 v39 v45 v46 v51 x : Int32} (hn : n < 16777216) (hx : x = nI n)
    (e3 : v3 = (x.toUInt32 >>> ((1 : Int32).toUInt32 &&& Int32.toUInt32 31)).toInt32) (e7 : v7 = v3 &&& 1431655765) (e8 : v8 = x - v7)
    (e14 : v14 = v8 &&& 858993459) (e17 : v17 = (v8.toUInt32 >>> ((2 : Int32).toUInt32 &&& Int32.toUInt32 31)).toInt32) (e21 : v21 = v17 &&& 858993459) (e22 : v22 = v14 + v21)
    (e27 : v27 = (v22.toUInt32 >>> ((4 : Int32).toUInt32 &&& Int32.toUInt32 31)).toInt32) (e28 : v28 = v22 + v27) (e32 : v32 = v28 &&& 252645135)
    (e38 : v38 = (v32.toUInt32 >>> ((8 : Int32).toUInt32 &&& Int32.toUInt32 31)).toInt32) (e39 : v39 = v32 + v38)
    (e45 : v45 = (v39.toUInt32 >>> ((16 : Int32).toUInt32 &&& Int32.toUInt32 31)).toInt32) (e46 : v46 = v39 + v45) (e51 : v51 = v46 &&& 63) : v51.toInt = (popc n : Int) := by
  have l1 : (n / 2 &&& 1431655765) ≤ n / 2 := Nat.and_le_left
  have h3 : v3 = nI (n / 2) := by rw [e3, hx]; exact pk_ushrN (by omega) 1 1 (by decide)
  have h7 : v7 = nI (n / 2 &&& 1431655765) := by rw [e7, h3]; exact bq_and _ 1431655765
  have h8 : v8 = nI (n - (n / 2 &&& 1431655765)) := by rw [e8, h7, hx]; exact pk_sub (by omega)
  have b := bcN_popc hn
  unfold bcN at b
  have b1 : n - (n / 2 &&& 1431655765) < 16777216 := by omega
  generalize n - (n / 2 &&& 1431655765) = a1 at h8 b b1
  have h14 : v14 = nI (a1 &&& 858993459) := by rw [e14, h8]; exact bq_and _ 858993459
  have h17 : v17 = nI (a1 / 4) := by rw [e17, h8]; exact pk_ushrN (by omega) 2 2 (by decide)
  have h21 : v21 = nI (a1 / 4 &&& 858993459) := by rw [e21, h17]; exact bq_and _ 858993459
  have h22 : v22 = nI ((a1 &&& 858993459) + (a1 / 4 &&& 858993459)) := by rw [e22, h14, h21, nI_add]
  have l2 : (a1 &&& 858993459) ≤ a1 := Nat.and_le_left
  have l3 : (a1 / 4 &&& 858993459) ≤ a1 / 4 := Nat.and_le_left
  have b2 : (a1 &&& 858993459) + (a1 / 4 &&& 858993459) < 33554432 := by omega
  simp only at b
  generalize (a1 &&& 858993459) + (a1 / 4 &&& 858993459) = a2 at h22 b b2
  have h27 : v27 = nI (a2 / 16) := by rw [e27, h22]; exact pk_ushrN (by omega) 4 4 (by decide)
  have h28 : v28 = nI (a2 + a2 / 16) := by rw [e28, h22, h27, nI_add]
  have h32 : v32 = nI ((a2 + a2 / 16) &&& 252645135) := by rw [e32, h28]; exact bq_and _ 252645135
  have l4 : ((a2 + a2 / 16) &&& 252645135) ≤ a2 + a2 / 16 := Nat.and_le_left
  have b3 : ((a2 + a2 / 16) &&& 252645135) < 67108864 := by omega
  generalize (a2 + a2 / 16) &&& 252645135 = a3 at h32 b b3
  have h38 : v38 = nI (a3 / 256) := by rw [e38, h32]; exact pk_ushrN (by omega) 8 8 (by decide)
  have h39 : v39 = nI (a3 + a3 / 256) := by rw [e39, h32, h38, nI_add]
  have b4 : a3 + a3 / 256 < 134217728 := by omega
  generalize a3 + a3 / 256 = a4 at h39 b b4
  have h45 : v45 = nI (a4 / 65536) := by rw [e45, h39]; exact pk_ushrN (by omega) 16 16 (by decide)
  have h46 : v46 = nI (a4 + a4 / 65536) := by rw [e46, h39, h45, nI_add]
  have h51 : v51 = nI ((a4 + a4 / 65536) &&& 63) := by rw [e51, h46]; exact bq_and _ 63
  have l5 : ((a4 + a4 / 65536) &&& 63) ≤ a4 + a4 / 65536 := Nat.and_le_left
  rw [h51, b] at *
  exact nI_toInt (by omega)
theorem dq_run {x v3 v4 r : Int32} (h0 : 0 ≤ x.toInt) (h1 : x.toInt ≤ 99999) (e3 : v3 = 3 * x) (e4 : v4 = x ^^^ v3) (hp : ∀ n : Nat, n < 16777216 → v4 = nI n → r.toInt = (popc n : Int)) : r.toInt = (Pn x.toInt.toNat : Int) := by
  have hx : x = nI x.toInt.toNat := iq_eq.mpr (by rw [nI_toInt (by omega)]; omega)
  generalize hn : x.toInt.toNat = n at hx
  have h3 : v3 = nI (3 * n) := by rw [e3, hx]; exact pk_mul 3 n
  have h4 : v4 = nI (n ^^^ (3 * n)) := by rw [e4, h3, hx]; exact bq_xor _ _
  have hb : n ^^^ (3 * n) < 2 ^ 19 := Nat.xor_lt_two_pow (by omega) (by omega)
  exact hp _ (by omega) h4
theorem aq_abs {x v : Int32} (h1 : -99999 ≤ x.toInt) (h2 : x.toInt ≤ 99999) (e : v = if 0 ≤ x then x else 0 - x) : v.toInt = (x.toInt.natAbs : Int) := by
  by_cases h : 0 ≤ x
  · rw [e, if_pos h]
    rw [iq_le] at h
    have h : (0 : Int) ≤ x.toInt := h
    omega
  · rw [e, if_neg h]
    rw [iq_le] at h
    have h : ¬ (0 : Int) ≤ x.toInt := h
    rw [iq_sub (by show _ ≤ (0 : Int) - x.toInt; omega) (by show (0 : Int) - x.toInt < _; omega)]
    show (0 : Int) - x.toInt = _
    omega
theorem wq_ans {x v r : Int32} (h1 : -99999 ≤ x.toInt) (h2 : x.toInt ≤ 99999) (e : v = if 0 ≤ x then x else 0 - x) (hp : 0 ≤ v.toInt → v.toInt ≤ 99999 → r.toInt = (Pn v.toInt.toNat : Int)) : r.toInt = wAns x := by
  have h := aq_abs h1 h2 e
  refine wAns_in h1 h2 ?_
  rw [hp (by omega) (by omega), h]
  rfl

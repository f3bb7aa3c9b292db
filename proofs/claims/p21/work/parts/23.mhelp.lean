theorem okS.pos {s : Nat → Int32} (h : okS s) {v : Int32} (e : v = s (0 : Int32).toNatClampNeg) : 0 < v.toInt := by
  rw [e]
  have := h.1
  show 0 < (s 0).toInt
  omega
theorem okS.le {s : Nat → Int32} (h : okS s) {v : Int32} (e : v = s (0 : Int32).toNatClampNeg) : v.toInt ≤ 199 := by
  rw [e]
  exact h.2.1
theorem okS.nz {s : Nat → Int32} (h : okS s) {v : Int32} (e : v = s (0 : Int32).toNatClampNeg) : ¬ v = 0 := fun q => h.ne (e.symm.trans q)
theorem okS.upr {s s1 : Nat → Int32} (h : okS s) {v k r x : Int32} (hk0 : 2 ≤ k.toInt) (hk : k.toInt ≤ 6) (h0 : 0 ≤ r.toInt) (h1 : r.toInt ≤ 3) (hv : v = k + r) (e : upd s v.toNatClampNeg x = s1) : okS s1 := by
  have h2 := iq_reg (by omega) (by omega) h0 h1 hv
  rw [← e]
  exact h.up (by show 2 ≤ v.toInt.toNat; omega) x
theorem okS.set2 {s s1 s2 : Nat → Int32} {a w : Int32} (h : 3 ≤ a.toInt ∧ a.toInt ≤ 199 ∧ 4 ≤ w.toInt ∧ w.toInt ≤ 16) (e1 : upd s (0 : Int32).toNatClampNeg a = s1) (e2 : upd s1 (1 : Int32).toNatClampNeg w = s2) : okS s2 := by
  have h0 : s2 0 = a := by rw [← e2, ← e1]; rfl
  have h1 : s2 1 = w := by rw [← e2]; rfl
  unfold okS
  rw [h0, h1]
  exact h
theorem iq_upg2 {x v b : Int32} {n : Nat} (hm : (2147483647 - x.toInt).toNat < n + 1) (hc : ¬ b ≤ x) (hb : b.toInt ≤ 1000000) (hv : v = x + 2) : (2147483647 - v.toInt).toNat < n := by
  rw [iq_le] at hc
  have := iq_add2 hv (by omega)
  omega
theorem iq_upm2 {x v : Int32} {n : Nat} (hm : (2147483647 - x.toInt).toNat < n + 1) (h : x.toInt < 200) (hv : v = x + 2) : (2147483647 - v.toInt).toNat < n := by
  have := iq_add2 hv (by omega)
  omega
/-- a row moved on by ten, up to k -/
def shf (u : Nat → Int32) (k : Nat) : Nat → Int32 := fun j => if j < k then u (j + 10) else u j
theorem shf_step {u u1 u2 : Nat → Int32} {z v29 v30 v32 : Int32} (h0 : 0 ≤ z.toInt) (hc : ¬ 110 ≤ z) (hu : u1 = shf u z.toInt.toNat) (e29 : v29 = z + 10) (e30 : v30 = u1 v29.toNatClampNeg) (en : upd u1 z.toNatClampNeg v30 = u2) (e32 : v32 = z + 1) : u2 = shf u v32.toInt.toNat := by
  rw [iq_le] at hc
  have hc : ¬ (110 : Int) ≤ z.toInt := hc
  have h2 : v29.toInt = z.toInt + 10 := by rw [e29, iq_add (by show _ ≤ z.toInt + 10; omega) (by show z.toInt + 10 < _; omega)]; rfl
  have h3 := iq_add1 e32 (by omega)
  have h4 : v29.toNatClampNeg = z.toInt.toNat + 10 := iq_clamp (by omega)
  have h5 : z.toNatClampNeg = z.toInt.toNat := rfl
  have h6 : v32.toInt.toNat = z.toInt.toNat + 1 := by omega
  rw [← en, e30, h4, h5, h6, hu]
  generalize z.toInt.toNat = n
  funext j
  show (if j = n then (if n + 10 < n then u (n + 10 + 10) else u (n + 10)) else (if j < n then u (j + 10) else u j)) = (if j < n + 1 then u (j + 10) else u j)
  by_cases hj : j = n
  · rw [if_pos hj, if_neg (by omega), if_pos (by omega), hj]
  · rw [if_neg hj]
    by_cases h7 : j < n
    · rw [if_pos h7, if_pos (by omega)]
    · rw [if_neg h7, if_neg (by omega)]
theorem okR.shift {u u1 : Nat → Int32} {z um um1 : Int32} (h : okR um u) (h12 : um = 12) (h11 : um1 = 11) (hc : 110 ≤ z) (hz : z.toInt ≤ 110) (hu : u1 = shf u z.toInt.toNat) : okR um1 u1 := by
  intro i hi
  rw [h11] at hi
  have hi : (i : Int) < 11 := hi
  have hz2 : z.toInt.toNat = 110 := by rw [iq_le] at hc; have hc : (110 : Int) ≤ z.toInt := hc; omega
  have h1 := h (i + 1) (by rw [h12]; show ((i + 1 : Nat) : Int) < 12; omega)
  have e0 : u1 (10 * i + 0) = u (10 * (i + 1) + 0) := by
    rw [hu, hz2]
    simp only [shf]
    rw [if_pos (by omega), show 10 * i + 0 + 10 = 10 * (i + 1) + 0 by omega]
  have e1 : u1 (10 * i + 1) = u (10 * (i + 1) + 1) := by
    rw [hu, hz2]
    simp only [shf]
    rw [if_pos (by omega), show 10 * i + 1 + 10 = 10 * (i + 1) + 1 by omega]
  unfold okS at h1 ⊢
  simp only [e0, e1]
  exact h1
/-- a row copied to a place in another, up to k -/
def cpd (u s : Nat → Int32) (b k : Nat) : Nat → Int32 := fun j => if b ≤ j ∧ j < b + k then s (j - b) else u j
theorem cpd_step {u u1 u2 s : Nat → Int32} {z i v70 v72 : Int32} {b : Nat} (h0 : 0 ≤ z.toInt) (hc : ¬ 10 ≤ z) (hu : u1 = cpd u s b z.toInt.toNat) (hi : i.toInt = b + z.toInt) (e70 : v70 = s z.toNatClampNeg) (en : upd u1 i.toNatClampNeg v70 = u2) (e72 : v72 = z + 1) : u2 = cpd u s b v72.toInt.toNat := by
  rw [iq_le] at hc
  have hc : ¬ (10 : Int) ≤ z.toInt := hc
  have h3 := iq_add1 e72 (by omega)
  have h4 : i.toNatClampNeg = b + z.toInt.toNat := iq_clamp (by omega)
  have h5 : z.toNatClampNeg = z.toInt.toNat := rfl
  have h6 : v72.toInt.toNat = z.toInt.toNat + 1 := by omega
  rw [← en, e70, h4, h5, h6, hu]
  generalize z.toInt.toNat = n
  funext j
  show (if j = b + n then s n else (if b ≤ j ∧ j < b + n then s (j - b) else u j)) = (if b ≤ j ∧ j < b + (n + 1) then s (j - b) else u j)
  by_cases hj : j = b + n
  · rw [if_pos hj, if_pos (by omega), hj, Nat.add_sub_cancel_left]
  · rw [if_neg hj]
    by_cases h7 : b ≤ j ∧ j < b + n
    · rw [if_pos h7, if_pos (by omega)]
    · rw [if_neg h7, if_neg (by omega)]
theorem cpd_0 {u s : Nat → Int32} {b : Nat} : u = cpd u s b (0 : Int32).toInt.toNat := by
  funext j
  simp only [cpd]
  rw [if_neg (by show ¬ (b ≤ j ∧ j < b + 0); omega)]
theorem shf_0 {u : Nat → Int32} : u = shf u (0 : Int32).toInt.toNat := by
  funext j
  simp only [shf]
  rw [if_neg (by show ¬ j < 0; omega)]
theorem iq_ten {um z v62 v64 : Int32} (h0 : 0 ≤ um.toInt) (h1 : um.toInt ≤ 12) (z0 : 0 ≤ z.toInt) (hc : ¬ 10 ≤ z) (e62 : v62 = 10 * um) (e64 : v64 = v62 + z) : v64.toInt = ((10 * um.toInt.toNat : Nat) : Int) + z.toInt := by
  rw [iq_le] at hc
  have hc : ¬ (10 : Int) ≤ z.toInt := hc
  have h2 : v62.toInt = 10 * um.toInt := by
    rw [e62, Int32.toInt_mul]
    show ((10 : Int) * um.toInt).bmod (2 ^ 32) = _
    exact Int.bmod_eq_of_le (by omega) (by omega)
  rw [e64, iq_add (by omega) (by omega)]
  omega
theorem okR.note {u u1 s : Nat → Int32} {um um1 z : Int32} (h : okR um u) (hs : okS s) (h0 : 0 ≤ um.toInt) (h11 : um.toInt ≤ 11) (hc : 10 ≤ z) (hz : z.toInt ≤ 10) (hu : u1 = cpd u s (10 * um.toInt.toNat) z.toInt.toNat) (e : um1 = um + 1) : okR um1 u1 := by
  have h2 := iq_add1 e (by omega)
  have hz2 : z.toInt.toNat = 10 := by rw [iq_le] at hc; have hc : (10 : Int) ≤ z.toInt := hc; omega
  intro i hi
  by_cases hq : (i : Int) < um.toInt
  · have h1 := h i hq
    have e0 : u1 (10 * i + 0) = u (10 * i + 0) := by rw [hu, hz2]; simp only [cpd]; rw [if_neg (by omega)]
    have e1 : u1 (10 * i + 1) = u (10 * i + 1) := by rw [hu, hz2]; simp only [cpd]; rw [if_neg (by omega)]
    unfold okS at h1 ⊢
    simp only [e0, e1]
    exact h1
  · have hi2 : i = um.toInt.toNat := by omega
    have e0 : u1 (10 * i + 0) = s 0 := by rw [hu, hz2]; simp only [cpd]; rw [if_pos (by omega)]; congr 1; omega
    have e1 : u1 (10 * i + 1) = s 1 := by rw [hu, hz2]; simp only [cpd]; rw [if_pos (by omega)]; congr 1; omega
    unfold okS at hs ⊢
    simp only [e0, e1]
    exact hs
theorem okS.copy {s1 s u : Nat → Int32} {z : Int32} {b : Nat} (h : okS (fun j => u (b + j))) (hc : 10 ≤ z) (hz : z.toInt ≤ 10) (hu : s1 = cpd s (fun j => u (b + j)) 0 z.toInt.toNat) : okS s1 := by
  have hz2 : z.toInt.toNat = 10 := by rw [iq_le] at hc; have hc : (10 : Int) ≤ z.toInt := hc; omega
  have e0 : s1 0 = u (b + 0) := by rw [hu, hz2]; simp only [cpd]; rw [if_pos (by omega)]
  have e1 : s1 1 = u (b + 1) := by rw [hu, hz2]; simp only [cpd]; rw [if_pos (by omega)]
  unfold okS at h ⊢
  rw [e0, e1]
  exact h
theorem okK.keep {k k1 i i1 s : Nat → Int32} {im z : Int32} (h : okK k i) (hs : okS s) (h0 : 0 ≤ im.toInt) (h1 : im.toInt ≤ 1) (hc : 10 ≤ z) (hz : z.toInt ≤ 10) (hu : k1 = cpd k s (10 * im.toInt.toNat) z.toInt.toNat) (e : upd i im.toNatClampNeg (vp_nar .boolean 1) = i1) : okK k1 i1 := by
  have hz2 : z.toInt.toNat = 10 := by rw [iq_le] at hc; have hc : (10 : Int) ≤ z.toInt := hc; omega
  have h5 : im.toNatClampNeg = im.toInt.toNat := rfl
  intro j hj hi
  by_cases hq : j = im.toInt.toNat
  · have e0 : k1 (10 * j + 0) = s 0 := by rw [hu, hz2]; simp only [cpd]; rw [if_pos (by omega)]; congr 1; omega
    have e1 : k1 (10 * j + 1) = s 1 := by rw [hu, hz2]; simp only [cpd]; rw [if_pos (by omega)]; congr 1; omega
    unfold okS at hs ⊢
    simp only [e0, e1]
    exact hs
  · have hi3 : ¬ (if j = im.toInt.toNat then vp_nar .boolean 1 else i j) = 0 := by rw [← e, h5] at hi; exact hi
    have hi2 : ¬ i j = 0 := by rw [if_neg hq] at hi3; exact hi3
    have h2 := h j hj hi2
    have e0 : k1 (10 * j + 0) = k (10 * j + 0) := by rw [hu, hz2]; simp only [cpd]; rw [if_neg (by omega)]
    have e1 : k1 (10 * j + 1) = k (10 * j + 1) := by rw [hu, hz2]; simp only [cpd]; rw [if_neg (by omega)]
    unfold okS at h2 ⊢
    simp only [e0, e1]
    exact h2

/-! the reference: one object, nine rows; its cells one by one -/
abbrev mW (K : Cx) (a : Nat → Nat) (th um sm : Int32) (sA uA kA iA wA fA cA : Nat → Int32) (yA tA : Nat → Int64) : va_W := [(a 0, .inr (6, [.int th, .ref (a 1), .ref (a 2), .int um, .ref (a 3), .ref (a 4), .ref (a 5), .ref (a 6), .int sm, .ref (a 7), .ref (a 8), .ref (a 9)])), (a 1, .inl (K.2.1, 10, .inl sA)), (a 2, .inl (K.2.1, 120, .inl uA)), (a 3, .inl (K.2.1, 20, .inl kA)), (a 4, .inl (K.2.2.2.1, 2, .inl iA)), (a 5, .inl (K.2.1, 6, .inl wA)), (a 6, .inl (K.2.1, 6, .inl fA)), (a 7, .inl (K.2.2.1, 200, .inr (.inl yA))), (a 8, .inl (K.2.2.1, 200, .inr (.inl tA))), (a 9, .inl (K.2.2.2.1, 200, .inl cA))]
abbrev MZ : Type := Int32 × Int32 × Int32 × (Nat → Int32) × (Nat → Int32) × (Nat → Int32) × (Nat → Int32) × (Nat → Int32) × (Nat → Int32) × (Nat → Int32) × (Nat → Int64) × (Nat → Int64)
abbrev mZ (K : Cx) (a : Nat → Nat) (z : MZ) : va_W := mW K a z.1 z.2.1 z.2.2.1 z.2.2.2.1 z.2.2.2.2.1 z.2.2.2.2.2.1 z.2.2.2.2.2.2.1 z.2.2.2.2.2.2.2.1 z.2.2.2.2.2.2.2.2.1 z.2.2.2.2.2.2.2.2.2.1 z.2.2.2.2.2.2.2.2.2.2.1 z.2.2.2.2.2.2.2.2.2.2.2
def okS (s : Nat → Int32) : Prop := 3 ≤ (s 0).toInt ∧ (s 0).toInt ≤ 199 ∧ 4 ≤ (s 1).toInt ∧ (s 1).toInt ≤ 16
def okU (um : Int32) : Prop := 0 ≤ um.toInt ∧ um.toInt ≤ 12
def okM (sm : Int32) : Prop := 0 ≤ sm.toInt ∧ sm.toInt ≤ 6
def okR (um : Int32) (u : Nat → Int32) : Prop := ∀ i : Nat, (i : Int) < um.toInt → okS (fun j => u (10 * i + j))
def okK (k i : Nat → Int32) : Prop := ∀ j : Nat, j < 2 → ¬ i j = 0 → okS (fun n => k (10 * j + n))
/-- what was SEEN, in the reference's cells -/
def okZ (K : Cx) (sm : Int32) (w f : Nat → Int32) : Prop := sm = (snK K).1 ∧ w = (snK K).2.1 ∧ f = (snK K).2.2 ∧ okN (snK K)
def MI (K : Cx) (z : MZ) : Prop := okS z.2.2.2.1 ∧ okU z.2.1 ∧ okM z.2.2.1 ∧ okR z.2.1 z.2.2.2.2.1 ∧ okK z.2.2.2.2.2.1 z.2.2.2.2.2.2.1 ∧ okZ K z.2.2.1 z.2.2.2.2.2.2.2.1 z.2.2.2.2.2.2.2.2.1
abbrev Mi (l : Launch) (K : Cx) (y : MethodName) (ws : List Cond) (rm : Room) (av : List Value) (a : Nat → Nat) (z : MZ) (sz : Nat) (post : Int32 → MZ → Prop) : Prop :=
  Met l y ws rm (va_Pc av (fun U => U.heap.size = sz ∧ kW K (mZ K a z) U)) (va_Qi (fun (r : Int32) (u : MZ) => post r u ∧ MI K u) (fun u t => va_P K.1 vwCl (mZ K a u) t.heap ∧ va_D (va_A (mZ K a z) sz) (mZ K a u)) (va_A (mZ K a z) sz)) 0 0 (va_A (mZ K a z) sz)
abbrev Mv (l : Launch) (K : Cx) (y : MethodName) (ws : List Cond) (rm : Room) (av : List Value) (a : Nat → Nat) (z : MZ) (sz : Nat) (post : MZ → Prop) : Prop :=
  Met l y ws rm (va_Pc av (fun U => U.heap.size = sz ∧ kW K (mZ K a z) U)) (va_Qv (fun (u : MZ) => post u ∧ MI K u) (fun u t => va_P K.1 vwCl (mZ K a u) t.heap ∧ va_D (va_A (mZ K a z) sz) (mZ K a u)) (va_A (mZ K a z) sz)) 0 0 (va_A (mZ K a z) sz)
abbrev MiK (l : Launch) (K K2 : Cx) (y : MethodName) (ws : List Cond) (rm : Room) (av : List Value) (a : Nat → Nat) (z : MZ) (sz : Nat) (post : Int32 → MZ → Prop) : Prop :=
  Met l y ws rm (va_Pc av (fun U => U.heap.size = sz ∧ kW K (mZ K a z) U)) (va_Qi (fun (r : Int32) (u : MZ) => post r u ∧ MI K2 u) (fun u t => va_P K.1 vwCl (mZ K a u) t.heap ∧ va_D (va_A (mZ K a z) sz) (mZ K a u)) (va_A (mZ K a z) sz)) 0 0 (va_A (mZ K a z) sz)
abbrev MvK (l : Launch) (K K2 : Cx) (y : MethodName) (ws : List Cond) (rm : Room) (av : List Value) (a : Nat → Nat) (z : MZ) (sz : Nat) (post : MZ → Prop) : Prop :=
  Met l y ws rm (va_Pc av (fun U => U.heap.size = sz ∧ kW K (mZ K a z) U)) (va_Qv (fun (u : MZ) => post u ∧ MI K2 u) (fun u t => va_P K.1 vwCl (mZ K a u) t.heap ∧ va_D (va_A (mZ K a z) sz) (mZ K a u)) (va_A (mZ K a z) sz)) 0 0 (va_A (mZ K a z) sz)
section MCALL
variable {p : Program} {l : Launch} {e : Env} {R : Room} {s : State} {m : MethodId} {args : Array Value} {below : List Frame} {meth : Method} {c : Code} {H H0 : Heap} {locs : List Loc} {cells slots : Nat} {Q : State → Prop}
variable {pc : Nat} {ls : Array Slot} {rest st0 : List Value} {aa : Array Value} {A : Nat → Prop} {K : Cx} {a : Nat → Nat} {w : va_W}
theorem m_i {K2 : Cx} {post : Int32 → MZ → Prop} (hr : va_Run p l e R s m args below meth c H locs cells slots 0 0 (F0 m pc ls st0) rest (va_Qi (fun (r : Int32) (u : MZ) => post r u ∧ MI K2 u) (fun u t => va_P K.1 vwCl (mZ K a u) t.heap ∧ va_D (va_A w H.size) (mZ K a u)) (va_A w H.size) aa) (va_A w H.size)) (hD : va_D A w) (hS : va_S A H0 H locs) (hA : ∀ q, H0.size ≤ q → A q)
    (kk : ∀ (r : Int32) (u : MZ) (H1 : Heap) (locs1 : List Loc), post r u → MI K2 u → va_P K.1 vwCl (mZ K a u) H1 → va_D A (mZ K a u) → va_S A H0 H1 locs1 → W p l e R s m args below meth c H1 locs1 cells slots Q (F0 m (pc + 3) ls (.int r :: rest))) : W p l e R s m args below meth c H locs cells slots Q (F0 m pc ls st0) := by
  have hF := kFree hD hS hA
  refine va_calli hr hS (fun q _ h => hF q h) hF (fun r u t H1 locs1 ht hvm hp hB hz hk hS1 => ?_)
  exact kk r u H1 locs1 hp.1 hp.2 (by rw [← ht]; exact hB.1) (hB.2.weaken (fun _ q _ h => hF q.1 h)) hS1
theorem m_v {K2 : Cx} {post : MZ → Prop} (hr : va_Run p l e R s m args below meth c H locs cells slots 0 0 (F0 m pc ls st0) rest (va_Qv (fun (u : MZ) => post u ∧ MI K2 u) (fun u t => va_P K.1 vwCl (mZ K a u) t.heap ∧ va_D (va_A w H.size) (mZ K a u)) (va_A w H.size) aa) (va_A w H.size)) (hD : va_D A w) (hS : va_S A H0 H locs) (hA : ∀ q, H0.size ≤ q → A q)
    (kk : ∀ (u : MZ) (H1 : Heap) (locs1 : List Loc), post u → MI K2 u → va_P K.1 vwCl (mZ K a u) H1 → va_D A (mZ K a u) → va_S A H0 H1 locs1 → W p l e R s m args below meth c H1 locs1 cells slots Q (F0 m (pc + 3) ls rest)) : W p l e R s m args below meth c H locs cells slots Q (F0 m pc ls st0) := by
  have hF := kFree hD hS hA
  refine va_callv hr hS (fun q _ h => hF q h) hF (fun u t H1 locs1 ht hvm hp hB hz hk hS1 => ?_)
  exact kk u H1 locs1 hp.1 hp.2 (by rw [← ht]; exact hB.1) (hB.2.weaken (fun _ q _ h => hF q.1 h)) hS1
end MCALL
/-! its numbers -/
def mTop (s : Nat → Int32) : Int32 := (1 <<< (s 1 &&& 31)) - 1
def mFit (s : Nat → Int32) (w : Int32) : Prop := w - w / s 0 * s 0 = 0
def mIn (s : Nat → Int32) (w : Int32) : Prop := mFit s w ∧ -(mTop s / s 0) ≤ w / s 0 ∧ w / s 0 ≤ mTop s / s 0
def mRest (v : Int64) (m : Int32) : Int32 := if 0 ≤ (v - v / m.toInt64 * m.toInt64).toInt32 then (v - v / m.toInt64 * m.toInt64).toInt32 else (v - v / m.toInt64 * m.toInt64).toInt32 + m
def mRight (s : Nat → Int32) (w r : Int32) : Prop := mIn s w ∧ mRest (w / s 0).toInt64 15 = r
def mBy (k : Int32) : Int32 := if k - k / 2 * 2 = 0 then 1 <<< (k / 2 &&& 31) else -(1 <<< (k / 2 &&& 31))
def mCause (s : Nat → Int32) (r k : Int32) : Prop := mRight s (s (2 + r).toNatClampNeg - mBy k) (s (6 + r).toNatClampNeg)
theorem iq_clamp {x : Int32} {n : Nat} (h : x.toInt = n) : x.toNatClampNeg = n := by
  show x.toInt.toNat = n
  rw [h]
  exact Int.toNat_natCast n
theorem iq_reg {r v : Int32} {k : Int32} (hk0 : 0 ≤ k.toInt) (hk : k.toInt ≤ 100) (h0 : 0 ≤ r.toInt) (h1 : r.toInt ≤ 3) (hv : v = k + r) : v.toInt = k.toInt + r.toInt := by rw [hv, iq_add (by omega) (by omega)]
theorem okS.up {s : Nat → Int32} (h : okS s) {i : Nat} (hi : 2 ≤ i) (x : Int32) : okS (upd s i x) := by
  have h0 : upd s i x 0 = s 0 := by simp [upd]; omega
  have h1 : upd s i x 1 = s 1 := by simp [upd]; omega
  unfold okS
  rw [h0, h1]
  exact h
theorem okS.ne {s : Nat → Int32} (h : okS s) : ¬ s 0 = 0 := fun q => by
  have := h.1
  rw [q] at this
  exact absurd this (by decide)
/-! long numbers -/
theorem lq_rem (x y : Int64) : (x - x / y * y).toInt = x.toInt.tmod y.toInt := by
  rw [Int64.toInt_sub, Int64.toInt_mul, Int64.toInt_div, Int.bmod_mul_bmod, Int.sub_bmod_bmod]
  have h : x.toInt - x.toInt.tdiv y.toInt * y.toInt = x.toInt.tmod y.toInt := by rw [Int.tmod_def, Int.mul_comm]
  rw [h, ← Int64.toInt_mod]
  have h1 := Int64.le_toInt (x % y)
  have h2 := Int64.toInt_lt (x % y)
  exact Int.bmod_eq_of_le (by omega) (by omega)
theorem lq_small {x : Int64} (h1 : -2147483648 ≤ x.toInt) (h2 : x.toInt < 2147483648) : x.toInt32.toInt = x.toInt := by
  rw [Int64.toInt_toInt32]
  exact Int.bmod_eq_of_le (by omega) (by omega)
theorem mRest_in {v : Int64} {m : Int32} (h0 : 0 < m.toInt) : 0 ≤ (mRest v m).toInt ∧ (mRest v m).toInt < m.toInt := by
  have hm := iq_hi m
  have e1 : m.toInt64.toInt = m.toInt := Int32.toInt_toInt64 m
  have h := lq_rem v m.toInt64
  rw [e1] at h
  have b1 := Int.lt_tmod_of_pos v.toInt h0
  have b2 := Int.tmod_lt_of_pos v.toInt h0
  have e2 := lq_small (x := v - v / m.toInt64 * m.toInt64) (by omega) (by omega)
  unfold mRest
  by_cases hq : 0 ≤ (v - v / m.toInt64 * m.toInt64).toInt32
  · rw [if_pos hq]
    rw [iq_le] at hq
    have hq : (0 : Int) ≤ _ := hq
    omega
  · rw [if_neg hq]
    rw [iq_le] at hq
    have hq : ¬ (0 : Int) ≤ _ := hq
    rw [iq_add (by omega) (by omega)]
    omega
theorem gq_z {x : Int64} (h : lg_cmp x 0 = 0) : x = 0 := by
  unfold lg_cmp at h
  by_cases h1 : (0 : Int64) < x
  · simp [h1] at h
  · by_cases h2 : x = 0
    · exact h2
    · simp [h1, h2] at h
theorem gq_m {z6 z4 v : Int64} {w : Int32} {n : Nat} (hm : z6.toInt.natAbs < n + 1) (e9 : w = lg_cmp z6 0) (c : ¬ w = 0) (e : v = z4 - z4 / z6 * z6) : v.toInt.natAbs < n := by
  have hz : z6.toInt ≠ 0 := fun h => c (by
    have : z6 = 0 := Int64.toInt_inj.mp h
    rw [e9, this]; rfl)
  rw [e, lq_rem, Int.natAbs_tmod]
  have := Nat.mod_lt z4.toInt.natAbs (show 0 < z6.toInt.natAbs by omega)
  omega
theorem iq_inreg {r v k : Int32} (hk0 : 0 ≤ k.toInt) (hk : k.toInt ≤ 6) (h0 : 0 ≤ r.toInt) (h1 : r.toInt ≤ 3) (hv : v = k + r) : vp_in v 10 := by
  have := iq_reg hk0 (by omega) h0 h1 hv
  exact iq_in (by omega) (by omega)
theorem m_rcv {s : State} {H : Heap} {K : Cx} {a : Nat → Nat} {th um sm : Int32} {sA uA kA iA wA fA cA : Nat → Int32} {yA tA : Nat → Int64} (hK : va_K K.1 vwCl (tyL K) s) (hP : va_P K.1 vwCl (mW K a th um sm sA uA kA iA wA fA cA yA tA) H) : rcv s H RX6 (a 0) := va_recv hK hP (ci := 6) (q0 := 0) rfl rfl

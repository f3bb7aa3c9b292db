/-! strikes that leave a rest -/
def cBy (k : Int32) : Int32 := if k - k / 2 * 2 = 0 then 1 <<< (k / 2 &&& 31) else -(1 <<< (k / 2 &&& 31))
def fB (a : Int32) (n : Nat) : Int := (cBy (nI n)).toInt % a.toInt
theorem nI_self {z : Int32} (h : 0 ≤ z.toInt) : nI z.toInt.toNat = z := iq_eq.mpr (by
  have := iq_hi z
  rw [nI_toInt (by omega)]
  omega)
def cnN (f : Nat → Int) (x : Int) : Nat → Nat
  | 0 => 0
  | n + 1 => cnN f x n + if f n = x then 1 else 0
theorem cnN_le {f : Nat → Int} {x : Int} (n : Nat) : cnN f x n ≤ n := by
  induction n with
  | zero => exact Nat.le_refl _
  | succ n ih =>
    show cnN f x n + (if f n = x then 1 else 0) ≤ n + 1
    split <;> omega
theorem cnN_pos {f : Nat → Int} {x : Int} {i : Nat} : ∀ n : Nat, i < n → f i = x → 1 ≤ cnN f x n := by
  intro n
  induction n with
  | zero => intro h; omega
  | succ n ih =>
    intro h hx
    show 1 ≤ cnN f x n + (if f n = x then 1 else 0)
    rcases Nat.lt_or_ge i n with q | q
    · have := ih q hx
      omega
    · rw [show n = i by omega, if_pos hx]
      omega
theorem cnN_ex {f : Nat → Int} {x : Int} : ∀ n : Nat, 1 ≤ cnN f x n → ∃ i : Nat, i < n ∧ f i = x := by
  intro n
  induction n with
  | zero => intro h; exact absurd h (by show ¬ 1 ≤ 0; omega)
  | succ n ih =>
    intro h
    by_cases hx : f n = x
    · exact ⟨n, by omega, hx⟩
    · have h : 1 ≤ cnN f x n + (if f n = x then 1 else 0) := h
      rw [if_neg hx] at h
      obtain ⟨i, h1, h2⟩ := ih (by omega)
      exact ⟨i, by omega, h2⟩
theorem cnN_one {f : Nat → Int} {x : Int} : ∀ n : Nat, (∀ i : Nat, i < n → ∀ k : Nat, k < i → f i ≠ f k) → cnN f x n ≤ 1 := by
  intro n
  induction n with
  | zero => intro _; exact Nat.zero_le _
  | succ n ih =>
    intro h
    have h1 := ih (fun i hi => h i (by omega))
    show cnN f x n + (if f n = x then 1 else 0) ≤ 1
    by_cases hx : f n = x
    · rw [if_pos hx]
      rcases Nat.eq_zero_or_pos (cnN f x n) with q | q
      · omega
      · obtain ⟨k, h2, h3⟩ := cnN_ex n q
        exact absurd (hx.trans h3.symm) (h n (by omega) k h2)
    · rw [if_neg hx]
      omega
theorem cnN_two {f : Nat → Int} {x : Int} {i k : Nat} (hk : k < i) (h1 : f k = x) (h2 : f i = x) : ∀ n : Nat, i < n → 2 ≤ cnN f x n := by
  intro n
  induction n with
  | zero => intro h; omega
  | succ n ih =>
    intro h
    show 2 ≤ cnN f x n + (if f n = x then 1 else 0)
    rcases Nat.lt_or_ge i n with q | q
    · have := ih q
      omega
    · have h3 := cnN_pos n (show k < n by omega) h1
      rw [show n = i by omega] at h3 ⊢
      rw [if_pos h2]
      omega
def slI (p0 p1 p2 z3 z4 : Int32) : Prop := 1 ≤ p1.toInt → 0 ≤ p2.toInt → p2.toInt ≤ 16 → 0 ≤ z4.toInt ∧ z4.toInt ≤ 2 * p2.toInt ∧ z3.toInt = (cnN (fB p1) p0.toInt z4.toInt.toNat : Int)
theorem slI_0 {p0 p1 p2 : Int32} : slI p0 p1 p2 0 0 := fun _ h _ => ⟨by decide, by show (0 : Int) ≤ _; omega, rfl⟩
theorem fB_of {a z b r : Int32} (hz : 0 ≤ z.toInt) (ha : 1 ≤ a.toInt) (hb : b = cBy z) (hr : 1 ≤ a.toInt → r.toInt = b.toInt % a.toInt) : r.toInt = fB a z.toInt.toNat := by
  unfold fB
  rw [hr ha, hb, nI_self hz]
theorem slI_step {p0 p1 p2 z3 z4 v9 r15 r19 y v29 : Int32} (h : slI p0 p1 p2 z3 z4) (e9 : v9 = 2 * p2) (c10 : ¬ v9 ≤ z4) (h15 : r15 = cBy z4) (h19 : 1 ≤ p1.toInt → r19.toInt = r15.toInt % p1.toInt) (hq : (r19 = p0 ∧ y = z3 + 1) ∨ (¬ r19 = p0 ∧ y = z3)) (e29 : v29 = z4 + 1) : slI p0 p1 p2 y v29 := fun h1 h2 h3 => by
  obtain ⟨a, b, d⟩ := h h1 h2 h3
  have h5 := iq_mul2 h2 (by omega) e9
  rw [iq_le] at c10
  have h6 := iq_add1 e29 (by omega)
  have h7 := fB_of a h1 h15 h19
  have h8 := cnN_le (f := fB p1) (x := p0.toInt) z4.toInt.toNat
  refine ⟨by omega, by omega, ?_⟩
  rw [show v29.toInt.toNat = z4.toInt.toNat + 1 by omega]
  show y.toInt = ((cnN (fB p1) p0.toInt z4.toInt.toNat + (if fB p1 z4.toInt.toNat = p0.toInt then 1 else 0) : Nat) : Int)
  rcases hq with ⟨q, e⟩ | ⟨q, e⟩
  · rw [if_pos (by rw [← h7, q]), iq_add1 e (by omega), d]
    omega
  · rw [if_neg (fun x => q (iq_eq.mpr (h7.trans x))), e, d]
    omega
theorem slI_end {p0 p1 p2 z3 z4 v9 : Int32} (h : slI p0 p1 p2 z3 z4) (e9 : v9 = 2 * p2) (c10 : v9 ≤ z4) : 1 ≤ p1.toInt → 0 ≤ p2.toInt → p2.toInt ≤ 16 → z3.toInt = (cnN (fB p1) p0.toInt (2 * p2.toInt.toNat) : Int) := fun h1 h2 h3 => by
  obtain ⟨a, b, d⟩ := h h1 h2 h3
  have h5 := iq_mul2 h2 (by omega) e9
  rw [iq_le] at c10
  rw [d, show z4.toInt.toNat = 2 * p2.toInt.toNat by omega]
def plP (a : Int32) (n : Nat) : Prop := ∀ i : Nat, i < n → fB a i ≠ 0 ∧ ∀ k : Nat, k < i → fB a i ≠ fB a k
def b01 (z : Int32) (P : Prop) : Prop := (z = 1 ∧ P) ∨ (z = 0 ∧ ¬ P)
def pA (a w r : Int32) : Prop := (¬ (isC a ∧ isWd w) ∧ r = -1000001) ∨ (isC a ∧ isWd w ∧ b01 r (plP a (2 * w.toInt.toNat)))
theorem b01_eq {P : Prop} {r r2 : Int32} (h : b01 r P) (h2 : b01 r2 P) : r = r2 := by
  rcases h with ⟨h, q⟩ | ⟨h, q⟩ <;> rcases h2 with ⟨g, q'⟩ | ⟨g, q'⟩
  · rw [h, g]
  · exact absurd q q'
  · exact absurd q' q
  · rw [h, g]
theorem pA_eq {p w r r2 : Int32} (h : pA p w r) (h2 : pA p w r2) : r = r2 := by
  rcases h with ⟨h, q⟩ | ⟨h, h', hd⟩ <;> rcases h2 with ⟨g, q'⟩ | ⟨g, g', gd⟩
  · rw [q, q']
  · exact absurd ⟨g, g'⟩ h
  · exact absurd ⟨h, h'⟩ g
  · exact b01_eq hd gd
def cpI (a w : Int32) (n : Nat) : Prop := ∀ i : Nat, i < n → fB a i ≠ 0 ∧ cnN (fB a) (fB a i) (2 * w.toInt.toNat) = 1
theorem cpI_next {a w z v : Int32} {r31 r45 : Int32} (h : cpI a w z.toInt.toNat) (hz : 0 ≤ z.toInt) (h31 : r31.toInt = fB a z.toInt.toNat) (c38 : ¬ r31 = 0) (h45 : r45.toInt = (cnN (fB a) r31.toInt (2 * w.toInt.toNat) : Int)) (c49 : r45 = 1) (hv : v.toInt = z.toInt + 1) : cpI a w v.toInt.toNat := fun i hi => by
  rcases Nat.lt_or_ge i z.toInt.toNat with q | q
  · exact h i q
  · rw [show i = z.toInt.toNat by omega]
    refine ⟨fun x => c38 (iq_eq.mpr (h31.trans x)), ?_⟩
    rw [c49, h31] at h45
    have h45 : (1 : Int) = _ := h45
    omega
theorem cp_no0 {a w z r31 : Int32} (hlt : z.toInt.toNat < 2 * w.toInt.toNat) (h31 : r31.toInt = fB a z.toInt.toNat) (c38 : r31 = 0) : b01 0 (plP a (2 * w.toInt.toNat)) := Or.inr ⟨rfl, fun h => (h _ hlt).1 (by rw [← h31, c38]; rfl)⟩
theorem cp_no1 {a w z r31 r45 : Int32} (hlt : z.toInt.toNat < 2 * w.toInt.toNat) (h31 : r31.toInt = fB a z.toInt.toNat) (h45 : r45.toInt = (cnN (fB a) r31.toInt (2 * w.toInt.toNat) : Int)) (c49 : ¬ r45 = 1) : b01 0 (plP a (2 * w.toInt.toNat)) := Or.inr ⟨rfl, fun h => by
  have h1 := cnN_one (f := fB a) (x := r31.toInt) (2 * w.toInt.toNat) (fun i hi => (h i hi).2)
  have h2 := cnN_pos (f := fB a) (x := r31.toInt) (2 * w.toInt.toNat) hlt h31.symm
  refine c49 (iq_eq.mpr ?_)
  rw [h45, show cnN (fB a) r31.toInt (2 * w.toInt.toNat) = 1 by omega]
  rfl⟩
theorem cp_yes {a w z : Int32} (h : cpI a w z.toInt.toNat) (hz : 2 * w.toInt ≤ z.toInt) (hw : 0 ≤ w.toInt) : b01 1 (plP a (2 * w.toInt.toNat)) := Or.inl ⟨rfl, fun i hi => ⟨(h i (by omega)).1, fun k hk q => by
  have h1 := (h i (by omega)).2
  have h2 := cnN_two (f := fB a) (x := fB a i) hk q.symm rfl (2 * w.toInt.toNat) hi
  omega⟩⟩
/-! the reference's way -/
def plQ (a : Int32) (n k : Nat) : Prop := plP a n ∧ fB a n ≠ 0 ∧ ∀ j : Nat, j < k → fB a n ≠ fB a j
theorem plP_0 {a : Int32} : b01 1 (plP a (0 : Int32).toInt.toNat) := Or.inl ⟨rfl, fun i hi => absurd hi (by show ¬ i < 0; omega)⟩
theorem plQ_a {a z : Int32} {n : Nat} (h : b01 z (plP a n)) (c : z = 0) : b01 0 (plQ a n (0 : Int32).toInt.toNat) := Or.inr ⟨rfl, fun q => by
  rcases h with ⟨h, -⟩ | ⟨-, h⟩
  · rw [c] at h
    exact absurd h (by decide)
  · exact h q.1⟩
theorem plQ_b {a r : Int32} {n : Nat} (hr : r.toInt = fB a n) (c : r = 0) : b01 0 (plQ a n (0 : Int32).toInt.toNat) := Or.inr ⟨rfl, fun q => q.2.1 (by rw [← hr, c]; rfl)⟩
theorem plQ_c {a z r : Int32} {n : Nat} (h : b01 z (plP a n)) (c : ¬ z = 0) (hr : r.toInt = fB a n) (c2 : ¬ r = 0) : b01 1 (plQ a n (0 : Int32).toInt.toNat) := Or.inl ⟨rfl, (h.resolve_right (fun q => c q.1)).2, fun q => c2 (iq_eq.mpr (hr.trans q)), fun j hj => absurd hj (by show ¬ j < 0; omega)⟩
theorem plQ_d {a z : Int32} {n k m : Nat} (h : b01 z (plQ a n k)) (c : z = 0) (hm : m = k + 1) : b01 0 (plQ a n m) := Or.inr ⟨rfl, fun q => by
  subst hm
  rcases h with ⟨h, -⟩ | ⟨-, h⟩
  · rw [c] at h
    exact absurd h (by decide)
  · exact h ⟨q.1, q.2.1, fun j hj => q.2.2 j (by omega)⟩⟩
theorem plQ_e {a r r2 : Int32} {n k m : Nat} (hr : r.toInt = fB a n) (hr2 : r2.toInt = fB a k) (c : r = r2) (hm : m = k + 1) : b01 0 (plQ a n m) := Or.inr ⟨rfl, fun q => q.2.2 k (by omega) (by rw [← hr, ← hr2, c])⟩
theorem plQ_f {a z r r2 : Int32} {n k m : Nat} (h : b01 z (plQ a n k)) (c : ¬ z = 0) (hr : r.toInt = fB a n) (hr2 : r2.toInt = fB a k) (c2 : ¬ r = r2) (hm : m = k + 1) : b01 1 (plQ a n m) := by
  have h := (h.resolve_right (fun q => c q.1)).2
  refine Or.inl ⟨rfl, h.1, h.2.1, fun j hj => ?_⟩
  rcases Nat.lt_or_ge j k with q | q
  · exact h.2.2 j q
  · rw [show j = k by omega, ← hr, ← hr2]
    exact fun x => c2 (iq_eq.mpr x)
theorem plQ_end {a z : Int32} {n m : Nat} (h : b01 z (plQ a n n)) (hm : m = n + 1) : b01 z (plP a m) := by
  subst hm
  refine h.imp (fun h => ⟨h.1, fun i hi => ?_⟩) (fun h => ⟨h.1, fun q => h.2 ⟨fun i hi => q i (by omega), q n (by omega)⟩⟩)
  rcases Nat.lt_or_ge i n with q | q
  · exact h.2.1 i q
  · rw [show i = n by omega]
    exact h.2.2
theorem cpI_0 {a w : Int32} : cpI a w (0 : Int32).toInt.toNat := fun i hi => absurd hi (by show ¬ i < 0; omega)
theorem pl_fin1 {a w z z4 : Int32} (h : b01 z (plP a z4.toInt.toNat)) (c : ¬ z = 0) (h1 : z4.toInt ≤ 2 * w.toInt) (h2 : 2 * w.toInt ≤ z4.toInt) : b01 1 (plP a (2 * w.toInt.toNat)) := by
  rw [show z4.toInt.toNat = 2 * w.toInt.toNat by omega] at h
  exact Or.inl ⟨rfl, (h.resolve_right (fun q => c q.1)).2⟩
theorem pl_fin0 {a w z z4 : Int32} (h : b01 z (plP a z4.toInt.toNat)) (c : z = 0) (h1 : z4.toInt ≤ 2 * w.toInt) (h2 : 2 * w.toInt ≤ z4.toInt) : b01 0 (plP a (2 * w.toInt.toNat)) := by
  rw [show z4.toInt.toNat = 2 * w.toInt.toNat by omega] at h
  refine Or.inr ⟨rfl, (h.resolve_left (fun q => ?_)).2⟩
  rw [c] at q
  exact absurd q.1 (by decide)

/-! which constants are left -/
def bitB (n : SN) (a j : Nat) : Bool := decide ((n.2.1 j).toInt % (a : Int) = 0) == decide (n.2.2 j = 1)
def opB (n : SN) (a : Nat) : Nat → Bool
  | 0 => true
  | j + 1 => opB n a j && bitB n a j
def opn (n : SN) (a : Nat) : Bool := opB n a n.1.toInt.toNat
def opL (n : SN) : Nat → List Nat
  | 0 => []
  | i + 1 => opL n i ++ (if opn n (2 * i + 3) = true then [2 * i + 3] else [])
theorem opB_down {n : SN} {a i : Nat} (hf : opB n a i = false) : ∀ d : Nat, opB n a (i + d) = false
  | 0 => hf
  | d + 1 => by
    show (opB n a (i + d) && bitB n a (i + d)) = false
    rw [opB_down hf d]
    rfl
theorem opL_len {n : SN} : ∀ i : Nat, (opL n i).length ≤ i
  | 0 => Nat.le_refl 0
  | i + 1 => by
    have h := opL_len (n := n) i
    show (opL n i ++ _).length ≤ i + 1
    rw [List.length_append]
    by_cases hq : opn n (2 * i + 3) = true
    · rw [if_pos hq]
      show _ + 1 ≤ _
      omega
    · rw [if_neg hq]
      show _ + 0 ≤ _
      omega
theorem opL_pos {n : SN} : ∀ (i a : Nat), a ∈ opL n i → 3 ≤ a ∧ a < 2 * i + 3
  | 0, a, h => absurd h List.not_mem_nil
  | i + 1, a, h => by
    have h : a ∈ opL n i ++ (if opn n (2 * i + 3) = true then [2 * i + 3] else []) := h
    rcases List.mem_append.mp h with h | h
    · have := opL_pos i a h
      omega
    · by_cases hq : opn n (2 * i + 3) = true
      · rw [if_pos hq] at h
        have := List.mem_singleton.mp h
        omega
      · rw [if_neg hq] at h
        exact absurd h List.not_mem_nil
theorem opL_yes {n : SN} {i : Nat} (h : opn n (2 * i + 3) = true) : opL n (i + 1) = opL n i ++ [2 * i + 3] := by
  show opL n i ++ _ = _
  rw [if_pos h]
theorem opL_no {n : SN} {i : Nat} (h : opn n (2 * i + 3) = false) : opL n (i + 1) = opL n i := by
  show opL n i ++ _ = _
  rw [if_neg (by rw [h]; decide), List.append_nil]
theorem opL_nil {n : SN} : ∀ i : Nat, (∀ j : Nat, j < i → opn n (2 * j + 3) = false) → opL n i = []
  | 0, _ => rfl
  | i + 1, h => by rw [opL_no (h i (Nat.lt_succ_self i)), opL_nil i (fun j hj => h j (Nat.lt_succ_of_lt hj))]
theorem opL_head {n : SN} {i : Nat} (h : ∀ j : Nat, j < i → opn n (2 * j + 3) = false) (hy : opn n (2 * i + 3) = true) : ∀ d : Nat, (opL n (i + 1 + d)).head? = some (2 * i + 3)
  | 0 => by
    show (opL n (i + 1)).head? = _
    rw [opL_yes hy, opL_nil i h]
    rfl
  | d + 1 => by
    show (opL n (i + 1 + d) ++ _).head? = _
    rw [List.head?_append, opL_head h hy d]
    rfl
theorem cl_toNat (z : Int32) : z.toNatClampNeg = z.toInt.toNat := rfl
/-- one thing SEEN, as class and reference look at it -/
theorem bit_w {n : SN} {a z : Int32} (ha : 1 ≤ a.toInt) : ((n.2.1 z.toNatClampNeg).toInt % a.toInt = 0) ↔ ((n.2.1 z.toInt.toNat).toInt % (a.toInt.toNat : Int) = 0) := by
  rw [cl_toNat, show ((a.toInt.toNat : Nat) : Int) = a.toInt by omega]
theorem bit_c {n : SN} {a z v21 r v41 x : Int32} (hok : okN n) (ha : 1 ≤ a.toInt) (h0 : 0 ≤ z.toInt) (hlt : z.toInt < n.1.toInt) (e21 : v21 = n.2.1 z.toNatClampNeg) (hr : r.toInt = v21.toInt % a.toInt) (hx : (r = 0 ∧ x = 1) ∨ (¬ r = 0 ∧ x = 0)) (e41 : v41 = n.2.2 z.toNatClampNeg) : bitB n a.toInt.toNat z.toInt.toNat = true ↔ x = v41 := by
  have hf := (hok.2 z.toInt.toNat (by omega)).2
  rw [cl_toNat] at e41
  rw [← e41] at hf
  rw [e21] at hr
  have hw := bit_w (n := n) (z := z) ha
  unfold bitB
  rw [← e41]
  rcases hx with ⟨h1, rfl⟩ | ⟨h1, rfl⟩
  · have h2 : (n.2.1 z.toInt.toNat).toInt % (a.toInt.toNat : Int) = 0 := hw.mp (by rw [← hr, h1]; rfl)
    rw [decide_eq_true h2]
    rcases hf with h | h <;> rw [h] <;> decide
  · have h2 : ¬ (n.2.1 z.toInt.toNat).toInt % (a.toInt.toNat : Int) = 0 := fun q => h1 (iq_eq.mpr (hr.trans (hw.mpr q)))
    rw [decide_eq_false h2]
    rcases hf with h | h <;> rw [h] <;> decide
def opI (n : SN) (a z : Int32) : Prop := (0 ≤ z.toInt ∧ z.toInt ≤ n.1.toInt) ∧ opB n a.toInt.toNat z.toInt.toNat = true
theorem opI_0 {n : SN} {a : Int32} (h : okN n) : opI n a 0 := ⟨⟨by decide, h.1.1⟩, rfl⟩
theorem opI_next {n : SN} {a z v21 r v41 x v47 : Int32} (h : opI n a z) (hok : okN n) (ha : 1 ≤ a.toInt) (hlt : z.toInt < n.1.toInt) (e21 : v21 = n.2.1 z.toNatClampNeg) (hr : r.toInt = v21.toInt % a.toInt) (hx : (r = 0 ∧ x = 1) ∨ (¬ r = 0 ∧ x = 0)) (e41 : v41 = n.2.2 z.toNatClampNeg) (c : x = v41) (e47 : v47 = z + 1) : opI n a v47 := by
  have h0 := h.1.1
  have h6 := hok.1.2
  have e := iq_add1 e47 (by omega)
  refine ⟨⟨by omega, by omega⟩, ?_⟩
  rw [show v47.toInt.toNat = z.toInt.toNat + 1 by omega]
  show (opB n a.toInt.toNat z.toInt.toNat && bitB n a.toInt.toNat z.toInt.toNat) = true
  rw [h.2, (bit_c hok ha h0 hlt e21 hr hx e41).mpr c]
  rfl
theorem opI_no {n : SN} {a z v21 r v41 x : Int32} (h : opI n a z) (hok : okN n) (ha : 1 ≤ a.toInt) (hlt : z.toInt < n.1.toInt) (e21 : v21 = n.2.1 z.toNatClampNeg) (hr : r.toInt = v21.toInt % a.toInt) (hx : (r = 0 ∧ x = 1) ∨ (¬ r = 0 ∧ x = 0)) (e41 : v41 = n.2.2 z.toNatClampNeg) (c : ¬ x = v41) : opn n a.toInt.toNat = false := by
  have h0 := h.1.1
  have h1 : bitB n a.toInt.toNat z.toInt.toNat = false := Bool.eq_false_iff.mpr (fun q => c ((bit_c hok ha h0 hlt e21 hr hx e41).mp q))
  have h2 : opB n a.toInt.toNat (z.toInt.toNat + 1) = false := by
    show (opB n a.toInt.toNat z.toInt.toNat && bitB n a.toInt.toNat z.toInt.toNat) = false
    rw [h1]
    exact Bool.and_false _
  have h3 := opB_down h2 (n.1.toInt.toNat - (z.toInt.toNat + 1))
  rw [show z.toInt.toNat + 1 + (n.1.toInt.toNat - (z.toInt.toNat + 1)) = n.1.toInt.toNat by omega] at h3
  exact h3
theorem opI_yes {n : SN} {a z : Int32} (h : opI n a z) (hge : n.1.toInt ≤ z.toInt) : opn n a.toInt.toNat = true := by
  have h1 := h.1.2
  have h2 := h.2
  rw [show z.toInt.toNat = n.1.toInt.toNat by omega] at h2
  exact h2
/-! the row of those that are left -/
def opC (K : Cx) (w : va_W) (h : Nat) (f : Nat → Int32) : Prop := ∃ (k j q r t : Nat) (x : Int32), w[k]? = some (h, .inr (4, [.ref q, .ref r, .ref t, .int x])) ∧ w[j]? = some (t, .inl (K.2.1, 99, .inl f))
theorem TH.opC {K : Cx} {G : Nat → Nat} {w : va_W} {a : Nat} (h : TH K G w) (ha : G a = 5) : ∃ f : Nat → Int32, opC K w a f := by
  obtain ⟨k, q, r, t, x, hk, -, -, ht⟩ := h.k5 ha
  obtain ⟨j, f, hj⟩ := h.ia ht (n := 99) rfl
  exact ⟨f, k, j, q, r, t, x, hk, hj⟩
theorem opC.cell {K : Cx} {A : Nat → Prop} {w : va_W} {h : Nat} {f : Nat → Int32} (ho : opC K w h f) (hD : va_D A w) {k q r t : Nat} {x : Int32} (hk : w[k]? = some (h, .inr (4, [.ref q, .ref r, .ref t, .int x]))) : ∃ j : Nat, w[j]? = some (t, .inl (K.2.1, 99, .inl f)) := by
  obtain ⟨k2, j, q2, r2, t2, x2, h1, h2⟩ := ho
  have h3 := w_uniq hD hk h1
  cases h3
  exact ⟨j, h2⟩
def rowF (f : Nat → Int32) (L : List Nat) : Prop := ∀ (j a : Nat), L[j]? = some a → (f j).toInt = (a : Int)
theorem rowF_nil {f : Nat → Int32} : rowF f [] := fun j a h => by simp at h
theorem rowF_push {f : Nat → Int32} {L : List Nat} {x : Int32} {i a : Nat} (h : rowF f L) (hi : i = L.length) (hx : x.toInt = (a : Int)) : rowF (upd f i x) (L ++ [a]) := by
  subst hi
  intro j b hj
  by_cases hq : j < L.length
  · rw [List.getElem?_append_left hq] at hj
    rw [upd_off _ _ (Nat.ne_of_lt hq)]
    exact h j b hj
  · rw [List.getElem?_append_right (Nat.not_lt.mp hq)] at hj
    have h1 : j - L.length = 0 := by
      have h2 := (List.getElem?_eq_some_iff.mp hj).1
      have h3 : j - L.length < 1 := h2
      omega
    rw [h1] at hj
    have hj : some a = some b := hj
    cases hj
    rw [show j = L.length by omega, upd_at]
    exact hx
def gaI (K : Cx) (w : va_W) (h : Nat) (z1 z2 : Int32) : Prop := ∃ i : Nat, i ≤ 99 ∧ z2.toInt = 2 * (i : Int) + 3 ∧ z1.toInt = ((opL (snK K) i).length : Int) ∧ ∃ f : Nat → Int32, opC K w h f ∧ rowF f (opL (snK K) i)
theorem gaI_0 {K : Cx} {G : Nat → Nat} {w : va_W} {a : Nat} (h : TH K G w) (ha : G a = 5) : gaI K w a 0 3 := by
  obtain ⟨f, hf⟩ := h.opC ha
  exact ⟨0, by decide, by decide, rfl, f, hf, rowF_nil⟩
theorem ga_lt {z : Int32} {i : Nat} (hz : z.toInt = 2 * (i : Int) + 3) (c : ¬ 199 < z) : i < 99 := by
  rw [iq_lt] at c
  have c : ¬ (199 : Int) < z.toInt := c
  omega
theorem ga_toNat {z : Int32} {i : Nat} (hz : z.toInt = 2 * (i : Int) + 3) : z.toInt.toNat = 2 * i + 3 := by omega
theorem gaI_skip {K : Cx} {w : va_W} {h : Nat} {z1 z2 r v : Int32} (hi : gaI K w h z1 z2) (c : ¬ 199 < z2) (hp : (r = 1 ∧ opn (snK K) z2.toInt.toNat = true) ∨ (r = 0 ∧ opn (snK K) z2.toInt.toNat = false)) (hr : r = 0) (e : v = z2 + 2) : gaI K w h z1 v := by
  obtain ⟨i, h1, h2, h3, f, h4, h5⟩ := hi
  have hl := ga_lt h2 c
  have ev := iq_add2 e (by omega)
  have hn : opn (snK K) z2.toInt.toNat = false := (hp.resolve_left (fun q => by rw [hr] at q; exact absurd q.1 (by decide))).2
  rw [ga_toNat h2] at hn
  refine ⟨i + 1, hl, by omega, ?_, f, h4, ?_⟩
  · rw [opL_no hn]; exact h3
  · rw [opL_no hn]; exact h5
theorem gaI_full {K : Cx} {w : va_W} {h : Nat} {z1 z2 : Int32} (hi : gaI K w h z1 z2) (c : ¬ 199 < z2) (c2 : 99 ≤ z1) : False := by
  obtain ⟨i, h1, h2, h3, -⟩ := hi
  have hl := ga_lt h2 c
  have h4 := opL_len (n := snK K) i
  rw [iq_le] at c2
  have c2 : (99 : Int) ≤ z1.toInt := c2
  omega
theorem gaI_push {K : Cx} {w : va_W} {h : Nat} {z1 z2 rr v35 v38 x : Int32} {i k q r t j : Nat} {f : Nat → Int32} (h2 : z2.toInt = 2 * (i : Int) + 3) (h3 : z1.toInt = ((opL (snK K) i).length : Int)) (h5 : rowF f (opL (snK K) i)) (c : ¬ 199 < z2) (hp : (rr = 1 ∧ opn (snK K) z2.toInt.toNat = true) ∨ (rr = 0 ∧ opn (snK K) z2.toInt.toNat = false)) (hr : ¬ rr = 0) (hk : w[k]? = some (h, .inr (4, [.ref q, .ref r, .ref t, .int x]))) (hj : w[j]? = some (t, .inl (K.2.1, 99, .inl (upd f z1.toNatClampNeg z2)))) (e35 : v35 = z1 + 1) (e38 : v38 = z2 + 2) : gaI K w h v35 v38 := by
  have hl := ga_lt h2 c
  have h4 := opL_len (n := snK K) i
  have ev := iq_add2 e38 (by omega)
  have ew := iq_add1 e35 (by omega)
  have hn : opn (snK K) z2.toInt.toNat = true := (hp.resolve_right (fun q => hr q.1)).2
  rw [ga_toNat h2] at hn
  refine ⟨i + 1, hl, by omega, ?_, upd f z1.toNatClampNeg z2, ⟨k, j, q, r, t, x, hk, hj⟩, ?_⟩
  · rw [opL_yes hn, List.length_append]
    show _ = (((opL (snK K) i).length + 1 : Nat) : Int)
    omega
  · rw [opL_yes hn]
    exact rowF_push h5 (by rw [cl_toNat]; omega) (by omega)
def goA (K : Cx) (w : va_W) (h : Nat) (r : Int32) : Prop := r.toInt = ((opL (snK K) 99).length : Int) ∧ ∃ f : Nat → Int32, opC K w h f ∧ rowF f (opL (snK K) 99)
theorem gaI_end {K : Cx} {w : va_W} {h : Nat} {z1 z2 : Int32} (hi : gaI K w h z1 z2) (c : 199 < z2) : goA K w h z1 := by
  obtain ⟨i, h1, h2, h3, h4⟩ := hi
  rw [iq_lt] at c
  have c : (199 : Int) < z2.toInt := c
  have hq : i = 99 := by omega
  subst hq
  exact ⟨h3, h4⟩
def loA (n : SN) (r : Int32) : Prop := ((opL n 99).head? = none ∧ r = -1000000) ∨ ∃ a : Nat, (opL n 99).head? = some a ∧ r.toInt = (a : Int)
theorem loA_none {K : Cx} {w : va_W} {h : Nat} {r : Int32} (hg : goA K w h r) (c : r = 0) : loA (snK K) (-1000000) := by
  refine Or.inl ⟨?_, rfl⟩
  have h1 := hg.1
  rw [c] at h1
  have h1 : (0 : Int) = ((opL (snK K) 99).length : Int) := h1
  rw [show opL (snK K) 99 = [] from List.eq_nil_of_length_eq_zero (by omega)]
  rfl
theorem loA_some {n : SN} {r v : Int32} {f : Nat → Int32} (h1 : r.toInt = ((opL n 99).length : Int)) (hr : rowF f (opL n 99)) (c : ¬ r = 0) (e : v = f (0 : Int32).toNatClampNeg) : loA n v := by
  have h2 : (opL n 99).length ≠ 0 := fun q => c (iq_eq.mpr (by rw [h1, q]; rfl))
  cases hL : opL n 99 with
  | nil => rw [hL] at h2; exact absurd rfl h2
  | cons a L =>
    refine Or.inr ⟨a, by rw [hL]; rfl, ?_⟩
    rw [e]
    exact hr 0 a (by rw [hL]; rfl)
theorem loA_eq {n : SN} {r r2 : Int32} (h : loA n r) (h2 : loA n r2) : r = r2 := by
  rcases h with ⟨h, q⟩ | ⟨a, h, q⟩ <;> rcases h2 with ⟨g, q'⟩ | ⟨b, g, q'⟩
  · rw [q, q']
  · rw [h] at g; cases g
  · rw [h] at g; cases g
  · rw [h] at g
    cases g
    exact iq_eq.mpr (q.trans q'.symm)
def unA (n : SN) (p r : Int32) : Prop := (¬ (p.toInt = 0 ∨ p.toInt = 1) ∧ r = -1000001) ∨ (p.toInt = 0 ∧ r.toInt = ((opL n 99).length : Int)) ∨ (p.toInt = 1 ∧ loA n r)
theorem unA_eq {n : SN} {p r r2 : Int32} (h : unA n p r) (h2 : unA n p r2) : r = r2 := by
  rcases h with ⟨h, q⟩ | ⟨h, q⟩ | ⟨h, q⟩ <;> rcases h2 with ⟨g, q'⟩ | ⟨g, q'⟩ | ⟨g, q'⟩
  · rw [q, q']
  · exact absurd (Or.inl g) h
  · exact absurd (Or.inr g) h
  · exact absurd (Or.inl h) g
  · exact iq_eq.mpr (q.trans q'.symm)
  · omega
  · exact absurd (Or.inr h) g
  · omega
  · exact loA_eq q q'
/-! the word to try -/
def divB (x : Int) (a : Nat) : Bool := decide (x % (a : Int) = 0)
def cntW (n : SN) (x : Int) (i : Nat) : Nat := (opL n i).countP (divB x)
theorem cntW_le {n : SN} {x : Int} : cntW n x 99 ≤ (opL n 99).length := List.countP_le_length
def ofI (n : SN) (x : Int) (z3 z4 : Int32) : Prop := ∃ j : Nat, j ≤ (opL n 99).length ∧ z4.toInt = (j : Int) ∧ z3.toInt = (((opL n 99).take j).countP (divB x) : Int)
theorem ofI_0 {n : SN} {x : Int} : ofI n x 0 0 := ⟨0, Nat.zero_le _, rfl, by rw [List.take_zero]; rfl⟩
theorem ofI_next {n : SN} {x : Int} {z3 z4 p2 v28 r v35 v38 : Int32} {f : Nat → Int32} (h : ofI n x z3 z4) (hlen : p2.toInt = ((opL n 99).length : Int)) (hr : rowF f (opL n 99)) (c : ¬ p2 ≤ z4) (e28 : v28 = f z4.toNatClampNeg) (hp : 1 ≤ v28.toInt → r.toInt = x % v28.toInt) (hv : (r = 0 ∧ v35 = z3 + 1) ∨ (¬ r = 0 ∧ v35 = z3)) (e38 : v38 = z4 + 1) : ofI n x v35 v38 := by
  obtain ⟨j, h1, h2, h3⟩ := h
  rw [iq_le] at c
  have hl := opL_len (n := n) 99
  have hjl : j < (opL n 99).length := by omega
  have hg : (opL n 99)[j]? = some (opL n 99)[j] := List.getElem?_eq_getElem hjl
  have hv28 : v28.toInt = ((opL n 99)[j] : Int) := by
    rw [e28, cl_toNat, show z4.toInt.toNat = j by omega]
    exact hr j _ hg
  have hpos := opL_pos 99 _ (List.getElem_mem hjl)
  have hr2 := hp (by omega)
  have ev := iq_add1 e38 (by omega)
  have hc : ((opL n 99).take j).countP (divB x) ≤ j := Nat.le_trans List.countP_le_length (by rw [List.length_take]; omega)
  refine ⟨j + 1, hjl, by omega, ?_⟩
  rw [List.take_add_one, hg, List.countP_append]
  show v35.toInt = ((((opL n 99).take j).countP (divB x) + [(opL n 99)[j]].countP (divB x) : Nat) : Int)
  rw [List.countP_singleton]
  rcases hv with ⟨hr0, e35⟩ | ⟨hr0, e35⟩
  · have e := iq_add1 e35 (by omega)
    have hd : divB x (opL n 99)[j] = true := decide_eq_true (by rw [← hv28, ← hr2, hr0]; rfl)
    rw [if_pos hd]
    omega
  · have hd : ¬ divB x (opL n 99)[j] = true := fun q => hr0 (iq_eq.mpr (by rw [hr2, hv28]; exact of_decide_eq_true q))
    rw [if_neg hd, e35]
    omega
theorem ofI_end {n : SN} {x : Int} {z3 z4 p2 : Int32} (h : ofI n x z3 z4) (hlen : p2.toInt = ((opL n 99).length : Int)) (c : p2 ≤ z4 ∨ 99 ≤ z4) : z3.toInt = (cntW n x 99 : Int) := by
  obtain ⟨j, h1, h2, h3⟩ := h
  have hl := opL_len (n := n) 99
  have hj : (opL n 99).length ≤ j := by
    rcases c with c | c
    · rw [iq_le] at c; omega
    · rw [iq_le] at c
      have c : (99 : Int) ≤ z4.toInt := c
      omega
  rw [List.take_of_length_le hj] at h3
  exact h3
def gW (n : SN) (x : Nat) : Nat := max (cntW n x 99) ((opL n 99).length - cntW n x 99)
theorem gW_le {n : SN} {x : Nat} : gW n x ≤ (opL n 99).length := by
  have h := cntW_le (n := n) (x := x)
  unfold gW
  omega
def bI (n : SN) (m : Nat) (b part : Int32) (Z : Int) : Prop := (m = 0 ∧ b = -1000000 ∧ part.toInt = Z) ∨ ∃ j : Nat, 1 ≤ j ∧ j ≤ m ∧ b.toInt = (j : Int) ∧ part.toInt = (gW n j : Int) ∧ ∀ i : Nat, 1 ≤ i → i ≤ m → gW n j ≤ gW n i ∧ (i < j → gW n j < gW n i)
theorem bI_keep {n : SN} {m : Nat} {b part g : Int32} {Z : Int} (h : bI n m b part Z) (hZ : ((opL n 99).length : Int) < Z) (hg : g.toInt = (gW n (m + 1) : Int)) (c : part ≤ g) : bI n (m + 1) b part Z := by
  rw [iq_le] at c
  have hw := gW_le (n := n) (x := m + 1)
  rcases h with ⟨-, -, h3⟩ | ⟨j, h1, h2, h3, h4, h5⟩
  · omega
  · refine Or.inr ⟨j, h1, by omega, h3, h4, fun i hi1 hi2 => ?_⟩
    by_cases hq : i ≤ m
    · exact h5 i hi1 hq
    · rw [show i = m + 1 by omega]
      exact ⟨by omega, fun q => by omega⟩
theorem bI_take {n : SN} {m : Nat} {b part g b2 : Int32} {Z : Int} (h : bI n m b part Z) (hg : g.toInt = (gW n (m + 1) : Int)) (hb : b2.toInt = ((m + 1 : Nat) : Int)) (c : ¬ part ≤ g) : bI n (m + 1) b2 g Z := by
  rw [iq_le] at c
  refine Or.inr ⟨m + 1, by omega, Nat.le_refl _, hb, hg, fun i hi1 hi2 => ?_⟩
  by_cases hq : i ≤ m
  · rcases h with ⟨h1, -, -⟩ | ⟨j, h1, h2, h3, h4, h5⟩
    · omega
    · have := (h5 i hi1 hq).1
      exact ⟨by omega, fun _ => by omega⟩
  · rw [show i = m + 1 by omega]
    exact ⟨Nat.le_refl _, fun q => by omega⟩
def nxA (n : SN) (r : Int32) : Prop := ((opL n 99).length ≤ 1 ∧ r = -1000000) ∨ (1 < (opL n 99).length ∧ ∃ j : Nat, 1 ≤ j ∧ j ≤ 99 ∧ r.toInt = (j : Int) ∧ ∀ i : Nat, 1 ≤ i → i ≤ 99 → gW n j ≤ gW n i ∧ (i < j → gW n j < gW n i))
theorem nxA_eq {n : SN} {r r2 : Int32} (h : nxA n r) (h2 : nxA n r2) : r = r2 := by
  rcases h with ⟨h, q⟩ | ⟨h, j, a1, a2, a3, a4⟩ <;> rcases h2 with ⟨g, q'⟩ | ⟨g, k, b1, b2, b3, b4⟩
  · rw [q, q']
  · omega
  · omega
  · have h1 := a4 k b1 b2
    have h2 := b4 j a1 a2
    have hq : j = k := by
      rcases (show j < k ∨ j = k ∨ k < j by omega) with h3 | h3 | h3
      · have := h2.2 h3; omega
      · exact h3
      · have := h1.2 h3; omega
    subst hq
    exact iq_eq.mpr (a3.trans b3.symm)
theorem bI_end {n : SN} {b part : Int32} {Z : Int} (h : bI n 99 b part Z) (hl : 1 < (opL n 99).length) : nxA n b := by
  rcases h with ⟨h, -⟩ | ⟨j, h1, h2, h3, h4, h5⟩
  · exact absurd h (by decide)
  · exact Or.inr ⟨hl, j, h1, h2, h3, h5⟩
def btI (n : SN) (z2 z3 z4 : Int32) (Z : Int) : Prop := ∃ m : Nat, m ≤ 99 ∧ z4.toInt = (m : Int) + 1 ∧ bI n m z2 z3 Z
theorem btI_0 {n : SN} {v r : Int32} (hr : r.toInt = ((opL n 99).length : Int)) (e : v = r + 1) : btI n (-1000000) v 1 (((opL n 99).length : Int) + 1) := by
  have hl := opL_len (n := n) 99
  exact ⟨0, by decide, rfl, Or.inl ⟨rfl, rfl, by rw [iq_add1 e (by omega), hr]⟩⟩
theorem gW_max {n : SN} {z1 z4 r v44 v45 : Int32} {m : Nat} (hz : z4.toInt = (m : Int) + 1) (hl : z1.toInt = ((opL n 99).length : Int)) (hr : r.toInt = (cntW n z4.toInt 99 : Int)) (e44 : v44 = z1 - r) (e45 : v45 = if r < v44 then v44 else r) : v45.toInt = (gW n (m + 1) : Int) := by
  have h1 := opL_len (n := n) 99
  have h2 := cntW_le (n := n) (x := z4.toInt)
  have h3 : v44.toInt = z1.toInt - r.toInt := by rw [e44, iq_sub (by omega) (by omega)]
  have h4 : z4.toInt = ((m + 1 : Nat) : Int) := by omega
  rw [h4] at hr h2
  unfold gW
  by_cases hq : r < v44
  · rw [e45, if_pos hq]
    rw [iq_lt] at hq
    omega
  · rw [e45, if_neg hq]
    rw [iq_lt] at hq
    omega
theorem bt_lt {z4 : Int32} {m : Nat} (hz : z4.toInt = (m : Int) + 1) (c : ¬ 99 < z4) : m < 99 := by
  rw [iq_lt] at c
  have c : ¬ (99 : Int) < z4.toInt := c
  omega
theorem btI_keep {n : SN} {z1 z2 z3 z4 r v44 v45 v62 : Int32} {Z : Int} (h : btI n z2 z3 z4 Z) (hZ : ((opL n 99).length : Int) < Z) (c : ¬ 99 < z4) (hl : z1.toInt = ((opL n 99).length : Int)) (hr : r.toInt = (cntW n z4.toInt 99 : Int)) (e44 : v44 = z1 - r) (e45 : v45 = if r < v44 then v44 else r) (c53 : z3 ≤ v45) (e62 : v62 = z4 + 1) : btI n z2 z3 v62 Z := by
  obtain ⟨m, h1, h2, h3⟩ := h
  have hm := bt_lt h2 c
  have e := iq_add1 e62 (by omega)
  exact ⟨m + 1, hm, by omega, bI_keep h3 hZ (gW_max h2 hl hr e44 e45) c53⟩
theorem btI_take {n : SN} {z1 z2 z3 z4 r v44 v45 v62 : Int32} {Z : Int} (h : btI n z2 z3 z4 Z) (c : ¬ 99 < z4) (hl : z1.toInt = ((opL n 99).length : Int)) (hr : r.toInt = (cntW n z4.toInt 99 : Int)) (e44 : v44 = z1 - r) (e45 : v45 = if r < v44 then v44 else r) (c53 : ¬ z3 ≤ v45) (e62 : v62 = z4 + 1) : btI n z4 v45 v62 Z := by
  obtain ⟨m, h1, h2, h3⟩ := h
  have hm := bt_lt h2 c
  have e := iq_add1 e62 (by omega)
  exact ⟨m + 1, hm, by omega, bI_take h3 (gW_max h2 hl hr e44 e45) (by omega) c53⟩
theorem btI_end {n : SN} {z1 z2 z3 z4 : Int32} {Z : Int} (h : btI n z2 z3 z4 Z) (c : 99 < z4) (hl : z1.toInt = ((opL n 99).length : Int)) (h1 : 1 < z1) : nxA n z2 := by
  obtain ⟨m, a1, a2, a3⟩ := h
  rw [iq_lt] at c h1
  have c : (99 : Int) < z4.toInt := c
  have h1 : (1 : Int) < z1.toInt := h1
  have hq : m = 99 := by omega
  subst hq
  exact bI_end a3 (by omega)

def dj (w w2 : va_W) : Prop := ∀ (i j : Nat) (p q : Nat × va_E), w[i]? = some p → w2[j]? = some q → p.1 ≠ q.1
theorem dj.sym {w w2 : va_W} (h : dj w w2) : dj w2 w := fun i j p q hi hj e => h j i q p hj hi e.symm
section LAWC
variable {p : Program} {l : Launch} {e : Env} {R : Room} {s : State} {m : MethodId} {args : Array Value} {below : List Frame} {meth : Method} {c : Code} {H H0 : Heap} {locs : List Loc} {cells slots : Nat} {Q : State → Prop}
variable {pc : Nat} {ls : Array Slot} {rest st0 : List Value} {aa : Array Value} {A : Nat → Prop} {mc ms : Nat} {K : Cx} {G : Nat → Nat} {a : Nat → Nat} {w w2 : va_W}
theorem dj_out (hP2 : va_P K.1 vwCl w2 H) (hX : dj w w2) {k : Nat} {q : Nat × va_E} (hk : w2[k]? = some q) : q.1 < H.size ∧ ¬ va_A w H.size q.1 := by
  have hl := (hP2 k q hk).lt
  refine ⟨hl, fun h => ?_⟩
  rcases h with ⟨i, e2, h⟩ | h
  · exact hX i k (q.1, e2) q h hk rfl
  · omega
theorem dj_keep (hP2 : va_P K.1 vwCl w2 H) (hX : dj w w2) {H1 : Heap} (hk : ∀ q : Nat, q < H.size → ¬ va_A w H.size q → H1[q]? = H[q]?) : va_P K.1 vwCl w2 H1 := hP2.kept (fun k q hq => hk q.1 (dj_out hP2 hX hq).1 (dj_out hP2 hX hq).2)
theorem dj_new (hP2 : va_P K.1 vwCl w2 H) (hX : dj w w2) {w1 : va_W} (hD1 : va_D (va_A w H.size) w1) : dj w1 w2 := fun i j x y hi hj hxy => (dj_out hP2 hX hj).2 (by rw [← hxy]; exact hD1.2 i x hi)
theorem l_ci {K2 : Cx} {post : Int32 → (Nat → Nat) → va_W → Prop} (hr : va_Run p l e R s m args below meth c H locs cells slots mc ms (F0 m pc ls st0) rest (va_Qi (fun (r : Int32) (u : (Nat → Nat) × va_W) => post r u.1 u.2 ∧ gLe G u.1 ∧ TH K2 u.1 u.2) (fun u t => va_P K.1 vwCl u.2 t.heap ∧ va_D (va_A w H.size) u.2) (va_A w H.size) aa) (va_A w H.size)) (hD : va_D A w) (hS : va_S A H0 H locs) (hA : ∀ q, H0.size ≤ q → A q) (hP2 : va_P K.1 vwCl w2 H) (hX : dj w w2)
    (kk : ∀ (r : Int32) (G1 : Nat → Nat) (w1 : va_W) (H1 : Heap) (locs1 : List Loc), post r G1 w1 → gLe G G1 → TH K2 G1 w1 → va_P K.1 vwCl w1 H1 → va_D A w1 → va_P K.1 vwCl w2 H1 → dj w1 w2 → va_S A H0 H1 locs1 → W p l e R s m args below meth c H1 locs1 (cells + mc) (slots + ms) Q (F0 m (pc + 3) ls (.int r :: rest))) : W p l e R s m args below meth c H locs cells slots Q (F0 m pc ls st0) := by
  have hF := kFree hD hS hA
  refine va_calli hr hS (fun q _ h => hF q h) hF (fun r u t H1 locs1 ht hvm hp hB hz hk hS1 => ?_)
  exact kk r u.1 u.2 H1 locs1 hp.1 hp.2.1 hp.2.2 (by rw [← ht]; exact hB.1) (hB.2.weaken (fun _ q _ h => hF q.1 h)) (dj_keep hP2 hX hk) (dj_new hP2 hX hB.2) hS1
theorem l_cv {K2 : Cx} {post : (Nat → Nat) → va_W → Prop} (hr : va_Run p l e R s m args below meth c H locs cells slots mc ms (F0 m pc ls st0) rest (va_Qv (fun (u : (Nat → Nat) × va_W) => post u.1 u.2 ∧ gLe G u.1 ∧ TH K2 u.1 u.2) (fun u t => va_P K.1 vwCl u.2 t.heap ∧ va_D (va_A w H.size) u.2) (va_A w H.size) aa) (va_A w H.size)) (hD : va_D A w) (hS : va_S A H0 H locs) (hA : ∀ q, H0.size ≤ q → A q)
    (kk : ∀ (G1 : Nat → Nat) (w1 : va_W) (H1 : Heap) (locs1 : List Loc), post G1 w1 → TH K2 G1 w1 → va_P K.1 vwCl w1 H1 → va_D A w1 → va_S A H0 H1 locs1 → W p l e R s m args below meth c H1 locs1 (cells + mc) (slots + ms) Q (F0 m (pc + 3) ls rest)) : W p l e R s m args below meth c H locs cells slots Q (F0 m pc ls st0) := by
  have hF := kFree hD hS hA
  refine va_callv hr hS (fun q _ h => hF q h) hF (fun u t H1 locs1 ht hvm hp hB hz hk hS1 => ?_)
  exact kk u.1 u.2 H1 locs1 hp.1 hp.2.2 (by rw [← ht]; exact hB.1) (hB.2.weaken (fun _ q _ h => hF q.1 h)) hS1
theorem l_ri {post : Int32 → Prop} (hr : va_Run p l e R s m args below meth c H locs cells slots 0 0 (F0 m pc ls st0) rest (va_Qi (fun (r : Int32) (_ : Unit) => post r) (fun _ _ => True) (fun _ => False) aa) (fun _ => False)) (hP : va_P K.1 vwCl w H) (hP2 : va_P K.1 vwCl w2 H) (hS : va_S A H0 H locs)
    (kk : ∀ (r : Int32) (H1 : Heap) (locs1 : List Loc), post r → va_P K.1 vwCl w H1 → va_P K.1 vwCl w2 H1 → va_S A H0 H1 locs1 → W p l e R s m args below meth c H1 locs1 cells slots Q (F0 m (pc + 3) ls (.int r :: rest))) : W p l e R s m args below meth c H locs cells slots Q (F0 m pc ls st0) :=
  va_calli hr hS (fun _ _ h => h.elim) (fun _ h => h.elim) (fun r _ _ H1 locs1 _ _ hp _ _ hk hS1 => kk r H1 locs1 hp (hP.kept (fun k q hq => hk q.1 (hP k q hq).lt (fun h => h))) (hP2.kept (fun k q hq => hk q.1 (hP2 k q hq).lt (fun h => h))) hS1)
theorem l_mi {K2 : Cx} {post : Int32 → MZ → Prop} (hr : va_Run p l e R s m args below meth c H locs cells slots 0 0 (F0 m pc ls st0) rest (va_Qi (fun (r : Int32) (u : MZ) => post r u ∧ MI K2 u) (fun u t => va_P K.1 vwCl (mZ K a u) t.heap ∧ va_D (va_A w H.size) (mZ K a u)) (va_A w H.size) aa) (va_A w H.size)) (hD : va_D A w) (hS : va_S A H0 H locs) (hA : ∀ q, H0.size ≤ q → A q) (hP2 : va_P K.1 vwCl w2 H) (hX : dj w w2)
    (kk : ∀ (r : Int32) (u : MZ) (H1 : Heap) (locs1 : List Loc), post r u → MI K2 u → va_P K.1 vwCl (mZ K a u) H1 → va_D A (mZ K a u) → va_P K.1 vwCl w2 H1 → dj (mZ K a u) w2 → va_S A H0 H1 locs1 → W p l e R s m args below meth c H1 locs1 cells slots Q (F0 m (pc + 3) ls (.int r :: rest))) : W p l e R s m args below meth c H locs cells slots Q (F0 m pc ls st0) := by
  have hF := kFree hD hS hA
  refine va_calli hr hS (fun q _ h => hF q h) hF (fun r u t H1 locs1 ht hvm hp hB hz hk hS1 => ?_)
  exact kk r u H1 locs1 hp.1 hp.2 (by rw [← ht]; exact hB.1) (hB.2.weaken (fun _ q _ h => hF q.1 h)) (dj_keep hP2 hX hk) (dj_new hP2 hX hB.2) hS1
end LAWC
theorem law_in {z v k : Int32} {L : Nat} (hL : L ≤ 2048) (h0 : 0 ≤ z.toInt) (hle : z.toInt + 4 ≤ L) (hk0 : 0 ≤ k.toInt) (hk : k.toInt ≤ 3) (e : v = z + k) : vp_in v L := by
  have : v.toInt = z.toInt + k.toInt := by rw [e, iq_add (by omega) (by omega)]
  exact iq_in (by omega) (by omega)
theorem law_go {z v22 : Int32} {L : Nat} (hL : L ≤ 2048) (e22 : v22 = Int32.ofNat L - 4) (c : ¬ v22 < z) : z.toInt + 4 ≤ L := by
  rw [iq_lt] at c
  have h1 : (Int32.ofNat L).toInt = L := by show (nI L).toInt = _; exact nI_toInt (by omega)
  have h2 : v22.toInt = L - 4 := by
    rw [e22, iq_sub (by rw [h1]; show _ ≤ (L : Int) - 4; omega) (by rw [h1]; show (L : Int) - 4 < _; omega), h1]
    rfl
  omega
theorem iq_add4 {x v : Int32} (hv : v = x + 4) (h : x.toInt ≤ 2048) (h0 : 0 ≤ x.toInt) : v.toInt = x.toInt + 4 := by
  rw [hv, iq_add (by show _ ≤ x.toInt + 4; omega) (by show x.toInt + 4 < _; omega)]
  rfl

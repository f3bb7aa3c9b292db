/-! own words: the world of the class by kinds of its cells (G: the kind of each address; 0: none) -/
abbrev SN : Type := Int32 × (Nat → Int32) × (Nat → Int32)
abbrev Cx : Type := va_G × ClassId × ClassId × ClassId × ClassId × SN
abbrev snK (K : Cx) : SN := K.2.2.2.2.2
abbrev Kw (K : Cx) (n : SN) : Cx := (K.1, K.2.1, K.2.2.1, K.2.2.2.1, K.2.2.2.2.1, n)
/-- what was SEEN is as told -/
def okN (n : SN) : Prop := (0 ≤ n.1.toInt ∧ n.1.toInt ≤ 6) ∧ ∀ j : Nat, (j : Int) < n.1.toInt → (1 ≤ (n.2.1 j).toInt ∧ (n.2.1 j).toInt ≤ 9999) ∧ (n.2.2 j = 0 ∨ n.2.2 j = 1)
abbrev sn0 : SN := (0, fun _ => 0, fun _ => 0)
theorem okN0 : okN sn0 := ⟨⟨by decide, by decide⟩, fun j hj => absurd hj (by show ¬ (j : Int) < 0; omega)⟩
theorem nw_ne {G G1 : Nat → Nat} {q k kd : Nat} (h : ∀ b : Nat, G b ≠ k) (hz : ∀ b : Nat, b ≠ q → G1 b = G b) (hq : G1 q = kd) (hne : kd ≠ k) : ∀ b : Nat, G1 b ≠ k := fun b => by
  by_cases hb : b = q
  · rw [hb, hq]; exact hne
  · rw [hz b hb]; exact h b
/-- kinds of which there is one at most -/
abbrev uqK (k : Nat) : Prop := k = 5 ∨ k = 8 ∨ k = 13
abbrev tyL (K : Cx) : List (ClassId × FieldType) := [(K.2.1, .int), (K.2.2.1, .long), (K.2.2.2.1, .boolean), (K.2.2.2.2.1, .object "CodedWords$Code")]
def nwF : List (String × Nat × String × String × String × String) := [(RX5, 70, RX2, "a", "I", RX5), (RX5, 161, RX2, "width", "I", RX5), (RX5, 125, RX3, "known", "I", RX5), (RX5, 180, RX4, "seen", "I", RX5)]
def nwM : List (String × Nat × MethodName × String) := [(RX5, 9, yX2_init, RX5), (RX3, 24, yX2_init, RX5), (RX5, 25, yX0_init, RX5), (RX5, 32, yX4_init, RX5), (RX5, 39, yX1_init, RX5), (RX3, 25, yX5_rest, RX5), (RX2, 42, yX5_isRegister, RX5), (RX2, 50, yX5_cut, RX5), (RX2, 57, yX5_rest, RX5), (RX2, 80, yX5_change, RX5), (RX1, 34, yX5_change, RX5), (RX1, 38, yX5_rest, RX5), (RX4, 43, yX5_rest, RX5), (RX0, 17, yX5_isImage, RX5), (RX0, 21, yX2_init, RX5)]
def NW (U : State) : Prop := (∀ q ∈ nwF, va_Nw (.fieldLinkNest q.1 q.2.1 q.2.2.1 q.2.2.2.1 q.2.2.2.2.1 q.2.2.2.2.2) U) ∧ (∀ q ∈ nwM, va_Nw (.methodLinkNest q.1 q.2.1 q.2.2.1 q.2.2.2) U) ∧ va_AO "CodedWords$Code" U
theorem NW.warm {s U : State} (hW : s.WarmedH U.vm) (h : NW s) : NW U := ⟨fun q hq => va_Nw.warmF hW (h.1 q hq), fun q hq => va_Nw.warmM hW (h.2.1 q hq), va_AO.moved hW.alike h.2.2⟩
theorem NW.same {u U : State} (e : u.vm = U.vm) (h : NW u) : NW U := ⟨fun q hq => va_Nw.same rfl e (h.1 q hq), fun q hq => va_Nw.same rfl e (h.2.1 q hq), va_AO.moved (by rw [e]; exact Vm.Alike.refl _) h.2.2⟩
theorem NW.f {s : State} {args : Array Value} (h : NW s) {a : String} {i : Nat} {b n d o : String} (hq : (a, i, b, n, d, o) ∈ nwF) : (Cond.fieldLinkNest a i b n d o).before args s = true := va_Nw.use rfl (h.1 _ hq)
theorem NW.m {s : State} (h : NW s) {a : String} {i : Nat} {y : MethodName} {o : String} (hq : (a, i, y, o) ∈ nwM) : va_Nw (.methodLinkNest a i y o) s := h.2.1 _ hq
def kW (K : Cx) (w : va_W) (U : State) : Prop := va_P K.1 vwCl w U.heap ∧ va_K K.1 vwCl (tyL K) U ∧ va_D (fun _ => True) w ∧ NW U
theorem kW.calling {K : Cx} {w : va_W} {U : State} (g : JFrame) (mk : MethodId) (a : Array Value) (h : kW K w U) : kW K w (U.calling g mk a) := ⟨h.1, va_K.moved (u := U) (U := U.calling g mk a) (Vm.Alike.refl U.vm) h.2.1, h.2.2.1, NW.same rfl h.2.2.2⟩
theorem kW.of {K : Cx} {w : va_W} {A : Nat → Prop} {s U : State} {H : Heap} (hP : va_P K.1 vwCl w H) (hK : va_K K.1 vwCl (tyL K) s) (hD : va_D A w) (hN : NW s) (hU : U.heap = H) (hW : s.WarmedH U.vm) : kW K w U := ⟨by rw [hU]; exact hP, va_K.moved hW.alike hK, hD.weaken (fun _ _ _ _ => trivial), hN.warm hW⟩
theorem kBlind {K : Cx} {w : va_W} {sz : Nat} {av : List Value} : FrameBlind (va_Pc av (fun U => U.heap.size = sz ∧ kW K w U)) := fun a _ g mk q => ⟨q.1, q.2.1, q.2.2.calling g mk a⟩
theorem rBlind {K : Cx} {w : va_W} {av : List Value} : FrameBlind (va_Pc av (fun U => kW K w U)) := fun a _ g mk q => ⟨q.1, q.2.calling g mk a⟩
theorem pBlind {av : List Value} : FrameBlind (va_Pc av (fun _ => True)) := fun _ _ _ _ q => ⟨q.1, trivial⟩
abbrev rcv (s : State) (H : Heap) (C : String) (b : Nat) : Prop := ∃ cellB : Cell, H[b]? = some cellB ∧ cellB.vm.isStatics = false ∧ s.vm.findClass C = some cellB.cls
theorem kPreV {s : State} {H : Heap} {K : Cx} {w : va_W} {A : Nat → Prop} {C : String} {b : Nat} {As : List Value} (hv : rcv s H C b) (hP : va_P K.1 vwCl w H) (hK : va_K K.1 vwCl (tyL K) s) (hD : va_D A w) (hN : NW s) : PreV s H C b (va_Pc (.ref b :: As) (fun U => U.heap.size = H.size ∧ kW K w U)) As := ⟨kBlind, hv, fun U hU hW => ⟨rfl, by rw [hU], kW.of hP hK hD hN hU hW⟩⟩
theorem kPreS {s : State} {H : Heap} {K : Cx} {w : va_W} {A : Nat → Prop} {As : List Value} (hP : va_P K.1 vwCl w H) (hK : va_K K.1 vwCl (tyL K) s) (hD : va_D A w) (hN : NW s) : PreS s H (va_Pc As (fun U => U.heap.size = H.size ∧ kW K w U)) As := ⟨kBlind, fun U hU hW => ⟨rfl, by rw [hU], kW.of hP hK hD hN hU hW⟩⟩
theorem rPreV {s : State} {H : Heap} {K : Cx} {w : va_W} {A : Nat → Prop} {C : String} {b : Nat} {As : List Value} (hv : rcv s H C b) (hP : va_P K.1 vwCl w H) (hK : va_K K.1 vwCl (tyL K) s) (hD : va_D A w) (hN : NW s) : PreV s H C b (va_Pc (.ref b :: As) (fun U => kW K w U)) As := ⟨rBlind, hv, fun U hU hW => ⟨rfl, kW.of hP hK hD hN hU hW⟩⟩
theorem pPreS {s : State} {H : Heap} {As : List Value} : PreS s H (va_Pc As (fun _ => True)) As := ⟨pBlind, fun _ _ _ => ⟨rfl, trivial⟩⟩
/-! kinds: 1 Album, 2 Chances, 3 Code, 4 Past, 5 Search, 6 CodedWords; 7 to 10 int rows of 4, 6, 99, 199; 11, 12 rows of Codes, 12 and 2 -/
def iaLen (k : Nat) : Option Nat := match k with
  | 7 => some 4
  | 9 => some 99
  | 10 => some 199
  | _ => none
def raLen (k : Nat) : Option Nat := match k with
  | 11 => some 12
  | 12 => some 2
  | _ => none
def okE (K : Cx) (G : Nat → Nat) (k : Nat) (e : va_E) : Prop := match k with
  | 1 => ∃ q : Nat, e = .inr (0, [.ref q]) ∧ G q = 12
  | 2 => ∃ q r : Nat, e = .inr (1, [.ref q, .ref r]) ∧ G q = 10 ∧ G r = 10
  | 3 => ∃ (x y : Int32) (q r : Nat), e = .inr (2, [.int x, .int y, .ref q, .ref r]) ∧ G q = 7 ∧ G r = 7
  | 4 => ∃ (q : Nat) (x y : Int32), e = .inr (3, [.ref q, .int x, .int y]) ∧ G q = 11
  | 5 => ∃ (q r t : Nat) (x : Int32), e = .inr (4, [.ref q, .ref r, .ref t, .int x]) ∧ G q = 8 ∧ G r = 13 ∧ G t = 9 ∧ x = (snK K).1 ∧ okN (snK K)
  | 6 => ∃ q r t u v : Nat, e = .inr (5, [.ref q, .ref r, .ref t, .ref u, .ref v]) ∧ G q = 3 ∧ G r = 4 ∧ G t = 1 ∧ G u = 5 ∧ G v = 2
  | 0 => False
  | 8 => e = .inl (K.2.1, 6, .inl (snK K).2.1) ∧ okN (snK K)
  | 13 => e = .inl (K.2.1, 6, .inl (snK K).2.2) ∧ okN (snK K)
  | k => (∃ (n : Nat) (f : Nat → Int32), iaLen k = some n ∧ e = .inl (K.2.1, n, .inl f)) ∨ ∃ (n : Nat) (f : Nat → Option Nat), raLen k = some n ∧ e = .inl (K.2.2.2.2.1, n, .inr (.inr (.inr (.inr f)))) ∧ ∀ (j q : Nat), f j = some q → G q = 3
def gLe (G G1 : Nat → Nat) : Prop := ∀ a : Nat, G a ≠ 0 → G1 a = G a
theorem gLe.rf {G : Nat → Nat} : gLe G G := fun _ _ => rfl
theorem gLe.at {G G1 : Nat → Nat} (h : gLe G G1) {a k : Nat} (ha : G a = k) (hk : k ≠ 0) : G1 a = k := (h a (by rw [ha]; exact hk)).trans ha
theorem gLe.tr {G G1 G2 : Nat → Nat} (h : gLe G G1) (h2 : gLe G1 G2) : gLe G G2 := fun a ha => (h2 a (by rw [h a ha]; exact ha)).trans (h a ha)
theorem gLe.up {G : Nat → Nat} {a : Nat} (k : Nat) (h : G a = 0) : gLe G (va_up G a k) := fun b hb => va_up_ne G k (fun e => hb (e ▸ h))
theorem okE.mono_a {K : Cx} {G G1 : Nat → Nat} {k : Nat} {e : va_E} (hg : gLe G G1) (h : (∃ (n : Nat) (f : Nat → Int32), iaLen k = some n ∧ e = .inl (K.2.1, n, .inl f)) ∨ ∃ (n : Nat) (f : Nat → Option Nat), raLen k = some n ∧ e = .inl (K.2.2.2.2.1, n, .inr (.inr (.inr (.inr f)))) ∧ ∀ (j q : Nat), f j = some q → G q = 3) : (∃ (n : Nat) (f : Nat → Int32), iaLen k = some n ∧ e = .inl (K.2.1, n, .inl f)) ∨ ∃ (n : Nat) (f : Nat → Option Nat), raLen k = some n ∧ e = .inl (K.2.2.2.2.1, n, .inr (.inr (.inr (.inr f)))) ∧ ∀ (j q : Nat), f j = some q → G1 q = 3 := by
  rcases h with h | ⟨n, f, h1, h2, h3⟩
  · exact Or.inl h
  · exact Or.inr ⟨n, f, h1, h2, fun j q hq => hg.at (h3 j q hq) (by decide)⟩
theorem okE.mono {K : Cx} {G G1 : Nat → Nat} {k : Nat} {e : va_E} (hg : gLe G G1) (h : okE K G k e) : okE K G1 k e := by
  match k, h with
  | 0, h => exact h
  | 1, ⟨q, e1, h1⟩ => exact ⟨q, e1, hg.at h1 (by decide)⟩
  | 2, ⟨q, r, e1, h1, h2⟩ => exact ⟨q, r, e1, hg.at h1 (by decide), hg.at h2 (by decide)⟩
  | 3, ⟨x, y, q, r, e1, h1, h2⟩ => exact ⟨x, y, q, r, e1, hg.at h1 (by decide), hg.at h2 (by decide)⟩
  | 4, ⟨q, x, y, e1, h1⟩ => exact ⟨q, x, y, e1, hg.at h1 (by decide)⟩
  | 5, ⟨q, r, t, x, e1, h1, h2, h3, h4⟩ => exact ⟨q, r, t, x, e1, hg.at h1 (by decide), hg.at h2 (by decide), hg.at h3 (by decide), h4⟩
  | 6, ⟨q, r, t, u, v, e1, h1, h2, h3, h4, h5⟩ => exact ⟨q, r, t, u, v, e1, hg.at h1 (by decide), hg.at h2 (by decide), hg.at h3 (by decide), hg.at h4 (by decide), hg.at h5 (by decide)⟩
  | 7, h => exact okE.mono_a hg h
  | 8, h => exact h
  | 9, h => exact okE.mono_a hg h
  | 10, h => exact okE.mono_a hg h
  | 11, h => exact okE.mono_a hg h
  | 12, h => exact okE.mono_a hg h
  | 13, h => exact h
  | n + 14, h => exact okE.mono_a hg h
def TH (K : Cx) (G : Nat → Nat) (w : va_W) : Prop := (∀ a b : Nat, uqK (G a) → G a = G b → a = b) ∧ ∀ a : Nat, G a ≠ 0 → ∃ (k : Nat) (e : va_E), w[k]? = some (a, e) ∧ okE K G (G a) e
theorem TH.set {K : Cx} {G : Nat → Nat} {w : va_W} {k a : Nat} {e0 e1 : va_E} (h : TH K G w) (hk : w[k]? = some (a, e0)) (ho : G a ≠ 0 → okE K G (G a) e1) : TH K G (w.set k (a, e1)) := by
  refine ⟨h.1, fun b hb => ?_⟩
  obtain ⟨j, e, hj, hoe⟩ := h.2 b hb
  have hl : k < w.length := (List.getElem?_eq_some_iff.mp hk).1
  by_cases hba : b = a
  · subst hba
    exact ⟨k, e1, List.getElem?_set_self hl, ho hb⟩
  · have hjk : j ≠ k := by
      intro q
      subst q
      rw [hk] at hj
      cases hj
      exact hba rfl
    exact ⟨j, e, by rw [List.getElem?_set_ne (Ne.symm hjk)]; exact hj, hoe⟩
theorem tw_push {w : va_W} {k : Nat} {q n : Nat × va_E} (h : w[k]? = some q) : (w ++ [n])[k]? = some q := by
  rw [List.getElem?_append_left (List.getElem?_eq_some_iff.mp h).1]
  exact h
theorem tw_last {w : va_W} {n : Nat × va_E} : (w ++ [n])[w.length]? = some n := by simp
theorem tw_set {w : va_W} {k : Nat} {q n : Nat × va_E} (h : w[k]? = some q) : (w.set k n)[k]? = some n := List.getElem?_set_self (List.getElem?_eq_some_iff.mp h).1
theorem tw_setne {w : va_W} {k j : Nat} {q n : Nat × va_E} (h : w[j]? = some q) (hne : k ≠ j) : (w.set k n)[j]? = some q := by rw [List.getElem?_set_ne hne]; exact h
theorem TH.push {K : Cx} {G : Nat → Nat} {w : va_W} {n : Nat × va_E} (h : TH K G w) : TH K G (w ++ [n]) := ⟨h.1, fun a ha => by
  obtain ⟨k, e, hk, ho⟩ := h.2 a ha
  exact ⟨k, e, tw_push hk, ho⟩⟩
theorem TH.fresh {K : Cx} {G : Nat → Nat} {w : va_W} {A : Nat → Prop} {q : Nat} {e : va_E} (h : TH K G w) (hD : va_D A (w ++ [(q, e)])) : G q = 0 := Classical.byContradiction fun hq => by
  obtain ⟨k, e2, hk, -⟩ := h.2 q hq
  have h1 := hD.1 k w.length _ _ (tw_push hk) tw_last rfl
  have h2 := (List.getElem?_eq_some_iff.mp hk).1
  omega
theorem TH.new {K : Cx} {G : Nat → Nat} {w : va_W} {k a kd : Nat} {e : va_E} (h : TH K G w) (hk : w[k]? = some (a, e)) (h0 : G a = 0) (hu : uqK kd → ∀ b : Nat, G b ≠ kd) (ho : okE K (va_up G a kd) kd e) : TH K (va_up G a kd) w := by
  refine ⟨fun b c hb hc => ?_, fun b hb => ?_⟩
  · by_cases hba : b = a
    · subst hba
      by_cases hca : c = b
      · exact hca.symm
      · rw [va_up_self] at hb hc
        rw [va_up_ne G kd hca] at hc
        exact absurd hc.symm (hu hb c)
    · by_cases hca : c = a
      · subst hca
        rw [va_up_self, va_up_ne G kd hba] at hc
        rw [va_up_ne G kd hba, hc] at hb
        exact absurd hc (hu hb b)
      · rw [va_up_ne G kd hba] at hb hc
        rw [va_up_ne G kd hca] at hc
        exact h.1 b c hb hc
  by_cases hba : b = a
  · subst hba
    rw [va_up_self]
    exact ⟨k, e, hk, ho⟩
  · rw [va_up_ne G kd hba] at hb ⊢
    obtain ⟨j, e2, hj, h2⟩ := h.2 b hb
    exact ⟨j, e2, hj, h2.mono (gLe.up kd h0)⟩
section TK
variable {K : Cx} {G : Nat → Nat} {w : va_W} {a : Nat}
theorem TH.k1 (h : TH K G w) (ha : G a = 1) : ∃ k q : Nat, w[k]? = some (a, .inr (0, [.ref q])) ∧ G q = 12 := by
  obtain ⟨k, e, hk, ho⟩ := h.2 a (by rw [ha]; decide)
  rw [ha] at ho
  obtain ⟨q, rfl, h1⟩ := ho
  exact ⟨k, q, hk, h1⟩
theorem TH.k2 (h : TH K G w) (ha : G a = 2) : ∃ k q r : Nat, w[k]? = some (a, .inr (1, [.ref q, .ref r])) ∧ G q = 10 ∧ G r = 10 := by
  obtain ⟨k, e, hk, ho⟩ := h.2 a (by rw [ha]; decide)
  rw [ha] at ho
  obtain ⟨q, r, rfl, h1⟩ := ho
  exact ⟨k, q, r, hk, h1⟩
theorem TH.k3 (h : TH K G w) (ha : G a = 3) : ∃ (k : Nat) (x y : Int32) (q r : Nat), w[k]? = some (a, .inr (2, [.int x, .int y, .ref q, .ref r])) ∧ G q = 7 ∧ G r = 7 := by
  obtain ⟨k, e, hk, ho⟩ := h.2 a (by rw [ha]; decide)
  rw [ha] at ho
  obtain ⟨x, y, q, r, rfl, h1⟩ := ho
  exact ⟨k, x, y, q, r, hk, h1⟩
theorem TH.k4 (h : TH K G w) (ha : G a = 4) : ∃ (k q : Nat) (x y : Int32), w[k]? = some (a, .inr (3, [.ref q, .int x, .int y])) ∧ G q = 11 := by
  obtain ⟨k, e, hk, ho⟩ := h.2 a (by rw [ha]; decide)
  rw [ha] at ho
  obtain ⟨q, x, y, rfl, h1⟩ := ho
  exact ⟨k, q, x, y, hk, h1⟩
theorem TH.k5 (h : TH K G w) (ha : G a = 5) : ∃ (k q r t : Nat) (x : Int32), w[k]? = some (a, .inr (4, [.ref q, .ref r, .ref t, .int x])) ∧ G q = 8 ∧ G r = 13 ∧ G t = 9 := by
  obtain ⟨k, e, hk, ho⟩ := h.2 a (by rw [ha]; decide)
  rw [ha] at ho
  obtain ⟨q, r, t, x, rfl, h1, h2, h3, -⟩ := ho
  exact ⟨k, q, r, t, x, hk, h1, h2, h3⟩
theorem TH.k6 (h : TH K G w) (ha : G a = 6) : ∃ k q r t u v : Nat, w[k]? = some (a, .inr (5, [.ref q, .ref r, .ref t, .ref u, .ref v])) ∧ G q = 3 ∧ G r = 4 ∧ G t = 1 ∧ G u = 5 ∧ G v = 2 := by
  obtain ⟨k, e, hk, ho⟩ := h.2 a (by rw [ha]; decide)
  rw [ha] at ho
  obtain ⟨q, r, t, u, v, rfl, h1⟩ := ho
  exact ⟨k, q, r, t, u, v, hk, h1⟩
theorem ia_pos {kd n : Nat} (h : iaLen kd = some n) : kd = 7 ∨ kd = 9 ∨ kd = 10 := by
  match kd, h with
  | 7, _ => exact Or.inl rfl
  | 9, _ => exact Or.inr (Or.inl rfl)
  | 10, _ => exact Or.inr (Or.inr rfl)
theorem ra_pos {kd n : Nat} (h : raLen kd = some n) : kd = 11 ∨ kd = 12 := by
  match kd, h with
  | 11, _ => exact Or.inl rfl
  | 12, _ => exact Or.inr rfl
theorem ia_uq {kd n : Nat} (h : iaLen kd = some n) : ¬ uqK kd := by rcases ia_pos h with rfl | rfl | rfl <;> decide
theorem ra_uq {kd n : Nat} (h : raLen kd = some n) : ¬ uqK kd := by rcases ra_pos h with rfl | rfl <;> decide
theorem ia_not_ra {kd n m : Nat} (h : iaLen kd = some n) (h2 : raLen kd = some m) : False := by
  match kd, h, h2 with
  | 11, h, _ => simp [iaLen] at h
  | 12, h, _ => simp [iaLen] at h
theorem okE.row {kd n : Nat} (hn : iaLen kd = some n) {e : va_E} (h : okE K G kd e) : (∃ (n : Nat) (f : Nat → Int32), iaLen kd = some n ∧ e = .inl (K.2.1, n, .inl f)) ∨ ∃ (n : Nat) (f : Nat → Option Nat), raLen kd = some n ∧ e = .inl (K.2.2.2.2.1, n, .inr (.inr (.inr (.inr f)))) ∧ ∀ (j q : Nat), f j = some q → G q = 3 := by
  rcases ia_pos hn with rfl | rfl | rfl <;> exact h
theorem okE.rowr {kd n : Nat} (hn : raLen kd = some n) {e : va_E} (h : okE K G kd e) : (∃ (n : Nat) (f : Nat → Int32), iaLen kd = some n ∧ e = .inl (K.2.1, n, .inl f)) ∨ ∃ (n : Nat) (f : Nat → Option Nat), raLen kd = some n ∧ e = .inl (K.2.2.2.2.1, n, .inr (.inr (.inr (.inr f)))) ∧ ∀ (j q : Nat), f j = some q → G q = 3 := by
  rcases ra_pos hn with rfl | rfl <;> exact h
theorem TH.ia (h : TH K G w) {kd n : Nat} (ha : G a = kd) (hn : iaLen kd = some n) : ∃ (k : Nat) (f : Nat → Int32), w[k]? = some (a, .inl (K.2.1, n, .inl f)) := by
  obtain ⟨k, e, hk, ho⟩ := h.2 a (by rw [ha]; intro q; subst q; cases hn)
  rw [ha] at ho
  rcases okE.row hn ho with ⟨n2, f, h1, rfl⟩ | ⟨n2, f, h1, -⟩
  · rw [hn] at h1
    cases h1
    exact ⟨k, f, hk⟩
  · exact (ia_not_ra hn h1).elim
theorem okE.ia {kd n : Nat} (hn : iaLen kd = some n) (f : Nat → Int32) : okE K G kd (.inl (K.2.1, n, .inl f)) := by
  rcases ia_pos hn with rfl | rfl | rfl <;> exact Or.inl ⟨n, f, hn, rfl⟩
theorem TH.ra (h : TH K G w) {kd n : Nat} (ha : G a = kd) (hn : raLen kd = some n) : ∃ (k : Nat) (f : Nat → Option Nat), w[k]? = some (a, .inl (K.2.2.2.2.1, n, .inr (.inr (.inr (.inr f))))) ∧ ∀ (j q : Nat), f j = some q → G q = 3 := by
  obtain ⟨k, e, hk, ho⟩ := h.2 a (by rw [ha]; intro q; subst q; cases hn)
  rw [ha] at ho
  rcases okE.rowr hn ho with ⟨n2, f, h1, -⟩ | ⟨n2, f, h1, rfl, h3⟩
  · exact (ia_not_ra h1 hn).elim
  · rw [hn] at h1
    cases h1
    exact ⟨k, f, hk, h3⟩
theorem okE.ra {kd n : Nat} (hn : raLen kd = some n) (f : Nat → Option Nat) (h3 : ∀ (j q : Nat), f j = some q → G q = 3) : okE K G kd (.inl (K.2.2.2.2.1, n, .inr (.inr (.inr (.inr f))))) := by
  rcases ra_pos hn with rfl | rfl <;> exact Or.inr ⟨n, f, hn, rfl, h3⟩
/-- what was SEEN, in the cells of the class -/
theorem TH.seen (h : TH K G w) {A : Nat → Prop} (hD : va_D A w) (ha : G a = 5) {k q r t : Nat} {x : Int32} (hk : w[k]? = some (a, .inr (4, [.ref q, .ref r, .ref t, .int x]))) : x = (snK K).1 ∧ okN (snK K) := by
  obtain ⟨j, e, hj, ho⟩ := h.2 a (by rw [ha]; decide)
  rw [ha] at ho
  obtain ⟨q2, r2, t2, x2, rfl, -, -, -, h1⟩ := ho
  have hq := hD.1 k j _ _ hk hj rfl
  subst hq
  rw [hk] at hj
  cases hj
  exact h1
theorem TH.k8 (h : TH K G w) (ha : G a = 8) : ∃ k : Nat, w[k]? = some (a, .inl (K.2.1, 6, .inl (snK K).2.1)) := by
  obtain ⟨k, e, hk, ho⟩ := h.2 a (by rw [ha]; decide)
  rw [ha] at ho
  obtain ⟨rfl, -⟩ := ho
  exact ⟨k, hk⟩
theorem TH.k13 (h : TH K G w) (ha : G a = 13) : ∃ k : Nat, w[k]? = some (a, .inl (K.2.1, 6, .inl (snK K).2.2)) := by
  obtain ⟨k, e, hk, ho⟩ := h.2 a (by rw [ha]; decide)
  rw [ha] at ho
  obtain ⟨rfl, -⟩ := ho
  exact ⟨k, hk⟩
/-- another SEEN: all but the cells that hold it -/
theorem okE.toN {kd : Nat} {e : va_E} {n : SN} (ho : okE K G kd e) (hn : uqK kd → okN (snK K) → okN n) (h5 : kd = 5 → n.1 = (snK K).1) (h8 : kd = 8 → n.2.1 = (snK K).2.1) (h13 : kd = 13 → n.2.2 = (snK K).2.2) : okE (Kw K n) G kd e := by
  match kd, ho with
  | 0, h => exact h
  | 1, h => exact h
  | 2, h => exact h
  | 3, h => exact h
  | 4, h => exact h
  | 5, ⟨q, r, t, x, e1, h1, h2, h3, h4, h6⟩ => exact ⟨q, r, t, x, e1, h1, h2, h3, h4.trans (h5 rfl).symm, hn (Or.inl rfl) h6⟩
  | 6, h => exact h
  | 7, h => exact h
  | 8, ⟨h, h6⟩ => exact ⟨by rw [h, ← h8 rfl], hn (Or.inr (Or.inl rfl)) h6⟩
  | 9, h => exact h
  | 10, h => exact h
  | 11, h => exact h
  | 12, h => exact h
  | 13, ⟨h, h6⟩ => exact ⟨by rw [h, ← h13 rfl], hn (Or.inr (Or.inr rfl)) h6⟩
  | k + 14, h => exact h
theorem TH.wr (h : TH K G w) {kd k : Nat} (ha : G a = kd) (hu : uqK kd) {e0 e1 : va_E} {n : SN} (hk : w[k]? = some (a, e0)) (hn : okN (snK K) → okN n) (h5 : kd ≠ 5 → n.1 = (snK K).1) (h8 : kd ≠ 8 → n.2.1 = (snK K).2.1) (h13 : kd ≠ 13 → n.2.2 = (snK K).2.2) (ho : okE (Kw K n) G kd e1) : TH (Kw K n) G (w.set k (a, e1)) := by
  refine ⟨h.1, fun b hb => ?_⟩
  obtain ⟨j, e, hj, hoe⟩ := h.2 b hb
  have hl : k < w.length := (List.getElem?_eq_some_iff.mp hk).1
  by_cases hba : b = a
  · subst hba
    exact ⟨k, e1, List.getElem?_set_self hl, by rw [ha]; exact ho⟩
  · have hjk : j ≠ k := by
      intro q
      subst q
      rw [hk] at hj
      cases hj
      exact hba rfl
    have hne : G b ≠ kd := fun q => hba (h.1 b a (by rw [q]; exact hu) (q.trans ha.symm))
    exact ⟨j, e, by rw [List.getElem?_set_ne (Ne.symm hjk)]; exact hj, hoe.toN (fun _ => hn) (fun q => h5 (fun q2 => hne (q.trans q2.symm))) (fun q => h8 (fun q2 => hne (q.trans q2.symm))) (fun q => h13 (fun q2 => hne (q.trans q2.symm)))⟩
/-- a world with no cell that holds what was SEEN -/
theorem TH.none (h : TH K G w) (hK : ¬ okN (snK K)) : ∀ b : Nat, ¬ uqK (G b) := fun b hu => by
  obtain ⟨j, e, hj, hoe⟩ := h.2 b (by intro q; rw [q] at hu; revert hu; decide)
  rcases hu with q | q | q <;> rw [q] at hoe
  · obtain ⟨_, _, _, _, -, -, -, -, -, h6⟩ := hoe
    exact hK h6
  · exact hK hoe.2
  · exact hK hoe.2
theorem TH.sn0 (h : TH K G w) (hu : ∀ b : Nat, ¬ uqK (G b)) (n : SN) : TH (Kw K n) G w := by
  refine ⟨h.1, fun b hb => ?_⟩
  obtain ⟨j, e, hj, hoe⟩ := h.2 b hb
  have hb9 := hu b
  exact ⟨j, e, hj, hoe.toN (fun q => absurd q hb9) (fun q => absurd (Or.inl q) hb9) (fun q => absurd (Or.inr (Or.inl q)) hb9) (fun q => absurd (Or.inr (Or.inr q)) hb9)⟩
end TK
theorem kFree {A : Nat → Prop} {w : va_W} {H0 H : Heap} {locs : List Loc} (hD : va_D A w) (hS : va_S A H0 H locs) (hA : ∀ q, H0.size ≤ q → A q) : ∀ q, va_A w H.size q → A q := by
  intro q h
  rcases h with ⟨k, e, h⟩ | h
  · exact hD.2 k (q, e) h
  · exact hA q (Nat.le_trans hS.1 h)
abbrev Ci (l : Launch) (K : Cx) (y : MethodName) (ws : List Cond) (rm : Room) (mc ms : Nat) (av : List Value) (G : Nat → Nat) (w : va_W) (sz : Nat) (post : Int32 → (Nat → Nat) → va_W → Prop) : Prop :=
  Met l y ws rm (va_Pc av (fun U => U.heap.size = sz ∧ kW K w U)) (va_Qi (fun (r : Int32) (u : (Nat → Nat) × va_W) => post r u.1 u.2 ∧ gLe G u.1 ∧ TH K u.1 u.2) (fun u t => va_P K.1 vwCl u.2 t.heap ∧ va_D (va_A w sz) u.2) (va_A w sz)) mc ms (va_A w sz)
abbrev Cv (l : Launch) (K : Cx) (y : MethodName) (ws : List Cond) (rm : Room) (mc ms : Nat) (av : List Value) (G : Nat → Nat) (w : va_W) (sz : Nat) (post : (Nat → Nat) → va_W → Prop) : Prop :=
  Met l y ws rm (va_Pc av (fun U => U.heap.size = sz ∧ kW K w U)) (va_Qv (fun (u : (Nat → Nat) × va_W) => post u.1 u.2 ∧ gLe G u.1 ∧ TH K u.1 u.2) (fun u t => va_P K.1 vwCl u.2 t.heap ∧ va_D (va_A w sz) u.2) (va_A w sz)) mc ms (va_A w sz)
abbrev CiK (l : Launch) (K K2 : Cx) (y : MethodName) (ws : List Cond) (rm : Room) (mc ms : Nat) (av : List Value) (G : Nat → Nat) (w : va_W) (sz : Nat) (post : Int32 → (Nat → Nat) → va_W → Prop) : Prop :=
  Met l y ws rm (va_Pc av (fun U => U.heap.size = sz ∧ kW K w U)) (va_Qi (fun (r : Int32) (u : (Nat → Nat) × va_W) => post r u.1 u.2 ∧ gLe G u.1 ∧ TH K2 u.1 u.2) (fun u t => va_P K.1 vwCl u.2 t.heap ∧ va_D (va_A w sz) u.2) (va_A w sz)) mc ms (va_A w sz)
abbrev CvK (l : Launch) (K K2 : Cx) (y : MethodName) (ws : List Cond) (rm : Room) (mc ms : Nat) (av : List Value) (G : Nat → Nat) (w : va_W) (sz : Nat) (post : (Nat → Nat) → va_W → Prop) : Prop :=
  Met l y ws rm (va_Pc av (fun U => U.heap.size = sz ∧ kW K w U)) (va_Qv (fun (u : (Nat → Nat) × va_W) => post u.1 u.2 ∧ gLe G u.1 ∧ TH K2 u.1 u.2) (fun u t => va_P K.1 vwCl u.2 t.heap ∧ va_D (va_A w sz) u.2) (va_A w sz)) mc ms (va_A w sz)
abbrev Ri (l : Launch) (K : Cx) (y : MethodName) (ws : List Cond) (rm : Room) (av : List Value) (w : va_W) (post : Int32 → Prop) : Prop :=
  Met l y ws rm (va_Pc av (fun U => kW K w U)) (va_Qi (fun (r : Int32) (_ : Unit) => post r) (fun _ _ => True) (fun _ => False)) 0 0 (fun _ => False)
abbrev Rl (l : Launch) (K : Cx) (y : MethodName) (ws : List Cond) (rm : Room) (av : List Value) (w : va_W) (post : Int64 → Prop) : Prop :=
  Met l y ws rm (va_Pc av (fun U => kW K w U)) (va_Ql (fun (r : Int64) (_ : Unit) => post r) (fun _ _ => True) (fun _ => False)) 0 0 (fun _ => False)
abbrev Pi_ (l : Launch) (y : MethodName) (ws : List Cond) (rm : Room) (av : List Value) (post : Int32 → Prop) : Prop :=
  Met l y ws rm (va_Pc av (fun _ => True)) (va_Qi (fun (r : Int32) (_ : Unit) => post r) (fun _ _ => True) (fun _ => False)) 0 0 (fun _ => False)
abbrev Pl_ (l : Launch) (y : MethodName) (ws : List Cond) (rm : Room) (av : List Value) (post : Int64 → Prop) : Prop :=
  Met l y ws rm (va_Pc av (fun _ => True)) (va_Ql (fun (r : Int64) (_ : Unit) => post r) (fun _ _ => True) (fun _ => False)) 0 0 (fun _ => False)
section CALLS
variable {p : Program} {l : Launch} {e : Env} {R : Room} {s : State} {m : MethodId} {args : Array Value} {below : List Frame} {meth : Method} {c : Code} {H H0 : Heap} {locs : List Loc} {cells slots : Nat} {Q : State → Prop}
variable {pc : Nat} {ls : Array Slot} {rest st0 : List Value} {a : Array Value} {A : Nat → Prop} {mc ms : Nat} {K : Cx} {G : Nat → Nat} {w : va_W}
theorem c_i {K2 : Cx} {post : Int32 → (Nat → Nat) → va_W → Prop} (hr : va_Run p l e R s m args below meth c H locs cells slots mc ms (F0 m pc ls st0) rest (va_Qi (fun (r : Int32) (u : (Nat → Nat) × va_W) => post r u.1 u.2 ∧ gLe G u.1 ∧ TH K2 u.1 u.2) (fun u t => va_P K.1 vwCl u.2 t.heap ∧ va_D (va_A w H.size) u.2) (va_A w H.size) a) (va_A w H.size)) (hD : va_D A w) (hS : va_S A H0 H locs) (hA : ∀ q, H0.size ≤ q → A q)
    (kk : ∀ (r : Int32) (G1 : Nat → Nat) (w1 : va_W) (H1 : Heap) (locs1 : List Loc), post r G1 w1 → gLe G G1 → TH K2 G1 w1 → va_P K.1 vwCl w1 H1 → va_D A w1 → va_S A H0 H1 locs1 → W p l e R s m args below meth c H1 locs1 (cells + mc) (slots + ms) Q (F0 m (pc + 3) ls (.int r :: rest))) : W p l e R s m args below meth c H locs cells slots Q (F0 m pc ls st0) := by
  have hF := kFree hD hS hA
  refine va_calli hr hS (fun q _ h => hF q h) hF (fun r u t H1 locs1 ht hvm hp hB hz hk hS1 => ?_)
  exact kk r u.1 u.2 H1 locs1 hp.1 hp.2.1 hp.2.2 (by rw [← ht]; exact hB.1) (hB.2.weaken (fun _ q _ h => hF q.1 h)) hS1
theorem c_v {K2 : Cx} {post : (Nat → Nat) → va_W → Prop} (hr : va_Run p l e R s m args below meth c H locs cells slots mc ms (F0 m pc ls st0) rest (va_Qv (fun (u : (Nat → Nat) × va_W) => post u.1 u.2 ∧ gLe G u.1 ∧ TH K2 u.1 u.2) (fun u t => va_P K.1 vwCl u.2 t.heap ∧ va_D (va_A w H.size) u.2) (va_A w H.size) a) (va_A w H.size)) (hD : va_D A w) (hS : va_S A H0 H locs) (hA : ∀ q, H0.size ≤ q → A q)
    (kk : ∀ (G1 : Nat → Nat) (w1 : va_W) (H1 : Heap) (locs1 : List Loc), post G1 w1 → gLe G G1 → TH K2 G1 w1 → va_P K.1 vwCl w1 H1 → va_D A w1 → va_S A H0 H1 locs1 → W p l e R s m args below meth c H1 locs1 (cells + mc) (slots + ms) Q (F0 m (pc + 3) ls rest)) : W p l e R s m args below meth c H locs cells slots Q (F0 m pc ls st0) := by
  have hF := kFree hD hS hA
  refine va_callv hr hS (fun q _ h => hF q h) hF (fun u t H1 locs1 ht hvm hp hB hz hk hS1 => ?_)
  exact kk u.1 u.2 H1 locs1 hp.1 hp.2.1 hp.2.2 (by rw [← ht]; exact hB.1) (hB.2.weaken (fun _ q _ h => hF q.1 h)) hS1
theorem r_i {post : Int32 → Prop} (hr : va_Run p l e R s m args below meth c H locs cells slots 0 0 (F0 m pc ls st0) rest (va_Qi (fun (r : Int32) (_ : Unit) => post r) (fun _ _ => True) (fun _ => False) a) (fun _ => False)) (hP : va_P K.1 vwCl w H) (hS : va_S A H0 H locs)
    (kk : ∀ (r : Int32) (H1 : Heap) (locs1 : List Loc), post r → va_P K.1 vwCl w H1 → va_S A H0 H1 locs1 → W p l e R s m args below meth c H1 locs1 cells slots Q (F0 m (pc + 3) ls (.int r :: rest))) : W p l e R s m args below meth c H locs cells slots Q (F0 m pc ls st0) :=
  va_calli hr hS (fun _ _ h => h.elim) (fun _ h => h.elim) (fun r _ _ H1 locs1 _ _ hp _ _ hk hS1 => kk r H1 locs1 hp (hP.kept (fun k q hq => hk q.1 (hP k q hq).lt (fun h => h))) hS1)
theorem r_l {post : Int64 → Prop} (hr : va_Run p l e R s m args below meth c H locs cells slots 0 0 (F0 m pc ls st0) rest (va_Ql (fun (r : Int64) (_ : Unit) => post r) (fun _ _ => True) (fun _ => False) a) (fun _ => False)) (hP : va_P K.1 vwCl w H) (hS : va_S A H0 H locs)
    (kk : ∀ (r : Int64) (H1 : Heap) (locs1 : List Loc), post r → va_P K.1 vwCl w H1 → va_S A H0 H1 locs1 → W p l e R s m args below meth c H1 locs1 cells slots Q (F0 m (pc + 3) ls (.long r :: rest))) : W p l e R s m args below meth c H locs cells slots Q (F0 m pc ls st0) :=
  va_calll hr hS (fun _ _ h => h.elim) (fun _ h => h.elim) (fun r _ _ H1 locs1 _ _ hp _ _ hk hS1 => kk r H1 locs1 hp (hP.kept (fun k q hq => hk q.1 (hP k q hq).lt (fun h => h))) hS1)
theorem p_i {post : Int32 → Prop} (hr : va_Run p l e R s m args below meth c H locs cells slots 0 0 (F0 m pc ls st0) rest (va_Qi (fun (r : Int32) (_ : Unit) => post r) (fun _ _ => True) (fun _ => False) a) (fun _ => False)) (hS : va_S A H0 H locs)
    (kk : ∀ (r : Int32) (H1 : Heap) (locs1 : List Loc), post r → va_S A H0 H1 locs1 → W p l e R s m args below meth c H1 locs1 cells slots Q (F0 m (pc + 3) ls (.int r :: rest))) : W p l e R s m args below meth c H locs cells slots Q (F0 m pc ls st0) :=
  va_calli hr hS (fun _ _ h => h.elim) (fun _ h => h.elim) (fun r _ _ H1 locs1 _ _ hp _ _ _ hS1 => kk r H1 locs1 hp hS1)
theorem p_l {post : Int64 → Prop} (hr : va_Run p l e R s m args below meth c H locs cells slots 0 0 (F0 m pc ls st0) rest (va_Ql (fun (r : Int64) (_ : Unit) => post r) (fun _ _ => True) (fun _ => False) a) (fun _ => False)) (hS : va_S A H0 H locs)
    (kk : ∀ (r : Int64) (H1 : Heap) (locs1 : List Loc), post r → va_S A H0 H1 locs1 → W p l e R s m args below meth c H1 locs1 cells slots Q (F0 m (pc + 3) ls (.long r :: rest))) : W p l e R s m args below meth c H locs cells slots Q (F0 m pc ls st0) :=
  va_calll hr hS (fun _ _ h => h.elim) (fun _ h => h.elim) (fun r _ _ H1 locs1 _ _ hp _ _ _ hS1 => kk r H1 locs1 hp hS1)
end CALLS
section TST
variable {p : Program} {l : Launch} {e : Env} {R : Room} {s : State} {m : MethodId} {args : Array Value} {below : List Frame} {meth : Method} {c : Code} {H H0 : Heap} {locs : List Loc} {cells slots : Nat} {Q : State → Prop}
variable {cc : ByteArray} {pc : Nat} {ls : Array Slot} {rest : List Value} {A : Nat → Prop} {a : Nat} {K : Cx} {G : Nat → Nat} {w : va_W}
/-- an int into a row of ints, by its kind -/
theorem t_iast (hexec : p.tables.exec = Jvm.exec) (hb : c.code = cc) (hK : va_K K.1 vwCl (tyL K) s) (hP : va_P K.1 vwCl w H) (hD : va_D A w) (hS : va_S A H0 H locs) (hT : TH K G w) {kd n : Nat} (ha : G a = kd) (hn : iaLen kd = some n) {i x : Int32} (hin : vp_in i n) (hdg : decode cc pc = .ok (.iastore, 1))
    (kk : ∀ (w1 : va_W) (H1 : Heap) (locs1 : List Loc), TH K G w1 → va_P K.1 vwCl w1 H1 → va_D A w1 → va_S A H0 H1 locs1 → (∀ (j b : Nat) (o : Nat × List Value), w[j]? = some (b, .inr o) → w1[j]? = some (b, .inr o)) → W p l e R s m args below meth c H1 locs1 cells slots Q (F0 m (pc + 1) ls rest)) : W p l e R s m args below meth c H locs cells slots Q (F0 m pc ls (.int x :: .int i :: .ref a :: rest)) := by
  obtain ⟨k, f, hk⟩ := hT.ia ha hn
  exact va_iast hexec hb hK hP hD hS k 0 hk rfl hin hdg (fun H1 locs1 h1 h2 h3 => kk _ H1 locs1 (hT.set hk (fun _ => by rw [ha]; exact okE.ia hn _)) h1 h2 h3 (fun j b o hj => tw_setne hj (fun q => by subst q; rw [hk] at hj; cases hj)))
/-- an int out of a row of ints, by its kind -/
theorem t_iald (hexec : p.tables.exec = Jvm.exec) (hb : c.code = cc) (hK : va_K K.1 vwCl (tyL K) s) (hP : va_P K.1 vwCl w H) (hT : TH K G w) {kd n : Nat} (ha : G a = kd) (hn : iaLen kd = some n) {i : Int32} (hin : vp_in i n) (hdg : decode cc pc = .ok (.iaload, 1))
    (kk : ∀ x : Int32, W p l e R s m args below meth c H locs cells slots Q (F0 m (pc + 1) ls (.int x :: rest))) : W p l e R s m args below meth c H locs cells slots Q (F0 m pc ls (.int i :: .ref a :: rest)) := by
  obtain ⟨k, f, hk⟩ := hT.ia ha hn
  exact va_iald hexec hb hK hP k 0 hk rfl hin hdg (kk _)
/-- out of the rows that hold what was SEEN -/
theorem t_iald8 (hexec : p.tables.exec = Jvm.exec) (hb : c.code = cc) (hK : va_K K.1 vwCl (tyL K) s) (hP : va_P K.1 vwCl w H) (hT : TH K G w) (ha : G a = 8) {i : Int32} (hin : vp_in i 6) (hdg : decode cc pc = .ok (.iaload, 1))
    (kk : W p l e R s m args below meth c H locs cells slots Q (F0 m (pc + 1) ls (.int ((snK K).2.1 i.toNatClampNeg) :: rest))) : W p l e R s m args below meth c H locs cells slots Q (F0 m pc ls (.int i :: .ref a :: rest)) := by
  obtain ⟨k, hk⟩ := hT.k8 ha
  exact va_iald hexec hb hK hP k 0 hk rfl hin hdg kk
theorem t_iald13 (hexec : p.tables.exec = Jvm.exec) (hb : c.code = cc) (hK : va_K K.1 vwCl (tyL K) s) (hP : va_P K.1 vwCl w H) (hT : TH K G w) (ha : G a = 13) {i : Int32} (hin : vp_in i 6) (hdg : decode cc pc = .ok (.iaload, 1))
    (kk : W p l e R s m args below meth c H locs cells slots Q (F0 m (pc + 1) ls (.int ((snK K).2.2 i.toNatClampNeg) :: rest))) : W p l e R s m args below meth c H locs cells slots Q (F0 m pc ls (.int i :: .ref a :: rest)) := by
  obtain ⟨k, hk⟩ := hT.k13 ha
  exact va_iald hexec hb hK hP k 0 hk rfl hin hdg kk
theorem t_iast8 (hexec : p.tables.exec = Jvm.exec) (hb : c.code = cc) (hK : va_K K.1 vwCl (tyL K) s) (hP : va_P K.1 vwCl w H) (hD : va_D A w) (hS : va_S A H0 H locs) (hT : TH K G w) (ha : G a = 8) {i x : Int32} (hin : vp_in i 6) (hn : okN (snK K) → okN ((snK K).1, upd (snK K).2.1 i.toNatClampNeg x, (snK K).2.2)) (hdg : decode cc pc = .ok (.iastore, 1))
    (kk : ∀ (w1 : va_W) (H1 : Heap) (locs1 : List Loc), TH (Kw K ((snK K).1, upd (snK K).2.1 i.toNatClampNeg x, (snK K).2.2)) G w1 → va_P K.1 vwCl w1 H1 → va_D A w1 → va_S A H0 H1 locs1 → (∀ (j b : Nat) (o : Nat × List Value), w[j]? = some (b, .inr o) → w1[j]? = some (b, .inr o)) → W p l e R s m args below meth c H1 locs1 cells slots Q (F0 m (pc + 1) ls rest)) : W p l e R s m args below meth c H locs cells slots Q (F0 m pc ls (.int x :: .int i :: .ref a :: rest)) := by
  obtain ⟨k, hk⟩ := hT.k8 ha
  obtain ⟨j8, e8, hj8, ho8⟩ := hT.2 a (by rw [ha]; decide)
  rw [ha] at ho8
  exact va_iast hexec hb hK hP hD hS k 0 hk rfl hin hdg (fun H1 locs1 h1 h2 h3 => kk _ H1 locs1 (hT.wr ha (Or.inr (Or.inl rfl)) hk hn (fun _ => rfl) (fun q => absurd rfl q) (fun _ => rfl) ⟨rfl, hn ho8.2⟩) h1 h2 h3 (fun j b o hj => tw_setne hj (fun q => by subst q; rw [hk] at hj; cases hj)))
theorem t_iast13 (hexec : p.tables.exec = Jvm.exec) (hb : c.code = cc) (hK : va_K K.1 vwCl (tyL K) s) (hP : va_P K.1 vwCl w H) (hD : va_D A w) (hS : va_S A H0 H locs) (hT : TH K G w) (ha : G a = 13) {i x : Int32} (hin : vp_in i 6) (hn : okN (snK K) → okN ((snK K).1, (snK K).2.1, upd (snK K).2.2 i.toNatClampNeg x)) (hdg : decode cc pc = .ok (.iastore, 1))
    (kk : ∀ (w1 : va_W) (H1 : Heap) (locs1 : List Loc), TH (Kw K ((snK K).1, (snK K).2.1, upd (snK K).2.2 i.toNatClampNeg x)) G w1 → va_P K.1 vwCl w1 H1 → va_D A w1 → va_S A H0 H1 locs1 → (∀ (j b : Nat) (o : Nat × List Value), w[j]? = some (b, .inr o) → w1[j]? = some (b, .inr o)) → W p l e R s m args below meth c H1 locs1 cells slots Q (F0 m (pc + 1) ls rest)) : W p l e R s m args below meth c H locs cells slots Q (F0 m pc ls (.int x :: .int i :: .ref a :: rest)) := by
  obtain ⟨k, hk⟩ := hT.k13 ha
  obtain ⟨j8, e8, hj8, ho8⟩ := hT.2 a (by rw [ha]; decide)
  rw [ha] at ho8
  exact va_iast hexec hb hK hP hD hS k 0 hk rfl hin hdg (fun H1 locs1 h1 h2 h3 => kk _ H1 locs1 (hT.wr ha (Or.inr (Or.inr rfl)) hk hn (fun _ => rfl) (fun _ => rfl) (fun q => absurd rfl q) ⟨rfl, hn ho8.2⟩) h1 h2 h3 (fun j b o hj => tw_setne hj (fun q => by subst q; rw [hk] at hj; cases hj)))
/-- an int row of which the cell is known -/
theorem t_ialdK (hexec : p.tables.exec = Jvm.exec) (hb : c.code = cc) (hK : va_K K.1 vwCl (tyL K) s) (hP : va_P K.1 vwCl w H) {k n : Nat} {f : Nat → Int32} (hk : w[k]? = some (a, .inl (K.2.1, n, .inl f))) {i : Int32} (hin : vp_in i n) (hdg : decode cc pc = .ok (.iaload, 1))
    (kk : W p l e R s m args below meth c H locs cells slots Q (F0 m (pc + 1) ls (.int (f i.toNatClampNeg) :: rest))) : W p l e R s m args below meth c H locs cells slots Q (F0 m pc ls (.int i :: .ref a :: rest)) :=
  va_iald hexec hb hK hP k 0 hk rfl hin hdg kk
theorem t_iastK (hexec : p.tables.exec = Jvm.exec) (hb : c.code = cc) (hK : va_K K.1 vwCl (tyL K) s) (hP : va_P K.1 vwCl w H) (hD : va_D A w) (hS : va_S A H0 H locs) (hT : TH K G w) {kd n k : Nat} {f : Nat → Int32} (ha : G a = kd) (hn : iaLen kd = some n) (hk : w[k]? = some (a, .inl (K.2.1, n, .inl f))) {i x : Int32} (hin : vp_in i n) (hdg : decode cc pc = .ok (.iastore, 1))
    (kk : ∀ (w1 : va_W) (H1 : Heap) (locs1 : List Loc), TH K G w1 → va_P K.1 vwCl w1 H1 → va_D A w1 → va_S A H0 H1 locs1 → (∀ (j b : Nat) (o : Nat × List Value), w[j]? = some (b, .inr o) → w1[j]? = some (b, .inr o)) → w1[k]? = some (a, .inl (K.2.1, n, .inl (upd f i.toNatClampNeg x))) → W p l e R s m args below meth c H1 locs1 cells slots Q (F0 m (pc + 1) ls rest)) : W p l e R s m args below meth c H locs cells slots Q (F0 m pc ls (.int x :: .int i :: .ref a :: rest)) :=
  va_iast hexec hb hK hP hD hS k 0 hk rfl hin hdg (fun H1 locs1 h1 h2 h3 => kk _ H1 locs1 (hT.set hk (fun _ => by rw [ha]; exact okE.ia hn _)) h1 h2 h3 (fun j b o hj => tw_setne hj (fun q => by subst q; rw [hk] at hj; cases hj)) (tw_set hk))
theorem t_alen (hexec : p.tables.exec = Jvm.exec) (hb : c.code = cc) (hK : va_K K.1 vwCl (tyL K) s) (hP : va_P K.1 vwCl w H) (hT : TH K G w) {kd n : Nat} (ha : G a = kd) (hn : iaLen kd = some n) {v : Int32} (hv : Int32.ofNat n = v) (hdg : decode cc pc = .ok (.arraylength, 1))
    (kk : W p l e R s m args below meth c H locs cells slots Q (F0 m (pc + 1) ls (.int v :: rest))) : W p l e R s m args below meth c H locs cells slots Q (F0 m pc ls (.ref a :: rest)) := by
  obtain ⟨k, f, hk⟩ := hT.ia ha hn
  exact va_alen hexec hb hK hP k 0 hk (ty := .int) rfl hv hdg kk
/-- a Code, or null, out of a row of Codes -/
theorem t_aald (hexec : p.tables.exec = Jvm.exec) (hb : c.code = cc) (hK : va_K K.1 vwCl (tyL K) s) (hP : va_P K.1 vwCl w H) (hT : TH K G w) {kd n : Nat} (ha : G a = kd) (hn : raLen kd = some n) {i : Int32} (hin : vp_in i n) (hdg : decode cc pc = .ok (.aaload, 1))
    (kn : W p l e R s m args below meth c H locs cells slots Q (F0 m (pc + 1) ls (.null :: rest))) (kk : ∀ q : Nat, G q = 3 → W p l e R s m args below meth c H locs cells slots Q (F0 m (pc + 1) ls (.ref q :: rest))) : W p l e R s m args below meth c H locs cells slots Q (F0 m pc ls (.int i :: .ref a :: rest)) := by
  obtain ⟨k, f, hk, h3⟩ := hT.ra ha hn
  refine va_aldq hexec hb hK hP k 3 hk rfl hin hdg ?_
  cases hf : f i.toNatClampNeg with
  | none => exact kn
  | some q => exact kk q (h3 _ q hf)
/-- a Code into a row of Codes -/
theorem t_aast (hexec : p.tables.exec = Jvm.exec) (hb : c.code = cc) (hK : va_K K.1 vwCl (tyL K) s) (hP : va_P K.1 vwCl w H) (hD : va_D A w) (hS : va_S A H0 H locs) (hT : TH K G w) {kd n v : Nat} (ha : G a = kd) (hn : raLen kd = some n) (hv : G v = 3) {i : Int32} (hin : vp_in i n) (hdg : decode cc pc = .ok (.aastore, 1))
    (kk : ∀ (w1 : va_W) (H1 : Heap) (locs1 : List Loc), TH K G w1 → va_P K.1 vwCl w1 H1 → va_D A w1 → va_S A H0 H1 locs1 → W p l e R s m args below meth c H1 locs1 cells slots Q (F0 m (pc + 1) ls rest)) : W p l e R s m args below meth c H locs cells slots Q (F0 m pc ls (.ref v :: .int i :: .ref a :: rest)) := by
  obtain ⟨k, f, hk, h3⟩ := hT.ra ha hn
  obtain ⟨kv, x, y, q, r, hkv, -⟩ := hT.k3 hv
  exact va_astq (r := (RX2, TX2, 4)) hexec hb hK hP hD hS k 3 kv 2 hk rfl hkv rfl hin hdg (fun H1 locs1 h1 h2 h4 => kk _ H1 locs1 (hT.set hk (fun _ => by
    rw [ha]
    refine okE.ra hn _ (fun j q hq => ?_)
    by_cases hj : j = i.toNatClampNeg
    · subst hj
      rw [va_up_self] at hq
      cases hq
      exact hv
    · rw [va_up_ne _ _ hj] at hq
      exact h3 j q hq)) h1 h2 h4)
end TST

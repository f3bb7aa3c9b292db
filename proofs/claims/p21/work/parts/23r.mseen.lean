theorem okZ.bad {K : Cx} {sm : Int32} {w f : Nat → Int32} {p1 p2 : Int32} (h : okZ K sm w f) (hf : ¬ isSe p1 p2) : okZ (Kw K (seN (snK K) p1 p2)) sm w f := by
  unfold seN
  rw [if_neg hf]
  exact h
theorem okZ.full {K : Cx} {sm : Int32} {w f : Nat → Int32} {p1 p2 : Int32} (h : okZ K sm w f) (hf : isSe p1 p2) (hl : ¬ (snK K).1.toInt < 6) : okZ (Kw K (seN (snK K) p1 p2)) sm w f := by
  unfold seN noN
  rw [if_pos hf, if_neg hl]
  exact h
theorem okZ.more {K : Cx} {sm v : Int32} {w f w1 f1 : Nat → Int32} {p1 p2 : Int32} (h : okZ K sm w f) (hf : isSe p1 p2) (hl : (snK K).1.toInt < 6) (e1 : upd w sm.toNatClampNeg p1 = w1) (e2 : upd f sm.toNatClampNeg p2 = f1) (e3 : v = sm + 1) : okZ (Kw K (seN (snK K) p1 p2)) v w1 f1 := by
  obtain ⟨h1, h2, h3, h4⟩ := h
  subst h1
  subst h2
  subst h3
  subst e1
  subst e2
  subst e3
  unfold seN noN
  rw [if_pos hf, if_pos hl]
  exact ⟨rfl, rfl, rfl, okN.w3 h4 hl hf.1.1 hf.1.2 hf.bit⟩

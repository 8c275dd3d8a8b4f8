/-! what class and reference have in common between calls -/
def pz_sc (x y : ax_S) : Prop := x.1 0 8 = y.1 0 0 ∧ x.1 0 9 = y.1 0 14 ∧ x.1 0 10 = y.1 0 1 ∧ x.1 0 11 = y.1 0 41 ∧ x.1 3 3 = y.1 0 2 ∧ x.1 2 7 = y.1 0 6 ∧ x.1 7 1 = y.1 0 30
def pz_ar (x y : ax_S) : Prop := x.1 26 = y.1 1 ∧ x.1 27 = y.1 2 ∧ x.1 28 = y.1 3 ∧ x.1 19 = y.1 4 ∧ x.1 20 = y.1 5 ∧ x.1 21 = y.1 6 ∧ x.1 22 = y.1 7 ∧ x.1 23 = y.1 8 ∧ x.1 24 = y.1 9 ∧ x.1 25 = y.1 10 ∧ x.1 36 = y.1 21 ∧ x.1 38 = y.1 24 ∧ x.1 39 = y.1 25
def pz_sh (x y : ax_S) : Prop := ∀ s : Nat, s < 4 → ((y.1 22 s = 0 ∧ x.1 37 s = -1) ∨ (y.1 22 s = 1 ∧ x.1 37 s = y.1 23 s ∧ 0 ≤ (y.1 23 s).toInt ∧ (y.1 23 s).toInt ≤ 2)) ∧ 0 ≤ (y.1 24 s).toInt ∧ (y.1 24 s).toInt ≤ 40
def pz_nu (y : ax_S) : Prop := 0 ≤ (y.1 0 0).toInt ∧ (y.1 0 0).toInt ≤ 399 ∧ -1 ≤ (y.1 0 14).toInt ∧ (y.1 0 14).toInt ≤ (y.1 0 0).toInt ∧ 0 ≤ (y.1 0 1).toInt ∧ (y.1 0 1).toInt ≤ 12 ∧ 0 ≤ (y.1 0 2).toInt ∧ (y.1 0 2).toInt ≤ 6 ∧ 0 ≤ (y.1 0 6).toInt ∧ (y.1 0 6).toInt ≤ 40 ∧ 0 ≤ (y.1 0 30).toInt ∧ (y.1 0 30).toInt ≤ 40
def pz_bk (y : ax_S) : Prop := ∀ b : Nat, (b : Int) < (y.1 0 2).toInt → -1000 ≤ (y.1 1 b).toInt ∧ (y.1 1 b).toInt ≤ (y.1 2 b).toInt ∧ (y.1 2 b).toInt ≤ 1000 ∧ 1 ≤ (y.1 3 b).toInt ∧ (y.1 3 b).toInt ≤ 9
def pz_rw (y : ax_S) : Prop := ∀ r : Nat, (r : Int) < (y.1 0 6).toInt → 0 ≤ (y.1 4 r).toInt ∧ (y.1 4 r).toInt < (y.1 0 2).toInt ∧ 0 ≤ (y.1 5 r).toInt ∧ (y.1 5 r).toInt < (y.1 0 1).toInt ∧
  (((y.1 6 r).toInt = -1 ∧ -200000 ≤ (y.1 7 r).toInt ∧ (y.1 7 r).toInt ≤ (y.1 8 r).toInt ∧ (y.1 8 r).toInt ≤ 200000) ∨ (0 ≤ (y.1 6 r).toInt ∧ (y.1 6 r).toInt < (y.1 0 1).toInt ∧ (y.1 6 r).toInt ≠ (y.1 5 r).toInt ∧ -100000 ≤ (y.1 7 r).toInt ∧ (y.1 7 r).toInt ≤ (y.1 8 r).toInt ∧ (y.1 8 r).toInt ≤ 100000)) ∧
  0 ≤ (y.1 9 r).toInt ∧ (y.1 9 r).toInt ≤ (y.1 0 0).toInt ∧ ((y.1 10 r).toInt = -1 ∨ ((y.1 9 r).toInt ≤ (y.1 10 r).toInt ∧ (y.1 10 r).toInt ≤ (y.1 0 0).toInt))
def pz_tx (y : ax_S) : Prop := ∀ k : Nat, (k : Int) < (y.1 0 30).toInt → 0 ≤ (y.1 21 k).toInt ∧ (y.1 21 k).toInt ≤ 255
def pz_I (x y : ax_S) : Prop := pz_sc x y ∧ pz_ar x y ∧ pz_sh x y ∧ pz_nu y ∧ pz_bk y ∧ pz_rw y ∧ pz_tx y
/-- only scratch has changed -/
def pz_eC (x x' : ax_S) : Prop := x'.1 0 = x.1 0 ∧ x'.1 2 = x.1 2 ∧ x'.1 3 = x.1 3 ∧ x'.1 7 1 = x.1 7 1 ∧ (∀ k : Nat, 19 ≤ k → k ≤ 28 → x'.1 k = x.1 k) ∧ (∀ k : Nat, 36 ≤ k → k ≤ 39 → x'.1 k = x.1 k)
def pz_eR (y y' : ax_S) : Prop := (y'.1 0 0 = y.1 0 0 ∧ y'.1 0 1 = y.1 0 1 ∧ y'.1 0 2 = y.1 0 2 ∧ y'.1 0 6 = y.1 0 6 ∧ y'.1 0 14 = y.1 0 14 ∧ y'.1 0 30 = y.1 0 30 ∧ y'.1 0 41 = y.1 0 41) ∧ (∀ k : Nat, 1 ≤ k → k ≤ 10 → y'.1 k = y.1 k) ∧ (∀ k : Nat, 21 ≤ k → k ≤ 25 → y'.1 k = y.1 k)
theorem pz_eC_rf (x : ax_S) : pz_eC x x := ⟨rfl, rfl, rfl, rfl, fun _ _ _ => rfl, fun _ _ _ => rfl⟩
theorem pz_eR_rf (y : ax_S) : pz_eR y y := ⟨⟨rfl, rfl, rfl, rfl, rfl, rfl, rfl⟩, fun _ _ _ => rfl, fun _ _ _ => rfl⟩
theorem pz_eC_tr {a b c : ax_S} (h : pz_eC a b) (h' : pz_eC b c) : pz_eC a c := ⟨h'.1.trans h.1, h'.2.1.trans h.2.1, h'.2.2.1.trans h.2.2.1, h'.2.2.2.1.trans h.2.2.2.1, fun k h1 h2 => (h'.2.2.2.2.1 k h1 h2).trans (h.2.2.2.2.1 k h1 h2), fun k h1 h2 => (h'.2.2.2.2.2 k h1 h2).trans (h.2.2.2.2.2 k h1 h2)⟩
theorem pz_eR_tr {a b c : ax_S} (h : pz_eR a b) (h' : pz_eR b c) : pz_eR a c := by
  obtain ⟨⟨a1, a2, a3, a4, a5, a6, a7⟩, a8, a9⟩ := h
  obtain ⟨⟨b1, b2, b3, b4, b5, b6, b7⟩, b8, b9⟩ := h'
  exact ⟨⟨b1.trans a1, b2.trans a2, b3.trans a3, b4.trans a4, b5.trans a5, b6.trans a6, b7.trans a7⟩, fun k h1 h2 => (b8 k h1 h2).trans (a8 k h1 h2), fun k h1 h2 => (b9 k h1 h2).trans (a9 k h1 h2)⟩
theorem pz_fr {x y x' y' : ax_S} (h : pz_I x y) (hx : pz_eC x x') (hy : pz_eR y y') : pz_I x' y' := by
  obtain ⟨⟨s1, s2, s3, s4, s5, s6, s7⟩, ⟨a1, a2, a3, a4, a5, a6, a7, a8, a9, a10, a11, a12, a13⟩, hsh, hnu, hbk, hrw, htx⟩ := h
  obtain ⟨x0, x2, x3, x7, x19, x36⟩ := hx
  obtain ⟨⟨y0, y1, y2, y6, y14, y30, y41⟩, z1, z21⟩ := hy
  have r19 := x19 19 (by omega) (by omega)
  have r20 := x19 20 (by omega) (by omega)
  have r21 := x19 21 (by omega) (by omega)
  have r22 := x19 22 (by omega) (by omega)
  have r23 := x19 23 (by omega) (by omega)
  have r24 := x19 24 (by omega) (by omega)
  have r25 := x19 25 (by omega) (by omega)
  have r26 := x19 26 (by omega) (by omega)
  have r27 := x19 27 (by omega) (by omega)
  have r28 := x19 28 (by omega) (by omega)
  have r36 := x36 36 (by omega) (by omega)
  have r37 := x36 37 (by omega) (by omega)
  have r38 := x36 38 (by omega) (by omega)
  have r39 := x36 39 (by omega) (by omega)
  have q1 := z1 1 (by omega) (by omega)
  have q2 := z1 2 (by omega) (by omega)
  have q3 := z1 3 (by omega) (by omega)
  have q4 := z1 4 (by omega) (by omega)
  have q5 := z1 5 (by omega) (by omega)
  have q6 := z1 6 (by omega) (by omega)
  have q7 := z1 7 (by omega) (by omega)
  have q8 := z1 8 (by omega) (by omega)
  have q9 := z1 9 (by omega) (by omega)
  have q10 := z1 10 (by omega) (by omega)
  have q21 := z21 21 (by omega) (by omega)
  have q22 := z21 22 (by omega) (by omega)
  have q23 := z21 23 (by omega) (by omega)
  have q24 := z21 24 (by omega) (by omega)
  have q25 := z21 25 (by omega) (by omega)
  refine ⟨?_, ?_, ?_, ?_, ?_, ?_, ?_⟩
  · unfold pz_sc
    rw [x0, x2, x3, x7, y0, y1, y2, y6, y14, y30, y41]
    exact ⟨s1, s2, s3, s4, s5, s6, s7⟩
  · unfold pz_ar
    rw [r19, r20, r21, r22, r23, r24, r25, r26, r27, r28, r36, r38, r39, q1, q2, q3, q4, q5, q6, q7, q8, q9, q10, q21, q24, q25]
    exact ⟨a1, a2, a3, a4, a5, a6, a7, a8, a9, a10, a11, a12, a13⟩
  · unfold pz_sh
    rw [r37, q22, q23, q24]
    exact hsh
  · unfold pz_nu
    rw [y0, y1, y2, y6, y14, y30]
    exact hnu
  · unfold pz_bk
    rw [y2, q1, q2, q3]
    exact hbk
  · unfold pz_rw
    rw [y0, y1, y2, y6, q4, q5, q6, q7, q8, q9, q10]
    exact hrw
  · unfold pz_tx
    rw [y30, q21]
    exact htx
theorem pz_0 : pz_I s0_X9 s0_X10 := by
  refine ⟨?_, ?_, ?_, ?_, ?_, ?_, ?_⟩
  · unfold pz_sc; decide
  · exact ⟨rfl, rfl, rfl, rfl, rfl, rfl, rfl, rfl, rfl, rfl, rfl, rfl, rfl⟩
  · intro s hs
    rcases (show s = 0 ∨ s = 1 ∨ s = 2 ∨ s = 3 by omega) with rfl | rfl | rfl | rfl <;> exact ⟨Or.inl (by decide), by decide⟩
  · unfold pz_nu; decide
  · intro b hb
    have : (s0_X10.1 0 2).toInt = 0 := by decide
    omega
  · intro b hb
    have : (s0_X10.1 0 6).toInt = 0 := by decide
    omega
  · intro b hb
    have : (s0_X10.1 0 30).toInt = 0 := by decide
    omega

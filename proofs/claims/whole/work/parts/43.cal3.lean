theorem pz_isOne (c : Int32) : f_X1_isOne c = some (if 0 ≤ c.toInt ∧ c.toInt ≤ 1 then 1 else 0) := by
  unfold f_X1_isOne
  simp only [z_eq, Int32.reduceToInt]
  by_cases h1 : c.toInt = 0
  · rw [if_pos h1, if_pos (by omega)]
  · rw [if_neg h1]
    by_cases h2 : c.toInt = 1
    · rw [if_pos h2, if_pos (by omega)]
    · rw [if_neg h2, if_neg (by omega)]
theorem pz_inOne (c : Int32) : f_X10_in c 0 1 = some (if 0 ≤ c.toInt ∧ c.toInt ≤ 1 then 1 else 0) := by
  rw [pz_in]
  rfl
/-- how many days a month has -/
def pz_md (c m y : Int) : Int := pz_ml m + (if m = 2 then pz_l1 c y else 0)
theorem pz_isDate (c d m y : Int32) (s : ax_S) : f_X1_isDate c d m y s = some (if (1 ≤ y.toInt ∧ y.toInt ≤ 600) ∧ (1 ≤ m.toInt ∧ m.toInt ≤ 12) ∧ (1 ≤ d.toInt ∧ d.toInt ≤ pz_md c.toInt m.toInt y.toInt) then 1 else 0) := by
  unfold f_X1_isDate
  simp only [z_lt, z_le, show (1 : Int32).toInt = 1 from rfl, show (600 : Int32).toInt = 600 from by decide, show (12 : Int32).toInt = 12 from by decide]
  by_cases h1 : y.toInt < 1
  · rw [if_pos h1, if_neg (by omega)]
  rw [if_neg h1]
  by_cases h2 : 600 < y.toInt
  · rw [if_pos h2, if_neg (by omega)]
  rw [if_neg h2]
  by_cases h3 : m.toInt < 1
  · rw [if_pos h3, if_neg (by omega)]
  rw [if_neg h3]
  by_cases h4 : m.toInt ≤ 12
  case neg => rw [if_neg h4, if_neg (by omega)]
  rw [if_pos h4]
  obtain ⟨v, e1, e2⟩ := pz_f0 (m := m) ⟨by omega, h4⟩
  have b : 28 ≤ v.toInt ∧ v.toInt ≤ 31 := by
    rw [e2]
    unfold pz_ml
    (repeat' split) <;> omega
  have key : ∀ k0 : Int32, 0 ≤ k0.toInt → k0.toInt ≤ 1 → j_X1_isDate_43 d m k0 s = some (if 1 ≤ d.toInt ∧ d.toInt ≤ pz_ml m.toInt + k0.toInt then 1 else 0) := by
    intro k0 q1 q2
    have t : (v + k0).toInt = v.toInt + k0.toInt := z_add (by omega) (by omega)
    unfold j_X1_isDate_43
    rw [e1]
    simp only [Option.bind_some, z_lt, show (1 : Int32).toInt = 1 from rfl, t, e2]
    by_cases g1 : d.toInt < 1
    · rw [if_pos g1, if_neg (by omega)]
    · rw [if_neg g1]
      by_cases g2 : pz_ml m.toInt + k0.toInt < d.toInt
      · rw [if_pos g2, if_neg (by omega)]
      · rw [if_neg g2, if_pos (by omega)]
  have fin : ∀ k0 : Int32, 0 ≤ k0.toInt → k0.toInt ≤ 1 → pz_md c.toInt m.toInt y.toInt = pz_ml m.toInt + k0.toInt → j_X1_isDate_43 d m k0 s = some (if (1 ≤ y.toInt ∧ y.toInt ≤ 600) ∧ (1 ≤ m.toInt ∧ m.toInt ≤ 12) ∧ (1 ≤ d.toInt ∧ d.toInt ≤ pz_md c.toInt m.toInt y.toInt) then 1 else 0) := by
    intro k0 q1 q2 q3
    rw [key k0 q1 q2, q3]
    by_cases g : 1 ≤ d.toInt ∧ d.toInt ≤ pz_ml m.toInt + k0.toInt
    · rw [if_pos g, if_pos ⟨by omega, by omega, g⟩]
    · rw [if_neg g, if_neg (fun q => g q.2.2)]
  unfold j_X1_isDate_42
  by_cases h5 : m = 2
  · have h5' : m.toInt = 2 := by rw [h5]; decide
    rw [if_pos h5, pz_leapC c y (by omega), Option.bind_some, pz_if0]
    by_cases h6 : pz_lp c.toInt y.toInt = true
    · rw [if_pos h6]
      exact fin 1 (by decide) (by decide) (by rw [pz_md, if_pos h5', pz_l1, if_pos h6]; rfl)
    · rw [if_neg h6]
      exact fin 0 (by decide) (by decide) (by rw [pz_md, if_pos h5', pz_l1, if_neg h6]; rfl)
  · have h5' : ¬ m.toInt = 2 := fun q => h5 (z_eq.mpr (by rw [q]; decide))
    rw [if_neg h5]
    exact fin 0 (by decide) (by decide) (by rw [pz_md, if_neg h5']; rfl)
theorem pz_md_b (c m y : Int) : 28 ≤ pz_md c m y ∧ pz_md c m y ≤ 32 := by
  have := pz_l1_b c y
  unfold pz_md pz_ml
  constructor <;> (repeat' split) <;> omega
theorem lq_dayOf_ok : lq_dayOf pz_I := by
  intro x y c d m z hI
  have o1 := pz_isOne c
  have o2 := pz_inOne c
  have dC := pz_isDate c d m z x
  have iy := pz_in z 1 600
  have im := pz_in m 1 12
  rw [show (1 : Int32).toInt = 1 from rfl, show (600 : Int32).toInt = 600 from by decide] at iy
  rw [show (1 : Int32).toInt = 1 from rfl, show (12 : Int32).toInt = 12 from by decide] at im
  by_cases h0 : 0 ≤ c.toInt ∧ c.toInt ≤ 1
  case neg =>
    rw [if_neg h0] at o1 o2
    exact ⟨-300000, by simp [f_X9_dayOf, o1], by simp [f_X10_dayOf, o2], hI⟩
  rw [if_pos h0] at o1 o2
  by_cases h1 : 1 ≤ z.toInt ∧ z.toInt ≤ 600
  case neg =>
    rw [if_neg (fun q => h1 q.1)] at dC
    rw [if_neg h1] at iy
    exact ⟨-300000, by simp [f_X9_dayOf, o1, dC], by simp [f_X10_dayOf, o2, iy], hI⟩
  rw [if_pos h1] at iy
  by_cases h2 : 1 ≤ m.toInt ∧ m.toInt ≤ 12
  case neg =>
    rw [if_neg (fun q => h2 q.2.1)] at dC
    rw [if_neg h2] at im
    exact ⟨-300000, by simp [f_X9_dayOf, o1, dC], by simp [f_X10_dayOf, o2, iy, im], hI⟩
  rw [if_pos h2] at im
  obtain ⟨v, e1, e2⟩ := pz_daysOf (c := c) (m := m) (y := z) h2 (by omega)
  have id_ := pz_in d 1 v
  rw [show (1 : Int32).toInt = 1 from rfl, show v.toInt = pz_md c.toInt m.toInt z.toInt from e2] at id_
  have mb := pz_md_b c.toInt m.toInt z.toInt
  by_cases h3 : 1 ≤ d.toInt ∧ d.toInt ≤ pz_md c.toInt m.toInt z.toInt
  case neg =>
    rw [if_neg (fun q => h3 q.2.2)] at dC
    rw [if_neg h3] at id_
    exact ⟨-300000, by simp [f_X9_dayOf, o1, dC], by simp [f_X10_dayOf, o2, iy, im, e1, id_], hI⟩
  rw [if_pos ⟨h1, h2, h3⟩] at dC
  rw [if_pos h3] at id_
  obtain ⟨w, g1, g2, -⟩ := pz_dnE (c := c) (d := d) (m := m) (y := z) x h0 ⟨by omega, by omega⟩ h2 ⟨h1.1, by omega⟩
  exact ⟨w, by simp [f_X9_dayOf, o1, dC, g1], by simp [f_X10_dayOf, o2, iy, im, e1, id_, g2], hI⟩
theorem z_least (P : Nat → Prop) (N : Nat) (hN : 1 ≤ N) : ∃ Y, 1 ≤ Y ∧ Y ≤ N ∧ (∀ k, 1 ≤ k → k < Y → P k) ∧ (Y = N ∨ ¬ P Y) := by
  induction N with
  | zero => omega
  | succ N ih =>
    by_cases h : N = 0
    · subst h
      exact ⟨1, by omega, by omega, fun k h1 h2 => by omega, Or.inl rfl⟩
    · obtain ⟨Y, a1, a2, a3, a4⟩ := ih (by omega)
      rcases a4 with a4 | a4
      · subst a4
        by_cases hp : P Y
        · refine ⟨Y + 1, by omega, by omega, fun k h1 h2 => ?_, Or.inl rfl⟩
          by_cases hk : k = Y
          · subst hk; exact hp
          · exact a3 k h1 (by omega)
        · exact ⟨Y, a1, by omega, a3, Or.inr hp⟩
      · exact ⟨Y, a1, by omega, a3, Or.inr a4⟩
/-- a loop that counts up from g to Y -/
theorem z_upto {ε : Type} {f : Int32 → Option (Int32 ⊕ ε)} {g Y : Nat} (hg : g ≤ Y) {e : ε} (h : ∀ k, g ≤ k → k < Y → f (nI k) = some (.inl (nI (k + 1)))) (hx : f (nI Y) = some (.inr e)) : ax_lp f (nI g) = some e := by
  have := z_for (f := f) (fun k => nI (g + k)) (Y - g) (e := e) (fun k hk => by
    have := h (g + k) (by omega) (by omega)
    exact this) (by
    rw [show g + (Y - g) = Y by omega]
    exact hx)
  exact this
theorem lq_dateOf_ok : lq_dateOf pz_I := by
  intro x y c day w hI
  have o1 := pz_isOne c
  have o2 := pz_inOne c
  have i2 := pz_isTypeR w
  by_cases h0 : 0 ≤ c.toInt ∧ c.toInt ≤ 1
  case neg =>
    rw [if_neg h0] at o1 o2
    exact ⟨-2, by simp [f_X9_dateOf, o1], by simp [f_X10_dateOf, o2], hI⟩
  rw [if_pos h0] at o1 o2
  by_cases hw : 0 ≤ w.toInt ∧ w.toInt ≤ 2
  case neg =>
    rw [if_neg hw] at i2
    refine ⟨-2, ?_, by simp [f_X10_dateOf, o2, i2], hI⟩
    by_cases h1 : w.toInt < 0
    · simp [f_X9_dateOf, o1, z_lt, h1]
    · have h2 : 2 < w.toInt := by omega
      simp [f_X9_dateOf, o1, z_lt, h1, h2]
  rw [if_pos hw] at i2
  have w1 : ¬ w < 0 := by rw [z_lt]; simp only [Int32.reduceToInt]; omega
  have w2 : ¬ 2 < w := by rw [z_lt, show (2 : Int32).toInt = 2 from by decide]; omega
  obtain ⟨v0, e0, g0⟩ := pz_f2 h0
  obtain ⟨va, -, ea, ga⟩ := pz_dnE (c := c) (d := 1) (m := 1) (y := 1) x h0 (by decide) (by decide) (by decide)
  obtain ⟨vb, eb1, eb2, gb⟩ := pz_dnE (c := c) (d := 31) (m := 12) (y := 600) x h0 (by decide) (by decide) (by decide)
  have ga' : va.toInt = pz_fd c.toInt := by
    rw [ga]
    rcases (show c.toInt = 0 ∨ c.toInt = 1 by omega) with h | h <;> rw [h] <;> decide
  have gb' : vb.toInt ≤ pz_fd c.toInt + 219150 := by
    rw [gb]
    rcases (show c.toInt = 0 ∨ c.toInt = 1 by omega) with h | h <;> rw [h] <;> decide
  have fb : -72744 ≤ pz_fd c.toInt ∧ pz_fd c.toInt ≤ -72742 := by unfold pz_fd; split <;> omega
  have iR := pz_in day va vb
  rw [ga'] at iR
  have hC : f_X1_hasDay c day x = some (if pz_fd c.toInt ≤ day.toInt ∧ day.toInt ≤ vb.toInt then 1 else 0) := by
    unfold f_X1_hasDay
    rw [e0, eb1]
    simp only [Option.bind_some, z_lt, g0]
    by_cases h1 : day.toInt < pz_fd c.toInt
    · rw [if_pos h1, if_neg (by omega)]
    · rw [if_neg h1]
      by_cases h2 : vb.toInt < day.toInt
      · rw [if_pos h2, if_neg (by omega)]
      · rw [if_neg h2, if_pos (by omega)]
  by_cases hd : pz_fd c.toInt ≤ day.toInt ∧ day.toInt ≤ vb.toInt
  case neg =>
    rw [if_neg hd] at iR hC
    exact ⟨-2, by simp only [f_X9_dateOf, o1, hC, if_neg w1, if_neg w2, Option.bind_some, if_neg pz_one, if_true], by simp only [f_X10_dateOf, o2, i2, ea, eb2, iR, Option.bind_some, if_neg pz_one, if_true], hI⟩
  rw [if_pos hd] at iR hC
  -- the year
  obtain ⟨Y, y1, y2, y3, y4⟩ := z_least (fun k => pz_dn c.toInt 1 1 (k + 1) ≤ day.toInt) 600 (by omega)
  have stepC : ∀ k : Nat, 1 ≤ k → k ≤ 600 → b_X1_yearWith_14 c day x (nI k) = (if 600 ≤ k ∨ day.toInt < pz_dn c.toInt 1 1 (k + 1) then some (.inr (nI k)) else some (.inl (nI (k + 1)))) ∧ b_X10_dateOf_49 c day w (nI k) = (if 600 ≤ k ∨ day.toInt < pz_dn c.toInt 1 1 (k + 1) then some (.inr (nI k)) else some (.inl (nI (k + 1)))) := by
    intro k k1 k2
    have ek := z_nI (n := k) (by omega)
    have ek1 := z_nI (n := k + 1) (by omega)
    unfold b_X1_yearWith_14 b_X10_dateOf_49
    rw [nI_s]
    simp only [z_le, ek, show (600 : Int32).toInt = 600 from by decide]
    by_cases h6 : (600 : Int) ≤ (k : Int)
    · rw [if_pos h6, if_pos h6, if_pos (Or.inl (by omega))]
      exact ⟨rfl, rfl⟩
    · obtain ⟨v, q1, q2, q3⟩ := pz_dnE (c := c) (d := 1) (m := 1) (y := nI (k + 1)) x h0 (by decide) (by decide) ⟨by omega, by omega⟩
      rw [if_neg h6, if_neg h6, q1, q2]
      simp only [Option.bind_some, z_lt, q3, ek1]
      rw [show (1 : Int32).toInt = 1 from rfl]
      by_cases h7 : day.toInt < pz_dn c.toInt 1 1 ((k : Int) + 1)
      · rw [if_pos (by simpa using h7), if_pos (Or.inr h7)]
        exact ⟨rfl, rfl⟩
      · rw [if_neg (by simpa using h7), if_neg (by omega)]
        exact ⟨rfl, rfl⟩
  have yR : ax_lp (b_X10_dateOf_49 c day w) (nI 1) = some (nI Y) := by
    refine z_upto (g := 1) (Y := Y) y1 (fun k k1 k2 => ?_) ?_
    · rw [(stepC k k1 (by omega)).2, if_neg]
      have := y3 k k1 k2
      omega
    · rw [(stepC Y y1 y2).2, if_pos]
      rcases y4 with h | h
      · exact Or.inl (by omega)
      · exact Or.inr (by omega)
  obtain ⟨gN, hgN⟩ : ∃ gN : Nat, (gN : Int) = (day.toInt - pz_fd c.toInt) / 366 + 1 := ⟨((day.toInt - pz_fd c.toInt) / 366 + 1).toNat, by omega⟩
  have hg1 : 1 ≤ gN := by omega
  have hg2 : gN ≤ Y := by
    rcases Nat.lt_or_ge Y gN with q | q
    · exfalso
      have hY : ¬ pz_dn c.toInt 1 1 (Y + 1) ≤ day.toInt := by
        rcases y4 with h | h
        · omega
        · exact h
      apply hY
      have e : pz_dn c.toInt 1 1 ((Y : Int) + 1) = pz_fd c.toInt + 365 * Y + pz_lu c.toInt Y := by
        simp only [pz_dn, pz_bf]
        rw [show (Y : Int) + 1 - 1 = Y by omega]
        simp
      have e2 : pz_lu c.toInt Y ≤ Y := by unfold pz_lu; split <;> omega
      omega
    · exact q
  have yC : f_X1_yearWith c day x = some (nI Y) := by
    have dd : (day - v0).toInt = day.toInt - pz_fd c.toInt := by rw [z_sub (by omega) (by omega), g0]
    have d1 := z_div (a := day - v0) (b := 366) (by omega) (by decide)
    rw [dd, show (366 : Int32).toInt = 366 from by decide] at d1
    have d2 : (day - v0) / 366 + 1 = nI gN := by
      rw [z_eq, z_add1 (by omega) (by omega), d1, z_nI (by omega)]
      omega
    unfold f_X1_yearWith
    rw [e0, Option.bind_some, z_idiv (by decide), Option.bind_some, d2, z_upto (g := gN) (Y := Y) (e := nI Y) hg2 (fun k k1 k2 => by
      rw [(stepC k (by omega) (by omega)).1, if_neg]
      have := y3 k (by omega) k2
      omega) (by
      rw [(stepC Y y1 y2).1, if_pos]
      rcases y4 with h | h
      · exact Or.inl (by omega)
      · exact Or.inr (by omega))]
    rfl
  -- the month
  have eY := z_nI (n := Y) (by omega)
  obtain ⟨Mo, m1, m2, m3, m4⟩ := z_least (fun k => pz_dn c.toInt 1 (k + 1) Y ≤ day.toInt) 12 (by omega)
  have stepM : ∀ k : Nat, 1 ≤ k → k ≤ 12 → b_X1_monthWith_2 c day (nI Y) x (nI k) = (if 12 ≤ k ∨ day.toInt < pz_dn c.toInt 1 (k + 1) Y then some (.inr (nI k)) else some (.inl (nI (k + 1)))) ∧ b_X10_dateOf_80 c day w (nI Y) (nI k) = (if 12 ≤ k ∨ day.toInt < pz_dn c.toInt 1 (k + 1) Y then some (.inr (nI k)) else some (.inl (nI (k + 1)))) := by
    intro k k1 k2
    have ek := z_nI (n := k) (by omega)
    have ek1 := z_nI (n := k + 1) (by omega)
    unfold b_X1_monthWith_2 b_X10_dateOf_80
    rw [nI_s]
    simp only [z_le, ek, show (12 : Int32).toInt = 12 from by decide]
    by_cases h6 : (12 : Int) ≤ (k : Int)
    · rw [if_pos h6, if_pos h6, if_pos (Or.inl (by omega))]
      exact ⟨rfl, rfl⟩
    · obtain ⟨v, q1, q2, q3⟩ := pz_dnE (c := c) (d := 1) (m := nI (k + 1)) (y := nI Y) x h0 (by decide) ⟨by omega, by omega⟩ ⟨by omega, by omega⟩
      rw [if_neg h6, if_neg h6, q1, q2]
      simp only [Option.bind_some, z_lt, q3, ek1, eY]
      rw [show (1 : Int32).toInt = 1 from rfl]
      by_cases h7 : day.toInt < pz_dn c.toInt 1 ((k : Int) + 1) Y
      · rw [if_pos (by simpa using h7), if_pos (Or.inr h7)]
        exact ⟨rfl, rfl⟩
      · rw [if_neg (by simpa using h7), if_neg (by omega)]
        exact ⟨rfl, rfl⟩
  have mR : ax_lp (b_X10_dateOf_80 c day w (nI Y)) (nI 1) = some (nI Mo) := by
    refine z_upto (g := 1) (Y := Mo) m1 (fun k k1 k2 => ?_) ?_
    · rw [(stepM k k1 (by omega)).2, if_neg]
      have := m3 k k1 k2
      omega
    · rw [(stepM Mo m1 m2).2, if_pos]
      rcases m4 with h | h
      · exact Or.inl (by omega)
      · exact Or.inr (by omega)
  have mC : f_X1_monthWith c day (nI Y) x = some (nI Mo) := by
    unfold f_X1_monthWith
    rw [show (1 : Int32) = nI 1 from rfl, z_upto (g := 1) (Y := Mo) (e := nI Mo) m1 (fun k k1 k2 => by
      rw [(stepM k k1 (by omega)).1, if_neg]
      have := m3 k k1 k2
      omega) (by
      rw [(stepM Mo m1 m2).1, if_pos]
      rcases m4 with h | h
      · exact Or.inl (by omega)
      · exact Or.inr (by omega))]
    rfl
  have eM := z_nI (n := Mo) (by omega)
  obtain ⟨vd, q1, q2, -⟩ := pz_dnE (c := c) (d := 1) (m := nI Mo) (y := nI Y) x h0 (by decide) ⟨by omega, by omega⟩ ⟨by omega, by omega⟩
  rw [show nI 1 = (1 : Int32) from rfl] at yR mR
  have hC2 : f_X9_dateOf c day w x = (if w = 2 then some (nI Y) else if w = 1 then some (nI Mo) else some (day - vd + 1)) := by
    unfold f_X9_dateOf
    simp only [o1, hC, yC, mC, q1, if_neg w1, if_neg w2, Option.bind_some, if_neg pz_one]
  have hR2 : f_X10_dateOf c day w = (if w = 0 then some (day - vd + 1) else if w = 1 then some (nI Mo) else some (nI Y)) := by
    unfold f_X10_dateOf j_X10_dateOf_108
    simp only [o2, i2, ea, eb2, iR, yR, mR, q2, Option.bind_some, if_neg pz_one]
  rw [hC2, hR2]
  rcases (show w.toInt = 0 ∨ w.toInt = 1 ∨ w.toInt = 2 by omega) with h | h | h
  · have : w = 0 := z_eq.mpr (by rw [h]; decide)
    subst this
    exact ⟨day - vd + 1, rfl, rfl, hI⟩
  · have : w = 1 := z_eq.mpr (by rw [h]; decide)
    subst this
    exact ⟨nI Mo, rfl, rfl, hI⟩
  · have : w = 2 := z_eq.mpr (by rw [h]; decide)
    subst this
    exact ⟨nI Y, rfl, rfl, hI⟩

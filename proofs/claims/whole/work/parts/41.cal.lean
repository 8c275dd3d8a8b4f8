/-! calendars -/
theorem z_div {a b : Int32} (ha : 0 ≤ a.toInt) (hb : 0 < b.toInt) : (a / b).toInt = a.toInt / b.toInt := by
  have hne : b ≠ -1 := by
    intro h
    rw [h] at hb
    revert hb
    decide
  rw [Int32.toInt_div_of_ne_right _ _ hne, Int.tdiv_eq_ediv_of_nonneg ha]
theorem z_idiv {a b : Int32} (hb : 0 < b.toInt) : ax_idiv a b = some (a / b) := by
  unfold ax_idiv
  rw [if_neg]
  intro h
  rw [h] at hb
  revert hb
  decide
theorem z_irem {a b : Int32} (ha : 0 ≤ a.toInt) (hb : 0 < b.toInt) : ∃ v : Int32, ax_irem a b = some v ∧ v.toInt = a.toInt % b.toInt := by
  have h1 := z_div ha hb
  have h2 := z_hi a
  have h3 : 0 ≤ a.toInt / b.toInt := Int.ediv_nonneg ha (by omega)
  have h4 : a.toInt / b.toInt * b.toInt ≤ a.toInt := Int.ediv_mul_le _ (by omega)
  have h5 : 0 ≤ a.toInt / b.toInt * b.toInt := Int.mul_nonneg h3 (by omega)
  have h6 : (a / b * b).toInt = a.toInt / b.toInt * b.toInt := by
    rw [z_mul (by rw [h1]; omega) (by rw [h1]; omega), h1]
  refine ⟨a - a / b * b, ?_, ?_⟩
  · unfold ax_irem
    rw [if_neg]
    intro h
    rw [h] at hb
    revert hb
    decide
  · rw [z_sub (by rw [h6]; omega) (by rw [h6]; omega), h6, Int.emod_def, Int.mul_comm]
/-- a leap year -/
def pz_lp (c y : Int) : Bool := decide (y % 4 = 0 ∧ (c = 0 ∨ y % 100 ≠ 0 ∨ y % 400 = 0))
theorem pz_leapC (c y : Int32) (hy : 0 ≤ y.toInt) : f_X1_isLeap c y = some (if pz_lp c.toInt y.toInt = true then 1 else 0) := by
  obtain ⟨v1, e1, f1⟩ := z_irem (a := y) (b := 4) hy (by decide)
  obtain ⟨v2, e2, f2⟩ := z_irem (a := y) (b := 100) hy (by decide)
  obtain ⟨v3, e3, f3⟩ := z_irem (a := y) (b := 400) hy (by decide)
  rw [show (4 : Int32).toInt = 4 from by decide] at f1
  rw [show (100 : Int32).toInt = 100 from by decide] at f2
  rw [show (400 : Int32).toInt = 400 from by decide] at f3
  unfold f_X1_isLeap
  rw [e1, e2, e3]
  simp only [Option.bind_some, z_eq, f1, f2, f3, Int32.reduceToInt, pz_lp, decide_eq_true_eq]
  by_cases h1 : y.toInt % 4 = 0
  · rw [if_pos h1]
    by_cases h2 : c.toInt = 0
    · rw [if_pos h2, if_pos ⟨h1, Or.inl h2⟩]
    · rw [if_neg h2]
      by_cases h3 : y.toInt % 100 = 0
      · rw [if_pos h3]
        by_cases h4 : y.toInt % 400 = 0
        · rw [if_pos h4, if_pos ⟨h1, Or.inr (Or.inr h4)⟩]
        · rw [if_neg h4, if_neg (by omega)]
      · rw [if_neg h3, if_pos ⟨h1, Or.inr (Or.inl h3)⟩]
  · rw [if_neg h1, if_neg (by omega)]
theorem pz_leapR (c y : Int32) : f_X10_isLeap c y = f_X1_isLeap c y := rfl
/-- leap days in the first z years -/
def pz_lu (c z : Int) : Int := if c = 0 then z / 4 else z / 4 - z / 100 + z / 400
def pz_ml (m : Int) : Int := if m = 2 then 28 else if m = 4 ∨ m = 6 ∨ m = 9 ∨ m = 11 then 30 else 31
def pz_bf (m : Int) : Int := if m = 1 then 0 else if m = 2 then 31 else if m = 3 then 59 else if m = 4 then 90 else if m = 5 then 120 else if m = 6 then 151 else if m = 7 then 181 else if m = 8 then 212 else if m = 9 then 243 else if m = 10 then 273 else if m = 11 then 304 else 334
def pz_l1 (c y : Int) : Int := if pz_lp c y = true then 1 else 0
def pz_fd (c : Int) : Int := if c = 0 then -72744 else -72742
/-- the day's number -/
def pz_dn (c d m y : Int) : Int := pz_fd c + 365 * (y - 1) + pz_lu c (y - 1) + pz_bf m + (if 2 < m then pz_l1 c y else 0) + d - 1
theorem z_12 {m : Int32} (h : 1 ≤ m.toInt ∧ m.toInt ≤ 12) : m = 1 ∨ m = 2 ∨ m = 3 ∨ m = 4 ∨ m = 5 ∨ m = 6 ∨ m = 7 ∨ m = 8 ∨ m = 9 ∨ m = 10 ∨ m = 11 ∨ m = 12 := by
  simp only [z_eq, Int32.reduceToInt]
  omega
theorem z_sub1 {m : Int32} (h : 1 ≤ m.toInt) : (m - 1).toInt = m.toInt - 1 := by
  have := z_hi m
  rw [z_sub (by rw [show (1 : Int32).toInt = 1 from rfl]; omega) (by rw [show (1 : Int32).toInt = 1 from rfl]; omega)]
  rfl
theorem z_add1 {m : Int32} (h0 : -1000 ≤ m.toInt) (h : m.toInt ≤ 1000000) : (m + 1).toInt = m.toInt + 1 := by
  rw [z_add (by rw [show (1 : Int32).toInt = 1 from rfl]; omega) (by rw [show (1 : Int32).toInt = 1 from rfl]; omega)]
  rfl
theorem pz_f1 {m : Int32} (h : 1 ≤ m.toInt ∧ m.toInt ≤ 12) : ∃ v : Int32, ax_sa 12 cx_f1 (m - 1) = some v ∧ v.toInt = pz_bf m.toInt := by
  rcases z_12 h with h | h | h | h | h | h | h | h | h | h | h | h <;> subst h <;> exact ⟨_, rfl, by decide⟩
theorem pz_f0 {m : Int32} (h : 1 ≤ m.toInt ∧ m.toInt ≤ 12) : ∃ v : Int32, ax_sa 12 cx_f0 (m - 1) = some v ∧ v.toInt = pz_ml m.toInt := by
  rcases z_12 h with h | h | h | h | h | h | h | h | h | h | h | h <;> subst h <;> exact ⟨_, rfl, by decide⟩
theorem pz_f2 {c : Int32} (h : 0 ≤ c.toInt ∧ c.toInt ≤ 1) : ∃ v : Int32, ax_sa 2 cx_f2 c = some v ∧ v.toInt = pz_fd c.toInt := by
  have : c = 0 ∨ c = 1 := by
    simp only [z_eq, Int32.reduceToInt]
    omega
  rcases this with h | h <;> subst h <;> exact ⟨_, rfl, by decide⟩
theorem pz_leapsC {c z : Int32} (hz : 0 ≤ z.toInt ∧ z.toInt ≤ 100000) : ∃ v : Int32, f_X1_leapsUpTo c z = some v ∧ v.toInt = pz_lu c.toInt z.toInt := by
  have d4 := z_div (a := z) (b := 4) hz.1 (by decide)
  have d100 := z_div (a := z) (b := 100) hz.1 (by decide)
  have d400 := z_div (a := z) (b := 400) hz.1 (by decide)
  rw [show (4 : Int32).toInt = 4 from by decide] at d4
  rw [show (100 : Int32).toInt = 100 from by decide] at d100
  rw [show (400 : Int32).toInt = 400 from by decide] at d400
  unfold f_X1_leapsUpTo pz_lu
  rw [z_idiv (by decide), z_idiv (by decide), z_idiv (by decide)]
  simp only [Option.bind_some]
  by_cases h : c = 0
  · have h' : c.toInt = 0 := by rw [h]; decide
    exact ⟨_, by rw [if_pos h], by rw [if_pos h', d4]⟩
  · have h' : ¬ c.toInt = 0 := by
      intro q
      exact h (z_eq.mpr (by rw [q]; decide))
    refine ⟨_, by rw [if_neg h], ?_⟩
    have e1 : (z / 4 - z / 100).toInt = z.toInt / 4 - z.toInt / 100 := by
      rw [z_sub (by omega) (by omega), d4, d100]
    rw [if_neg h', z_add (by omega) (by omega), e1, d400]
theorem pz_dnC {c d m y : Int32} (s : ax_S) (hc : 0 ≤ c.toInt ∧ c.toInt ≤ 1) (hd : 0 ≤ d.toInt ∧ d.toInt ≤ 99) (hm : 1 ≤ m.toInt ∧ m.toInt ≤ 12) (hy : 1 ≤ y.toInt ∧ y.toInt ≤ 601) : ∃ v : Int32, f_X1_dayNumber c d m y s = some v ∧ v.toInt = pz_dn c.toInt d.toInt m.toInt y.toInt := by
  obtain ⟨v0, e0, g0⟩ := pz_f2 hc
  have y1 := z_sub1 hy.1
  obtain ⟨v1, e1, g1⟩ := pz_leapsC (c := c) (z := y - 1) ⟨by omega, by omega⟩
  obtain ⟨v2, e2, g2⟩ := pz_f1 hm
  have b0 : -72744 ≤ v0.toInt ∧ v0.toInt ≤ -72742 := by rw [g0]; unfold pz_fd; split <;> omega
  have b1 : -10 ≤ v1.toInt ∧ v1.toInt ≤ 200 := by rw [g1, y1]; unfold pz_lu; split <;> omega
  have b2 : 0 ≤ v2.toInt ∧ v2.toInt ≤ 334 := by
    rw [g2]
    rcases z_12 hm with h | h | h | h | h | h | h | h | h | h | h | h <;> subst h <;> decide
  have key : ∀ k0 : Int32, 0 ≤ k0.toInt → k0.toInt ≤ 1 → ∃ v : Int32, j_X1_dayNumber_18 c d m y k0 s = some v ∧ v.toInt = pz_fd c.toInt + 365 * (y.toInt - 1) + pz_lu c.toInt (y.toInt - 1) + pz_bf m.toInt + k0.toInt + d.toInt - 1 := by
    intro k0 q1 q2
    unfold j_X1_dayNumber_18
    rw [e0, e1, e2]
    simp only [Option.bind_some]
    refine ⟨_, rfl, ?_⟩
    have t1 : (365 * (y - 1)).toInt = 365 * (y.toInt - 1) := by
      rw [z_mul] <;> rw [show (365 : Int32).toInt = 365 from by decide, y1] <;> omega
    have t2 : (v0 + 365 * (y - 1)).toInt = v0.toInt + 365 * (y.toInt - 1) := by rw [z_add (by omega) (by omega), t1]
    have t3 : (v0 + 365 * (y - 1) + v1).toInt = v0.toInt + 365 * (y.toInt - 1) + v1.toInt := by rw [z_add (by omega) (by omega), t2]
    have t4 : (v0 + 365 * (y - 1) + v1 + v2).toInt = v0.toInt + 365 * (y.toInt - 1) + v1.toInt + v2.toInt := by rw [z_add (by omega) (by omega), t3]
    have t5 : (v0 + 365 * (y - 1) + v1 + v2 + k0).toInt = v0.toInt + 365 * (y.toInt - 1) + v1.toInt + v2.toInt + k0.toInt := by rw [z_add (by omega) (by omega), t4]
    have t6 : (v0 + 365 * (y - 1) + v1 + v2 + k0 + d).toInt = v0.toInt + 365 * (y.toInt - 1) + v1.toInt + v2.toInt + k0.toInt + d.toInt := by rw [z_add (by omega) (by omega), t5]
    rw [z_sub (by rw [show (1 : Int32).toInt = 1 from rfl]; omega) (by rw [show (1 : Int32).toInt = 1 from rfl]; omega), t6, show (1 : Int32).toInt = 1 from rfl, g0, g1, g2, y1]
  unfold f_X1_dayNumber j_X1_dayNumber_17
  rw [pz_leapC c y (by omega), Option.bind_some, pz_if0]
  simp only [z_le, show (2 : Int32).toInt = 2 from by decide]
  by_cases h2 : m.toInt ≤ 2
  · obtain ⟨v, f1, f2⟩ := key 0 (by decide) (by decide)
    refine ⟨v, by rw [if_pos h2, f1], ?_⟩
    rw [f2, pz_dn, if_neg (by omega)]
    rfl
  · rw [if_neg h2]
    by_cases h3 : pz_lp c.toInt y.toInt = true
    · obtain ⟨v, f1, f2⟩ := key 1 (by decide) (by decide)
      refine ⟨v, by rw [if_pos h3, f1], ?_⟩
      rw [f2, pz_dn, if_pos (by omega), pz_l1, if_pos h3]
      rfl
    · obtain ⟨v, f1, f2⟩ := key 0 (by decide) (by decide)
      refine ⟨v, by rw [if_neg h3, f1], ?_⟩
      rw [f2, pz_dn, if_pos (by omega), pz_l1, if_neg h3]
      rfl

def pz_S (c m y : Int) : Int := pz_bf m + (if 2 < m then pz_l1 c y else 0)
theorem pz_S_s (c k y : Int) (h : 1 ≤ k ∧ k ≤ 11) : pz_S c (k + 1) y = pz_S c k y + (pz_ml k + (if k = 2 then pz_l1 c y else 0)) := by
  rcases (show k = 1 ∨ k = 2 ∨ k = 3 ∨ k = 4 ∨ k = 5 ∨ k = 6 ∨ k = 7 ∨ k = 8 ∨ k = 9 ∨ k = 10 ∨ k = 11 by omega) with h | h | h | h | h | h | h | h | h | h | h <;> subst h <;> simp [pz_S, pz_bf, pz_ml] <;> omega
theorem pz_l1_b (c y : Int) : 0 ≤ pz_l1 c y ∧ pz_l1 c y ≤ 1 := by
  unfold pz_l1
  split <;> omega
theorem pz_S_b (c m y : Int) : 0 ≤ pz_S c m y ∧ pz_S c m y ≤ 335 := by
  have := pz_l1_b c y
  unfold pz_S pz_bf
  constructor <;> (repeat' split) <;> omega
theorem pz_daysOf {c m y : Int32} (hm : 1 ≤ m.toInt ∧ m.toInt ≤ 12) (hy : 0 ≤ y.toInt) : ∃ v : Int32, f_X10_daysOf c m y = some v ∧ v.toInt = pz_ml m.toInt + (if m.toInt = 2 then pz_l1 c.toInt y.toInt else 0) := by
  unfold f_X10_daysOf
  rw [pz_leapR, pz_leapC c y hy, Option.bind_some, pz_if0]
  by_cases h2 : m = 2
  · subst h2
    rw [if_pos rfl]
    by_cases h3 : pz_lp c.toInt y.toInt = true
    · refine ⟨29, by rw [if_pos h3], ?_⟩
      rw [pz_l1, if_pos h3]
      decide
    · refine ⟨28, by rw [if_neg h3], ?_⟩
      rw [pz_l1, if_neg h3]
      decide
  · have h2' : ¬ m.toInt = 2 := fun q => h2 (z_eq.mpr (by rw [q]; decide))
    rw [if_neg h2, if_neg h2']
    rcases z_12 hm with h | h | h | h | h | h | h | h | h | h | h | h <;> subst h <;> first | exact absurd rfl h2 | exact ⟨_, rfl, by decide⟩
theorem pz_daysLoop {c d m y n0 : Int32} (hm : 1 ≤ m.toInt ∧ m.toInt ≤ 12) (hy : 0 ≤ y.toInt) (hn : -1000000 ≤ n0.toInt ∧ n0.toInt ≤ 1000000) : ∃ e, ax_lp (b_X10_daysTo_42 c d m y) (n0, (1 : Int32)) = some e ∧ e.toInt = n0.toInt + pz_S c.toInt m.toInt y.toInt := by
  refine z_inv (fun a => 1 ≤ a.2.toInt ∧ a.2.toInt ≤ m.toInt ∧ a.1.toInt = n0.toInt + pz_S c.toInt a.2.toInt y.toInt) _ (fun a => (m.toInt - a.2.toInt).toNat) (fun a ha => ?_) ⟨(show (1 : Int) ≤ (1 : Int32).toInt by decide), hm.1, ?_⟩
  · obtain ⟨q1, q2, q3⟩ := ha
    unfold b_X10_daysTo_42
    by_cases h : m.toInt ≤ a.2.toInt
    · refine Or.inl ⟨a.1, by rw [if_pos (by rw [z_le]; exact h)], ?_⟩
      rw [q3, show a.2.toInt = m.toInt by omega]
    · obtain ⟨v, e1, e2⟩ := pz_daysOf (c := c) (m := a.2) (y := y) ⟨q1, by omega⟩ hy
      have s1 := pz_S_b c.toInt a.2.toInt y.toInt
      have s2 := pz_S_b c.toInt (a.2.toInt + 1) y.toInt
      have s3 := pz_S_s c.toInt a.2.toInt y.toInt ⟨q1, by omega⟩
      have t1 : (a.1 + v).toInt = a.1.toInt + v.toInt := z_add (by omega) (by omega)
      have t2 := z_add1 (m := a.2) (by omega) (by omega)
      refine Or.inr ⟨(a.1 + v, a.2 + 1), by rw [if_neg (by rw [z_le]; exact h), e1, Option.bind_some], ⟨?_, ?_, ?_⟩, ?_⟩
      · show 1 ≤ (a.2 + 1).toInt
        omega
      · show (a.2 + 1).toInt ≤ _
        omega
      · show (a.1 + v).toInt = _ + pz_S _ (a.2 + 1).toInt _
        rw [t1, t2, s3]
        omega
      · show (m.toInt - (a.2 + 1).toInt).toNat < _
        omega
  · show n0.toInt = n0.toInt + pz_S c.toInt (1 : Int32).toInt y.toInt
    rw [show (1 : Int32).toInt = 1 from rfl]
    simp [pz_S, pz_bf]
theorem pz_daysTo {c d m y : Int32} (hd : 0 ≤ d.toInt ∧ d.toInt ≤ 99) (hm : 1 ≤ m.toInt ∧ m.toInt ≤ 12) (hy : 1 ≤ y.toInt ∧ y.toInt ≤ 601) : ∃ v : Int32, f_X10_daysTo c d m y = some v ∧ v.toInt = 365 * (y.toInt - 1) + pz_lu c.toInt (y.toInt - 1) + pz_S c.toInt m.toInt y.toInt + d.toInt - 1 := by
  have y1 := z_sub1 hy.1
  have d4 := z_div (a := y - 1) (b := 4) (by omega) (by decide)
  have d100 := z_div (a := y - 1) (b := 100) (by omega) (by decide)
  have d400 := z_div (a := y - 1) (b := 400) (by omega) (by decide)
  rw [show (4 : Int32).toInt = 4 from by decide, y1] at d4
  rw [show (100 : Int32).toInt = 100 from by decide, y1] at d100
  rw [show (400 : Int32).toInt = 400 from by decide, y1] at d400
  have t1 : (365 * (y - 1)).toInt = 365 * (y.toInt - 1) := by
    rw [z_mul] <;> rw [show (365 : Int32).toInt = 365 from by decide, y1] <;> omega
  have t2 : (365 * (y - 1) + (y - 1) / 4).toInt = 365 * (y.toInt - 1) + (y.toInt - 1) / 4 := by rw [z_add (by omega) (by omega), t1, d4]
  have sb := pz_S_b c.toInt m.toInt y.toInt
  have fin : ∀ n0 : Int32, n0.toInt = 365 * (y.toInt - 1) + pz_lu c.toInt (y.toInt - 1) → -1000 ≤ n0.toInt → n0.toInt ≤ 300000 → ∃ v : Int32, (ax_lp (b_X10_daysTo_42 c d m y) (n0, (1 : Int32))).bind (fun e42 => some ((e42 + d) - 1)) = some v ∧ v.toInt = 365 * (y.toInt - 1) + pz_lu c.toInt (y.toInt - 1) + pz_S c.toInt m.toInt y.toInt + d.toInt - 1 := by
    intro n0 g1 g2 g3
    obtain ⟨e, e1, e2⟩ := pz_daysLoop (c := c) (d := d) (m := m) (y := y) (n0 := n0) hm (by omega) ⟨by omega, by omega⟩
    refine ⟨_, by rw [e1, Option.bind_some], ?_⟩
    have u1 : (e + d).toInt = e.toInt + d.toInt := z_add (by omega) (by omega)
    rw [z_sub (by rw [show (1 : Int32).toInt = 1 from rfl]; omega) (by rw [show (1 : Int32).toInt = 1 from rfl]; omega), u1, show (1 : Int32).toInt = 1 from rfl, e2, g1]
  unfold f_X10_daysTo
  rw [z_idiv (by decide), z_idiv (by decide), z_idiv (by decide)]
  simp only [Option.bind_some]
  by_cases h : c = 0
  · have h' : c.toInt = 0 := by rw [h]; decide
    rw [if_pos h]
    have u : (365 * (y - 1) + (y - 1) / 4 - 0).toInt = 365 * (y.toInt - 1) + pz_lu c.toInt (y.toInt - 1) := by
      rw [Int32.sub_zero, t2, pz_lu, if_pos h']
    exact fin _ u (by rw [u, pz_lu, if_pos h']; omega) (by rw [u, pz_lu, if_pos h']; omega)
  · have h' : ¬ c.toInt = 0 := by
      intro q
      exact h (z_eq.mpr (by rw [q]; decide))
    rw [if_neg h]
    have u0 : ((y - 1) / 100 - (y - 1) / 400).toInt = (y.toInt - 1) / 100 - (y.toInt - 1) / 400 := by rw [z_sub (by omega) (by omega), d100, d400]
    have u : (365 * (y - 1) + (y - 1) / 4 - ((y - 1) / 100 - (y - 1) / 400)).toInt = 365 * (y.toInt - 1) + pz_lu c.toInt (y.toInt - 1) := by
      rw [z_sub (by omega) (by omega), t2, u0, pz_lu, if_neg h']
      omega
    exact fin _ u (by rw [u, pz_lu, if_neg h']; omega) (by rw [u, pz_lu, if_neg h']; omega)
theorem pz_dnR {c d m y : Int32} (hc : 0 ≤ c.toInt ∧ c.toInt ≤ 1) (hd : 0 ≤ d.toInt ∧ d.toInt ≤ 99) (hm : 1 ≤ m.toInt ∧ m.toInt ≤ 12) (hy : 1 ≤ y.toInt ∧ y.toInt ≤ 601) : ∃ v : Int32, f_X10_dayNumber c d m y = some v ∧ v.toInt = pz_dn c.toInt d.toInt m.toInt y.toInt := by
  obtain ⟨v1, e1, g1⟩ := pz_daysTo (c := c) hd hm hy
  obtain ⟨v2, e2, g2⟩ := pz_daysTo (c := c) (d := 1) (m := 3) (y := 200) (by decide) (by decide) (by decide)
  have g3 : v2.toInt = -pz_fd c.toInt := by
    rw [g2]
    rcases (show c.toInt = 0 ∨ c.toInt = 1 by omega) with h | h <;> rw [h] <;> decide
  have sb := pz_S_b c.toInt m.toInt y.toInt
  have b0 : -72744 ≤ pz_fd c.toInt ∧ pz_fd c.toInt ≤ -72742 := by unfold pz_fd; split <;> omega
  have b1 : -10 ≤ pz_lu c.toInt (y.toInt - 1) ∧ pz_lu c.toInt (y.toInt - 1) ≤ 200 := by unfold pz_lu; split <;> omega
  unfold f_X10_dayNumber
  rw [e1, e2]
  refine ⟨_, rfl, ?_⟩
  rw [z_sub (by omega) (by omega), g1, g3, pz_dn, pz_S]
  omega
/-- both sides have the same number of a day -/
theorem pz_dnE {c d m y : Int32} (s : ax_S) (hc : 0 ≤ c.toInt ∧ c.toInt ≤ 1) (hd : 0 ≤ d.toInt ∧ d.toInt ≤ 99) (hm : 1 ≤ m.toInt ∧ m.toInt ≤ 12) (hy : 1 ≤ y.toInt ∧ y.toInt ≤ 601) : ∃ v : Int32, f_X1_dayNumber c d m y s = some v ∧ f_X10_dayNumber c d m y = some v ∧ v.toInt = pz_dn c.toInt d.toInt m.toInt y.toInt := by
  obtain ⟨v1, e1, g1⟩ := pz_dnC s hc hd hm hy
  obtain ⟨v2, e2, g2⟩ := pz_dnR hc hd hm hy
  have : v1 = v2 := z_eq.mpr (by rw [g1, g2])
  subst this
  exact ⟨v1, e1, e2, g1⟩

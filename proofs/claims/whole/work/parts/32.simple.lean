/-! small methods, class and reference -/
theorem z_uis {s : ax_S} {k j : Nat} {v : Int32} : (ax_ui s k j v).1 k = upd (s.1 k) j v := by
  funext b
  simp [ax_ui, upd]
theorem z_upd (f : Nat → Int32) (j : Nat) (v : Int32) (b : Nat) : upd f j v b = if b = j then v else f b := rfl
theorem pz_in (v lo hi : Int32) : f_X10_in v lo hi = some (if lo.toInt ≤ v.toInt ∧ v.toInt ≤ hi.toInt then 1 else 0) := by
  unfold f_X10_in
  simp only [z_lt]
  by_cases h1 : v.toInt < lo.toInt
  · rw [if_pos h1, if_neg (by omega)]
  · rw [if_neg h1]
    by_cases h2 : hi.toInt < v.toInt
    · rw [if_pos h2, if_neg (by omega)]
    · rw [if_neg h2, if_pos (by omega)]
theorem pz_isBookC (p : Int32) (x : ax_S) : f_X9_isBook p x = some (if 0 ≤ p.toInt ∧ p.toInt < (x.1 3 3).toInt then 1 else 0) := by
  unfold f_X9_isBook
  simp only [z_lt, z_le, Int32.reduceToInt]
  by_cases h1 : p.toInt < 0
  · rw [if_pos h1, if_neg (by omega)]
  · rw [if_neg h1]
    by_cases h2 : (x.1 3 3).toInt ≤ p.toInt
    · rw [if_pos h2, if_neg (by omega)]
    · rw [if_neg h2, if_pos (by omega)]
theorem pz_isThingC (p : Int32) (x : ax_S) : f_X9_isThing p x = some (if 0 ≤ p.toInt ∧ p.toInt < (x.1 0 10).toInt then 1 else 0) := by
  unfold f_X9_isThing
  simp only [z_lt, z_le, Int32.reduceToInt]
  by_cases h1 : p.toInt < 0
  · rw [if_pos h1, if_neg (by omega)]
  · rw [if_neg h1]
    by_cases h2 : (x.1 0 10).toInt ≤ p.toInt
    · rw [if_pos h2, if_neg (by omega)]
    · rw [if_neg h2, if_pos (by omega)]
theorem pz_isRowC (p : Int32) (x : ax_S) : f_X9_isRow p x = some (if 0 ≤ p.toInt ∧ p.toInt < (x.1 2 7).toInt then 1 else 0) := by
  unfold f_X9_isRow
  simp only [z_lt, z_le, Int32.reduceToInt]
  by_cases h1 : p.toInt < 0
  · rw [if_pos h1, if_neg (by omega)]
  · rw [if_neg h1]
    by_cases h2 : (x.1 2 7).toInt ≤ p.toInt
    · rw [if_pos h2, if_neg (by omega)]
    · rw [if_neg h2, if_pos (by omega)]
theorem pz_zbif (c : Prop) [Decidable c] : ax_zb (if c then 1 else 0) = some (if c then 1 else 0) := by
  split
  · exact z_zb1
  · exact z_zb0
theorem pz_inm (v n : Int32) (h0 : 0 ≤ n.toInt) : f_X10_in v 0 (n - 1) = some (if 0 ≤ v.toInt ∧ v.toInt < n.toInt then 1 else 0) := by
  have := z_hi n
  have e : (n - 1).toInt = n.toInt - 1 := z_sub (by simp only [Int32.reduceToInt]; omega) (by simp only [Int32.reduceToInt]; omega)
  rw [pz_in, e]
  simp only [Int32.reduceToInt]
  by_cases h : 0 ≤ v.toInt ∧ v.toInt < n.toInt
  · rw [if_pos h, if_pos (by omega)]
  · rw [if_neg h, if_neg (by omega)]
theorem pz_isBookR (p : Int32) (y : ax_S) (h0 : 0 ≤ (y.1 0 2).toInt) : f_X10_isBook p y = some (if 0 ≤ p.toInt ∧ p.toInt < (y.1 0 2).toInt then 1 else 0) := by
  unfold f_X10_isBook
  rw [pz_inm _ _ h0, Option.bind_some, pz_zbif, Option.bind_some]
theorem pz_isThingR (p : Int32) (y : ax_S) (h0 : 0 ≤ (y.1 0 1).toInt) : f_X10_isThing p y = some (if 0 ≤ p.toInt ∧ p.toInt < (y.1 0 1).toInt then 1 else 0) := by
  unfold f_X10_isThing
  rw [pz_inm _ _ h0, Option.bind_some, pz_zbif, Option.bind_some]
theorem pz_isRange (p q f : Int32) (hf : 0 ≤ f.toInt) : f_X9_isRange p q f = some (if -f.toInt ≤ p.toInt ∧ p.toInt ≤ q.toInt ∧ q.toInt ≤ f.toInt then 1 else 0) := by
  have := z_hi f
  unfold f_X9_isRange
  simp only [z_lt]
  rw [z_neg (by omega)]
  by_cases h1 : p.toInt < -f.toInt
  · rw [if_pos h1, if_neg (by omega)]
  · rw [if_neg h1]
    by_cases h2 : q.toInt < p.toInt
    · rw [if_pos h2, if_neg (by omega)]
    · rw [if_neg h2]
      by_cases h3 : f.toInt < q.toInt
      · rw [if_pos h3, if_neg (by omega)]
      · rw [if_neg h3, if_pos (by omega)]
theorem pz_one : ¬ ((1 : Int32) = 0) := by decide
theorem pz_if0 {ρ : Type} (c : Prop) [Decidable c] (a b : ρ) : (if (if c then (1 : Int32) else 0) = 0 then a else b) = if c then b else a := by
  by_cases h : c
  · rw [if_pos h, if_neg pz_one, if_pos h]
  · rw [if_neg h, if_pos rfl, if_neg h]
theorem lq_pass_ok : lq_pass pz_I := by
  intro x y n hI
  obtain ⟨hsc, har, hsh, hnu, hbk, hrw, htx⟩ := id hI
  obtain ⟨s1, s2, s3, s4, s5, s6, s7⟩ := id hsc
  obtain ⟨n1, n2, n3, n4, n5, n6, n7, n8, n9, n10, n11, n12⟩ := id hnu
  have bl := z_lo n
  have bh := z_hi n
  by_cases h1 : n.toInt < 1
  · exact ⟨-2, x, y, by simp [f_X9_pass, z_lt, h1], by simp [f_X10_pass, f_X10_in, z_lt, h1], hI⟩
  by_cases h2 : 100 < n.toInt
  · exact ⟨-2, x, y, by simp [f_X9_pass, z_lt, h1, h2], by simp [f_X10_pass, f_X10_in, z_lt, h1, h2], hI⟩
  have e1 : (y.1 0 0 + n).toInt = (y.1 0 0).toInt + n.toInt := z_add (by omega) (by omega)
  by_cases h3 : (y.1 0 0).toInt + n.toInt ≤ 399
  · refine ⟨y.1 0 0 + n, ax_ui x 0 8 (y.1 0 0 + n), ax_ui y 0 0 (y.1 0 0 + n), by simp [f_X9_pass, z_lt, z_le, h1, h2, s1, e1, h3, z_ui], by simp [f_X10_pass, f_X10_in, z_lt, z_le, h1, h2, e1, h3, z_ui], ?_⟩
    generalize y.1 0 0 + n = v at e1
    refine ⟨?_, har, hsh, ?_, hbk, ?_, htx⟩
    · simp only [pz_sc, z_ui]; simpa using ⟨s2, s3, s4, s5, s6, s7⟩
    · simp only [pz_nu, z_ui]; simp; omega
    · intro r hr
      have := hrw r hr
      simp only [z_ui] at this ⊢
      simp
      omega
  · exact ⟨-2, x, y, by simp [f_X9_pass, z_lt, z_le, h1, h2, s1, e1, h3], by simp [f_X10_pass, f_X10_in, z_lt, z_le, h1, h2, e1, h3], hI⟩
theorem lq_thing_ok : lq_thing pz_I := by
  intro x y hI
  obtain ⟨hsc, har, hsh, hnu, hbk, hrw, htx⟩ := id hI
  obtain ⟨s1, s2, s3, s4, s5, s6, s7⟩ := id hsc
  obtain ⟨n1, n2, n3, n4, n5, n6, n7, n8, n9, n10, n11, n12⟩ := id hnu
  by_cases h1 : (y.1 0 1).toInt = 12
  · exact ⟨-4, x, y, by simp [f_X9_thing, z_lt, s3, h1], by simp [f_X10_thing, z_eq, h1], hI⟩
  · have h2 : (y.1 0 1).toInt < 12 := by omega
    have e1 : (y.1 0 1 + 1).toInt = (y.1 0 1).toInt + 1 := z_add (by simp only [Int32.reduceToInt]; omega) (by simp only [Int32.reduceToInt]; omega)
    refine ⟨y.1 0 1 + 1 - 1, ax_ui x 0 10 (y.1 0 1 + 1), ax_ui y 0 1 (y.1 0 1 + 1), by simp [f_X9_thing, z_lt, s3, h2, z_ui], by simp [f_X10_thing, z_eq, h1, z_ui], ?_⟩
    generalize y.1 0 1 + 1 = v at e1
    refine ⟨?_, har, hsh, ?_, hbk, ?_, htx⟩
    · simp only [pz_sc, z_ui]; simpa using ⟨s1, s2, s4, s5, s6, s7⟩
    · simp only [pz_nu, z_ui]; simp; omega
    · intro r hr
      have := hrw r hr
      simp only [z_ui] at this ⊢
      simp
      omega
theorem lq_asOf_ok : lq_asOf pz_I := by
  intro x y n hI
  obtain ⟨hsc, har, hsh, hnu, hbk, hrw, htx⟩ := id hI
  obtain ⟨s1, s2, s3, s4, s5, s6, s7⟩ := id hsc
  obtain ⟨n1, n2, n3, n4, n5, n6, n7, n8, n9, n10, n11, n12⟩ := id hnu
  by_cases h : -1 ≤ n.toInt ∧ n.toInt ≤ (y.1 0 0).toInt
  · refine ⟨y.1 0 14, ax_ui x 0 9 n, ax_ui y 0 14 n, ?_, ?_, ?_, har, hsh, ?_, hbk, hrw, htx⟩
    · by_cases h1 : n.toInt = -1
      · simp [f_X9_asOf, z_eq, h1, s2]
      · have h2 : ¬ n.toInt < 0 := by omega
        simp [f_X9_asOf, z_eq, z_lt, z_le, h1, h2, s1, s2, h.2]
    · simp [f_X10_asOf, pz_in, h.1, h.2]
    · simp only [pz_sc, z_ui]; simpa using ⟨s1, s3, s4, s5, s6, s7⟩
    · simp only [pz_nu, z_ui]; simp; omega
  · refine ⟨-2, x, y, ?_, ?_, hI⟩
    · have h1 : ¬ n.toInt = -1 := by omega
      by_cases h2 : n.toInt < 0
      · simp [f_X9_asOf, z_eq, z_lt, h1, h2]
      · have h3 : ¬ n.toInt ≤ (y.1 0 0).toInt := by omega
        simp [f_X9_asOf, z_eq, z_lt, z_le, h1, h2, s1, h3]
    · rw [f_X10_asOf, pz_in, Option.bind_some]
      rw [show (-1 : Int32).toInt = -1 from by decide, pz_if0, if_neg h]
theorem lq_wipe_ok : lq_wipe pz_I := by
  intro x y hI
  obtain ⟨hsc, har, hsh, hnu, hbk, hrw, htx⟩ := id hI
  obtain ⟨s1, s2, s3, s4, s5, s6, s7⟩ := id hsc
  obtain ⟨n1, n2, n3, n4, n5, n6, n7, n8, n9, n10, n11, n12⟩ := id hnu
  refine ⟨y.1 0 30, ax_ui x 7 1 0, ax_ui y 0 30 0, by simp [f_X9_wipe, s7], by simp [f_X10_wipe], ?_, har, hsh, ?_, hbk, hrw, ?_⟩
  · simp only [pz_sc, z_ui]; simpa using ⟨s1, s2, s3, s4, s5, s6⟩
  · simp only [pz_nu, z_ui]; simp; omega
  · intro k hk
    simp only [z_ui] at hk
    simp at hk
    omega

/-! things told: book, trust, rows, bytes -/
theorem pz_ub {P : Prop} (h : P) : P := h
theorem lq_type_ok : lq_type pz_I := by
  intro x y n hI
  obtain ⟨hsc, har, hsh, hnu, hbk, hrw, htx⟩ := id hI
  obtain ⟨s1, s2, s3, s4, s5, s6, s7⟩ := id hsc
  obtain ⟨a1, a2, a3, a4, a5, a6, a7, a8, a9, a10, a11, a12, a13⟩ := id har
  obtain ⟨n1, n2, n3, n4, n5, n6, n7, n8, n9, n10, n11, n12⟩ := id hnu
  by_cases h : 0 ≤ n.toInt ∧ n.toInt ≤ 255
  · have h0 : ¬ n.toInt < 0 := by omega
    by_cases h1 : (y.1 0 30).toInt = 40
    · exact ⟨-4, x, y, by simp [f_X9_type, f_X2_append, z_lt, z_le, h0, h.2, s7, h1], by simp [f_X10_type, pz_in, h.1, h.2, z_eq, h1], hI⟩
    · have h2 : (y.1 0 30).toInt < 40 := by omega
      have e1 : (y.1 0 30 + 1).toInt = (y.1 0 30).toInt + 1 := z_add (by simp only [Int32.reduceToInt]; omega) (by simp only [Int32.reduceToInt]; omega)
      have c0 := z_cl n11
      refine ⟨y.1 0 30 + 1, ax_ui (ax_ui x 36 (y.1 0 30).toNatClampNeg n) 7 1 (y.1 0 30 + 1), ax_ui (ax_ui y 21 (y.1 0 30).toNatClampNeg n) 0 30 (y.1 0 30 + 1), ?_, ?_, ?_⟩
      · have e := z_si (Sd := cx_C) (x := x) (a := 36) (n := 40) (i := y.1 0 30) (v := n) rfl n11 (by omega)
        simp [f_X9_type, f_X2_append, z_lt, z_le, h0, h.2, s7, h2, e, z_ui]
      · have e := z_si (Sd := cx_R) (x := y) (a := 21) (n := 40) (i := y.1 0 30) (v := n) rfl n11 (by omega)
        simp [f_X10_type, pz_in, h.1, h.2, z_eq, h1, e, z_ui]
      · generalize y.1 0 30 + 1 = v at e1
        refine ⟨?_, ?_, hsh, ?_, hbk, hrw, ?_⟩
        · simp only [pz_sc, z_ui]; simpa using ⟨s1, s2, s3, s4, s5, s6⟩
        · refine ⟨a1, a2, a3, a4, a5, a6, a7, a8, a9, a10, ?_, a12, a13⟩
          rw [ax_ui_ne (by decide), z_uis, ax_ui_ne (by decide), z_uis, a11]
        · simp only [pz_nu, z_ui]; simp; omega
        · intro k hk
          rw [ax_ui_ne (by decide), z_uis, z_upd]
          simp only [z_ui] at hk
          simp at hk
          by_cases hkk : k = (y.1 0 30).toNatClampNeg
          · rw [if_pos hkk]; omega
          · rw [if_neg hkk]; exact htx k (by omega)
  · refine ⟨-2, x, y, ?_, ?_, hI⟩
    · by_cases h1 : n.toInt < 0
      · simp [f_X9_type, z_lt, h1]
      · have h2 : ¬ n.toInt ≤ 255 := by omega
        simp [f_X9_type, z_lt, z_le, h1, h2]
    · rw [f_X10_type, pz_in, Option.bind_some]
      simp only [Int32.reduceToInt]
      rw [pz_if0, if_neg h]
theorem lq_trust_ok : lq_trust pz_I := by
  intro x y p t hI
  obtain ⟨hsc, har, hsh, hnu, hbk, hrw, htx⟩ := id hI
  obtain ⟨s1, s2, s3, s4, s5, s6, s7⟩ := id hsc
  obtain ⟨a1, a2, a3, a4, a5, a6, a7, a8, a9, a10, a11, a12, a13⟩ := id har
  obtain ⟨n1, n2, n3, n4, n5, n6, n7, n8, n9, n10, n11, n12⟩ := id hnu
  have hC : f_X9_isBook p x = _ := pz_isBookC p x
  have hR : f_X10_isBook p y = _ := pz_isBookR p y n7
  rw [s5] at hC
  by_cases h : 0 ≤ p.toInt ∧ p.toInt < (y.1 0 2).toInt
  · rw [if_pos h] at hC hR
    by_cases h1 : 1 ≤ t.toInt ∧ t.toInt ≤ 9
    · have h2 : ¬ t.toInt < 1 := by omega
      have c0 := z_cl h.1
      refine ⟨y.1 3 p.toNatClampNeg, ax_ui x 28 p.toNatClampNeg t, ax_ui y 3 p.toNatClampNeg t, ?_, ?_, hsc, ?_, hsh, hnu, ?_, hrw, htx⟩
      · have e1 := z_ai (Sd := cx_C) (x := x) (a := 28) (n := 6) (i := p) rfl h.1 (by omega)
        have e2 := z_si (Sd := cx_C) (x := x) (a := 28) (n := 6) (i := p) (v := t) rfl h.1 (by omega)
        simp [f_X9_trust, hC, z_lt, z_le, h2, h1.2, e1, e2, a3]
      · have e1 := z_ai (Sd := cx_R) (x := y) (a := 3) (n := 6) (i := p) rfl h.1 (by omega)
        have e2 := z_si (Sd := cx_R) (x := y) (a := 3) (n := 6) (i := p) (v := t) rfl h.1 (by omega)
        simp [f_X10_trust, hR, pz_in, h1.1, h1.2, e1, e2]
      · refine ⟨a1, a2, ?_, a4, a5, a6, a7, a8, a9, a10, a11, a12, a13⟩
        rw [z_uis, z_uis, a3]
      · intro b hb
        have q := hbk b hb
        rw [z_uis, z_upd]
        by_cases hbb : b = p.toNatClampNeg
        · rw [if_pos hbb]
          exact ⟨q.1, q.2.1, q.2.2.1, h1.1, h1.2⟩
        · rw [if_neg hbb]
          exact q
    · refine ⟨-2, x, y, ?_, ?_, hI⟩
      · by_cases h2 : t.toInt < 1
        · simp [f_X9_trust, hC, z_lt, h2]
        · have h3 : ¬ t.toInt ≤ 9 := by omega
          simp [f_X9_trust, hC, z_lt, z_le, h2, h3]
      · rw [f_X10_trust, hR, Option.bind_some, if_neg pz_one, pz_in, Option.bind_some]
        simp only [Int32.reduceToInt]
        rw [pz_if0, if_neg h1]
  · rw [if_neg h] at hC hR
    exact ⟨-2, x, y, by simp [f_X9_trust, hC], by simp [f_X10_trust, hR], hI⟩
theorem lq_takeBack_ok : lq_takeBack pz_I := by
  intro x y p hI
  obtain ⟨hsc, har, hsh, hnu, hbk, hrw, htx⟩ := id hI
  obtain ⟨s1, s2, s3, s4, s5, s6, s7⟩ := id hsc
  obtain ⟨a1, a2, a3, a4, a5, a6, a7, a8, a9, a10, a11, a12, a13⟩ := id har
  obtain ⟨n1, n2, n3, n4, n5, n6, n7, n8, n9, n10, n11, n12⟩ := id hnu
  have hC : f_X9_isRow p x = _ := pz_isRowC p x
  have hR := pz_inm p (y.1 0 6) n9
  rw [s6] at hC
  by_cases h : 0 ≤ p.toInt ∧ p.toInt < (y.1 0 6).toInt
  · rw [if_pos h] at hC hR
    have c0 := z_cl h.1
    have e1 := z_ai (Sd := cx_C) (x := x) (a := 25) (n := 40) (i := p) rfl h.1 (by omega)
    have e2 := z_ai (Sd := cx_R) (x := y) (a := 10) (n := 40) (i := p) rfl h.1 (by omega)
    by_cases h1 : y.1 10 p.toNatClampNeg = -1
    · have e3 := z_si (Sd := cx_C) (x := x) (a := 25) (n := 40) (i := p) (v := y.1 0 0) rfl h.1 (by omega)
      have e4 := z_si (Sd := cx_R) (x := y) (a := 10) (n := 40) (i := p) (v := y.1 0 0) rfl h.1 (by omega)
      refine ⟨1, ax_ui x 25 p.toNatClampNeg (y.1 0 0), ax_ui y 10 p.toNatClampNeg (y.1 0 0), by simp [f_X9_takeBack, hC, e1, a10, h1, s1, e3], by simp [f_X10_takeBack, hR, e2, h1, e4], hsc, ?_, hsh, hnu, hbk, ?_, htx⟩
      · refine ⟨a1, a2, a3, a4, a5, a6, a7, a8, a9, ?_, a11, a12, a13⟩
        rw [z_uis, z_uis, a10]
      · intro r hr
        obtain ⟨q1, q2, q3, q4, q5, q6, q7, q8⟩ := hrw r hr
        refine ⟨q1, q2, q3, q4, q5, q6, q7, ?_⟩
        rw [z_uis, z_upd]
        by_cases hbb : r = p.toNatClampNeg
        · rw [if_pos hbb]
          exact Or.inr ⟨q7, Int.le_refl _⟩
        · rw [if_neg hbb]
          exact q8
    · exact ⟨-3, x, y, by simp [f_X9_takeBack, hC, e1, a10, h1], by simp [f_X10_takeBack, hR, e2, h1], hI⟩
  · rw [if_neg h] at hC hR
    exact ⟨-2, x, y, by simp [f_X9_takeBack, hC], by simp [f_X10_takeBack, hR], hI⟩

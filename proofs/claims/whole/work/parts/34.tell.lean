theorem pz_up_ne {x : ax_S} {a k j b : Nat} {v : Int32} (h : a ≠ k) : (ax_ui x k j v).1 a b = x.1 a b := by rw [ax_ui_ne h]
/-- a row that may be told -/
def pz_vr (y : ax_S) (b t o p q : Int32) : Prop := (0 ≤ b.toInt ∧ b.toInt < (y.1 0 2).toInt) ∧ (0 ≤ t.toInt ∧ t.toInt < (y.1 0 1).toInt) ∧ ((o.toInt = -1 ∧ -200000 ≤ p.toInt ∧ p.toInt ≤ q.toInt ∧ q.toInt ≤ 200000) ∨ (0 ≤ o.toInt ∧ o.toInt < (y.1 0 1).toInt ∧ o.toInt ≠ t.toInt ∧ -100000 ≤ p.toInt ∧ p.toInt ≤ q.toInt ∧ q.toInt ≤ 100000))
theorem pz_tell {x y : ax_S} (hI : pz_I x y) {b t o p q : Int32} (hv : pz_vr y b t o p q) : ∃ r x' y', f_X7_tell b t o p q (y.1 0 0) x = some (r, x') ∧ f_X10_rowMore b t o p q y = some (r, y') ∧ pz_I x' y' ∧ (r.toInt = -4 ∨ 0 ≤ r.toInt) ∧ y'.1 24 = y.1 24 := by
  obtain ⟨hsc, har, hsh, hnu, hbk, hrw, htx⟩ := id hI
  obtain ⟨s1, s2, s3, s4, s5, s6, s7⟩ := id hsc
  obtain ⟨a1, a2, a3, a4, a5, a6, a7, a8, a9, a10, a11, a12, a13⟩ := id har
  obtain ⟨n1, n2, n3, n4, n5, n6, n7, n8, n9, n10, n11, n12⟩ := id hnu
  by_cases h1 : (y.1 0 6).toInt = 40
  · exact ⟨-4, x, y, by simp [f_X7_tell, z_lt, s6, h1], by simp [f_X10_rowMore, z_eq, h1], hI, Or.inl (by decide), rfl⟩
  · have h2 : (y.1 0 6).toInt < 40 := by omega
    have e1 : (y.1 0 6 + 1).toInt = (y.1 0 6).toInt + 1 := z_add (by simp only [Int32.reduceToInt]; omega) (by simp only [Int32.reduceToInt]; omega)
    have e0 : (y.1 0 6 + 1 - 1).toInt = (y.1 0 6).toInt := by
      rw [z_sub (by rw [e1]; simp only [Int32.reduceToInt]; omega) (by rw [e1]; simp only [Int32.reduceToInt]; omega), e1]
      simp only [Int32.reduceToInt]
      omega
    have c0 := z_cl n9
    have eC : ∀ (z : ax_S) (a : Nat) (v : Int32), ax_len cx_C 1 a = some 40 → ax_si cx_C z a (y.1 0 6) v = some (ax_ui z a (y.1 0 6).toNatClampNeg v) := fun z a v ha => z_si ha n9 (by omega)
    have eR : ∀ (z : ax_S) (a : Nat) (v : Int32), ax_len cx_R 1 a = some 40 → ax_si cx_R z a (y.1 0 6) v = some (ax_ui z a (y.1 0 6).toNatClampNeg v) := fun z a v ha => z_si ha n9 (by omega)
    refine ⟨y.1 0 6 + 1 - 1, ax_ui (ax_ui (ax_ui (ax_ui (ax_ui (ax_ui (ax_ui (ax_ui x 19 (y.1 0 6).toNatClampNeg b) 20 (y.1 0 6).toNatClampNeg t) 21 (y.1 0 6).toNatClampNeg o) 22 (y.1 0 6).toNatClampNeg p) 23 (y.1 0 6).toNatClampNeg q) 24 (y.1 0 6).toNatClampNeg (y.1 0 0)) 25 (y.1 0 6).toNatClampNeg (-1)) 2 7 (y.1 0 6 + 1), ax_ui (ax_ui (ax_ui (ax_ui (ax_ui (ax_ui (ax_ui (ax_ui y 4 (y.1 0 6).toNatClampNeg b) 5 (y.1 0 6).toNatClampNeg t) 6 (y.1 0 6).toNatClampNeg o) 7 (y.1 0 6).toNatClampNeg p) 8 (y.1 0 6).toNatClampNeg q) 9 (y.1 0 6).toNatClampNeg (y.1 0 0)) 10 (y.1 0 6).toNatClampNeg (-1)) 0 6 (y.1 0 6 + 1), ?_, ?_, ?_, Or.inr (by omega), rfl⟩
    · simp [f_X7_tell, z_lt, s6, h2, z_ui, eC _ 19 _ rfl, eC _ 20 _ rfl, eC _ 21 _ rfl, eC _ 22 _ rfl, eC _ 23 _ rfl, eC _ 24 _ rfl, eC _ 25 _ rfl]
    · simp [f_X10_rowMore, z_eq, h1, z_ui, eR _ 4 _ rfl, eR _ 5 _ rfl, eR _ 6 _ rfl, eR _ 7 _ rfl, eR _ 8 _ rfl, eR _ 9 _ rfl, eR _ 10 _ rfl]
    · generalize y.1 0 6 + 1 = v at e1
      refine ⟨?_, ?_, ?_, ?_, ?_, ?_, ?_⟩
      · simp only [pz_sc, z_ui]; simpa using ⟨s1, s2, s3, s4, s5, s7⟩
      · simp [pz_ar, ax_ui, a1, a2, a3, a4, a5, a6, a7, a8, a9, a10, a11, a12, a13]
      · exact hsh
      · simp only [pz_nu, z_ui]; simp; omega
      · exact hbk
      · intro r hr
        simp only [z_ui] at hr ⊢
        simp at hr ⊢
        obtain ⟨⟨v1, v2⟩, ⟨v3, v4⟩, v5⟩ := hv
        by_cases hrr : r = (y.1 0 6).toNatClampNeg
        · simp only [hrr, if_true]
          exact ⟨v1, v2, v3, v4, v5, n1, Int.le_refl _, Or.inl (by decide)⟩
        · simp only [hrr, if_false]
          exact hrw r (by omega)
      · exact htx
theorem pz_on {x y : ax_S} (hI : pz_I x y) (b t p q : Int32) : ∃ r x' y', f_X9_on b t p q x = some (r, x') ∧ f_X10_onMore b t p q y = some (r, y') ∧ pz_I x' y' ∧ (r.toInt = -4 ∨ r.toInt = -2 ∨ 0 ≤ r.toInt) ∧ y'.1 24 = y.1 24 := by
  obtain ⟨hsc, har, hsh, hnu, hbk, hrw, htx⟩ := id hI
  obtain ⟨s1, s2, s3, s4, s5, s6, s7⟩ := id hsc
  obtain ⟨n1, n2, n3, n4, n5, n6, n7, n8, n9, n10, n11, n12⟩ := id hnu
  have hbC : f_X9_isBook b x = _ := pz_isBookC b x
  have hbR : f_X10_isBook b y = _ := pz_isBookR b y n7
  have htC : f_X9_isThing t x = _ := pz_isThingC t x
  have htR : f_X10_isThing t y = _ := pz_isThingR t y n5
  have hrC := pz_isRange p q 200000 (by decide)
  have hi1 := pz_in p (-200000) q
  have hi2 := pz_in q p 200000
  rw [show (200000 : Int32).toInt = 200000 from by decide] at hrC hi2
  rw [show (-200000 : Int32).toInt = -200000 from by decide] at hi1
  rw [s5] at hbC
  rw [s3] at htC
  by_cases h1 : 0 ≤ b.toInt ∧ b.toInt < (y.1 0 2).toInt
  case neg =>
    rw [if_neg h1] at hbC hbR
    exact ⟨-2, x, y, by simp [f_X9_on, hbC], by simp [f_X10_onMore, hbR], hI, Or.inr (Or.inl (by decide)), rfl⟩
  rw [if_pos h1] at hbC hbR
  by_cases h2 : 0 ≤ t.toInt ∧ t.toInt < (y.1 0 1).toInt
  case neg =>
    rw [if_neg h2] at htC htR
    exact ⟨-2, x, y, by simp [f_X9_on, hbC, htC], by simp [f_X10_onMore, hbR, htR], hI, Or.inr (Or.inl (by decide)), rfl⟩
  rw [if_pos h2] at htC htR
  by_cases h3 : -200000 ≤ p.toInt ∧ p.toInt ≤ q.toInt ∧ q.toInt ≤ 200000
  · rw [if_pos h3] at hrC
    rw [if_pos ⟨h3.1, h3.2.1⟩] at hi1
    rw [if_pos ⟨h3.2.1, h3.2.2⟩] at hi2
    obtain ⟨r, x', y', e1, e2, e3, e4, e5⟩ := pz_tell hI (b := b) (t := t) (o := -1) (p := p) (q := q) ⟨h1, h2, Or.inl ⟨by decide, h3.1, h3.2.1, h3.2.2⟩⟩
    refine ⟨r, x', y', ?_, ?_, e3, by omega, e5⟩
    · rw [← s1] at e1
      simp [f_X9_on, hbC, htC, hrC, e1]
    · simp [f_X10_onMore, hbR, htR, hi1, hi2, e2]
  · refine ⟨-2, x, y, ?_, ?_, hI, Or.inr (Or.inl (by decide)), rfl⟩
    · rw [if_neg h3] at hrC
      simp [f_X9_on, hbC, htC, hrC]
    · by_cases h4 : -200000 ≤ p.toInt ∧ p.toInt ≤ q.toInt
      · rw [if_pos h4] at hi1
        rw [if_neg (by omega)] at hi2
        simp [f_X10_onMore, hbR, htR, hi1, hi2]
      · rw [if_neg h4] at hi1
        simp [f_X10_onMore, hbR, htR, hi1]
theorem lq_on_ok : lq_on pz_I := by
  intro x y b t p q hI
  obtain ⟨r, x', y', e1, e2, e3, -⟩ := pz_on hI b t p q
  exact ⟨r, x', y', e1, by simp [f_X10_on, e2], e3⟩
theorem pz_two {x y : ax_S} (hI : pz_I x y) (t o : Int32) : f_X9_areTwoThings t o x = some (if (0 ≤ t.toInt ∧ t.toInt < (y.1 0 1).toInt) ∧ (0 ≤ o.toInt ∧ o.toInt < (y.1 0 1).toInt) ∧ t.toInt ≠ o.toInt then 1 else 0) := by
  obtain ⟨hsc, har, hsh, hnu, hbk, hrw, htx⟩ := id hI
  obtain ⟨s1, s2, s3, s4, s5, s6, s7⟩ := id hsc
  unfold f_X9_areTwoThings
  rw [pz_isThingC, pz_isThingC, s3, Option.bind_some, pz_if0]
  by_cases h1 : 0 ≤ t.toInt ∧ t.toInt < (y.1 0 1).toInt
  case neg =>
    rw [if_neg h1, if_neg (by omega)]
  rw [if_pos h1, Option.bind_some, pz_if0]
  by_cases h2 : 0 ≤ o.toInt ∧ o.toInt < (y.1 0 1).toInt
  case neg =>
    rw [if_neg h2, if_neg (by omega)]
  rw [if_pos h2]
  by_cases h3 : t.toInt = o.toInt
  · rw [if_pos (z_eq.mpr h3), if_neg (by omega)]
  · rw [if_neg (fun q => h3 (z_eq.mp q)), if_pos (by omega)]
theorem pz_apart {x y : ax_S} (hI : pz_I x y) (b t o p q : Int32) : ∃ r x' y', f_X9_apart b t o p q x = some (r, x') ∧ f_X10_apartMore b t o p q y = some (r, y') ∧ pz_I x' y' ∧ (r.toInt = -4 ∨ r.toInt = -2 ∨ 0 ≤ r.toInt) ∧ y'.1 24 = y.1 24 := by
  obtain ⟨hsc, har, hsh, hnu, hbk, hrw, htx⟩ := id hI
  obtain ⟨s1, s2, s3, s4, s5, s6, s7⟩ := id hsc
  obtain ⟨n1, n2, n3, n4, n5, n6, n7, n8, n9, n10, n11, n12⟩ := id hnu
  have hbC : f_X9_isBook b x = _ := pz_isBookC b x
  have hbR : f_X10_isBook b y = _ := pz_isBookR b y n7
  have htC := pz_two hI t o
  have htR : f_X10_isThing t y = _ := pz_isThingR t y n5
  have hoR : f_X10_isThing o y = _ := pz_isThingR o y n5
  have hrC := pz_isRange p q 100000 (by decide)
  have hi1 := pz_in p (-100000) q
  have hi2 := pz_in q p 100000
  rw [show (100000 : Int32).toInt = 100000 from by decide] at hrC hi2
  rw [show (-100000 : Int32).toInt = -100000 from by decide] at hi1
  rw [s5] at hbC
  by_cases h1 : 0 ≤ b.toInt ∧ b.toInt < (y.1 0 2).toInt
  case neg =>
    rw [if_neg h1] at hbC hbR
    exact ⟨-2, x, y, by simp [f_X9_apart, hbC], by simp [f_X10_apartMore, hbR], hI, Or.inr (Or.inl (by decide)), rfl⟩
  rw [if_pos h1] at hbC hbR
  by_cases h2 : 0 ≤ t.toInt ∧ t.toInt < (y.1 0 1).toInt
  case neg =>
    rw [if_neg (by omega)] at htC
    rw [if_neg h2] at htR
    exact ⟨-2, x, y, by simp [f_X9_apart, hbC, htC], by simp [f_X10_apartMore, hbR, htR], hI, Or.inr (Or.inl (by decide)), rfl⟩
  rw [if_pos h2] at htR
  by_cases h3 : 0 ≤ o.toInt ∧ o.toInt < (y.1 0 1).toInt
  case neg =>
    rw [if_neg (by omega)] at htC
    rw [if_neg h3] at hoR
    exact ⟨-2, x, y, by simp [f_X9_apart, hbC, htC], by simp [f_X10_apartMore, hbR, htR, hoR], hI, Or.inr (Or.inl (by decide)), rfl⟩
  rw [if_pos h3] at hoR
  by_cases h4 : t.toInt = o.toInt
  · rw [if_neg (by omega)] at htC
    exact ⟨-2, x, y, by simp [f_X9_apart, hbC, htC], by simp [f_X10_apartMore, hbR, htR, hoR, z_eq, h4], hI, Or.inr (Or.inl (by decide)), rfl⟩
  rw [if_pos (by omega)] at htC
  by_cases h5 : -100000 ≤ p.toInt ∧ p.toInt ≤ q.toInt ∧ q.toInt ≤ 100000
  · rw [if_pos h5] at hrC
    rw [if_pos ⟨h5.1, h5.2.1⟩] at hi1
    rw [if_pos ⟨h5.2.1, h5.2.2⟩] at hi2
    obtain ⟨r, x', y', e1, e2, e3, e4, e5⟩ := pz_tell hI (b := b) (t := t) (o := o) (p := p) (q := q) ⟨h1, h2, Or.inr ⟨h3.1, h3.2, by omega, h5.1, h5.2.1, h5.2.2⟩⟩
    refine ⟨r, x', y', ?_, ?_, e3, by omega, e5⟩
    · rw [← s1] at e1
      simp [f_X9_apart, hbC, htC, hrC, e1]
    · simp [f_X10_apartMore, hbR, htR, hoR, z_eq, h4, hi1, hi2, e2]
  · refine ⟨-2, x, y, ?_, ?_, hI, Or.inr (Or.inl (by decide)), rfl⟩
    · rw [if_neg h5] at hrC
      simp [f_X9_apart, hbC, htC, hrC]
    · by_cases h6 : -100000 ≤ p.toInt ∧ p.toInt ≤ q.toInt
      · rw [if_pos h6] at hi1
        rw [if_neg (by omega)] at hi2
        simp [f_X10_apartMore, hbR, htR, hoR, z_eq, h4, hi1, hi2]
      · rw [if_neg h6] at hi1
        simp [f_X10_apartMore, hbR, htR, hoR, z_eq, h4, hi1]
theorem lq_apart_ok : lq_apart pz_I := by
  intro x y b t o p q hI
  obtain ⟨r, x', y', e1, e2, e3, -⟩ := pz_apart hI b t o p q
  exact ⟨r, x', y', e1, by simp [f_X10_apart, e2], e3⟩
theorem lq_book_ok : lq_book pz_I := by
  intro x y p q hI
  obtain ⟨hsc, har, hsh, hnu, hbk, hrw, htx⟩ := id hI
  obtain ⟨s1, s2, s3, s4, s5, s6, s7⟩ := id hsc
  obtain ⟨a1, a2, a3, a4, a5, a6, a7, a8, a9, a10, a11, a12, a13⟩ := id har
  obtain ⟨n1, n2, n3, n4, n5, n6, n7, n8, n9, n10, n11, n12⟩ := id hnu
  have hrC := pz_isRange p q 1000 (by decide)
  have hi1 := pz_in p (-1000) q
  have hi2 := pz_in q p 1000
  rw [show (1000 : Int32).toInt = 1000 from by decide] at hrC hi2
  rw [show (-1000 : Int32).toInt = -1000 from by decide] at hi1
  by_cases h5 : -1000 ≤ p.toInt ∧ p.toInt ≤ q.toInt ∧ q.toInt ≤ 1000
  · rw [if_pos h5] at hrC
    rw [if_pos ⟨h5.1, h5.2.1⟩] at hi1
    rw [if_pos ⟨h5.2.1, h5.2.2⟩] at hi2
    by_cases h1 : (y.1 0 2).toInt = 6
    · exact ⟨-4, x, y, by simp [f_X9_book, hrC, f_X0_open, z_lt, s5, h1], by simp [f_X10_book, hi1, hi2, z_eq, h1], hI⟩
    · have h2 : (y.1 0 2).toInt < 6 := by omega
      have e1 : (y.1 0 2 + 1).toInt = (y.1 0 2).toInt + 1 := z_add (by simp only [Int32.reduceToInt]; omega) (by simp only [Int32.reduceToInt]; omega)
      have c0 := z_cl n7
      have eC : ∀ (z : ax_S) (a : Nat) (v : Int32), ax_len cx_C 1 a = some 6 → ax_si cx_C z a (y.1 0 2) v = some (ax_ui z a (y.1 0 2).toNatClampNeg v) := fun z a v ha => z_si ha n7 (by omega)
      have eR : ∀ (z : ax_S) (a : Nat) (v : Int32), ax_len cx_R 1 a = some 6 → ax_si cx_R z a (y.1 0 2) v = some (ax_ui z a (y.1 0 2).toNatClampNeg v) := fun z a v ha => z_si ha n7 (by omega)
      refine ⟨y.1 0 2 + 1 - 1, ax_ui (ax_ui (ax_ui (ax_ui x 26 (y.1 0 2).toNatClampNeg p) 27 (y.1 0 2).toNatClampNeg q) 28 (y.1 0 2).toNatClampNeg 5) 3 3 (y.1 0 2 + 1), ax_ui (ax_ui (ax_ui (ax_ui y 1 (y.1 0 2).toNatClampNeg p) 2 (y.1 0 2).toNatClampNeg q) 3 (y.1 0 2).toNatClampNeg 5) 0 2 (y.1 0 2 + 1), ?_, ?_, ?_⟩
      · simp [f_X9_book, hrC, f_X0_open, z_lt, s5, h2, z_ui, eC _ 26 _ rfl, eC _ 27 _ rfl, eC _ 28 _ rfl]
      · simp [f_X10_book, hi1, hi2, z_eq, h1, z_ui, eR _ 1 _ rfl, eR _ 2 _ rfl, eR _ 3 _ rfl]
      · generalize y.1 0 2 + 1 = v at e1
        refine ⟨?_, ?_, hsh, ?_, ?_, ?_, htx⟩
        · simp only [pz_sc, z_ui]; simpa using ⟨s1, s2, s3, s4, s6, s7⟩
        · simp [pz_ar, ax_ui, a1, a2, a3, a4, a5, a6, a7, a8, a9, a10, a11, a12, a13]
        · simp only [pz_nu, z_ui]; simp; omega
        · intro r hr
          simp only [z_ui] at hr ⊢
          simp at hr ⊢
          by_cases hrr : r = (y.1 0 2).toNatClampNeg
          · simp only [hrr, if_true]
            exact ⟨h5.1, h5.2.1, h5.2.2, by decide, by decide⟩
          · simp only [hrr, if_false]
            exact hbk r (by omega)
        · intro r hr
          have := hrw r hr
          simp only [z_ui] at this ⊢
          simp
          omega
  · refine ⟨-2, x, y, ?_, ?_, hI⟩
    · rw [if_neg h5] at hrC
      simp [f_X9_book, hrC]
    · by_cases h6 : -1000 ≤ p.toInt ∧ p.toInt ≤ q.toInt
      · rw [if_pos h6] at hi1
        rw [if_neg (by omega)] at hi2
        simp [f_X10_book, hi1, hi2]
      · rw [if_neg h6] at hi1
        simp [f_X10_book, hi1]

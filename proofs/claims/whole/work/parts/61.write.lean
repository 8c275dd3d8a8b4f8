/-! write -/
theorem nz_endCg {x x' : ax_S} (h1 : x'.1 15 = x.1 15) (h2 : x'.1 16 = x.1 16) (p e : Int32) : f_X6_endOfThing p e x' = f_X6_endOfThing p e x := by
  unfold f_X6_endOfThing ax_ai
  rw [h1, h2]
theorem nz_endRg {y y' : ax_S} (h1 : y'.1 11 = y.1 11) (p e : Int32) : f_X10_endOf p e y' = f_X10_endOf p e y := by
  unfold f_X10_endOf ax_ai
  rw [h1]
theorem lq_write_ok : lq_write pz_I := by
  intro x y p hI
  have hI' := hI
  obtain ⟨hsc, har, hsh, hnu, hbk, hrw, htx⟩ := hI
  have hth : 0 ≤ (y.1 0 1).toInt ∧ (y.1 0 1).toInt ≤ 12 := ⟨hnu.2.2.2.2.1, hnu.2.2.2.2.2.1⟩
  unfold f_X9_write f_X10_write
  rw [pz_isSheetC, Option.bind_some, pz_if0, pz_isSheetR, Option.bind_some, pz_if0]
  by_cases c : 0 ≤ p.toInt ∧ p.toInt < 4
  case neg => rw [if_neg c, if_neg c]; exact ⟨_, x, y, rfl, rfl, hI'⟩
  have cp := z_cl c.1
  rw [if_pos c, if_pos c, pz_lostC hI' p c, Option.bind_some, pz_if0, z_ab (Sd := cx_R) (x := y) (a := 22) (n := 4) rfl c.1 (by omega), Option.bind_some]
  by_cases d : y.1 22 p.toNatClampNeg = 0
  · rw [if_pos d, if_pos d]
    unfold f_X9_found f_X10_meets
    exact ⟨_, _, _, rfl, rfl, pz_find hI' _⟩
  rw [if_neg d, if_neg d, pz_KC hI', Option.bind_some]
  obtain ⟨fl, x1, y1, h1, h2, h3, h4, h5, h6⟩ := nz_all2 hI'
  rw [h1, Option.bind_some, h2, Option.bind_some]
  dsimp only
  rcases h6 with ⟨rfl, k, k'⟩ | ⟨rfl, -⟩
  case inr => exact ⟨_, x1, y1, rfl, rfl, h5⟩
  rw [if_neg pz_one, if_neg pz_one, z_ai (Sd := cx_C) (x := x1) (a := 38) (n := 4) rfl c.1 (by omega), Option.bind_some]
  have hs1 := hsh p.toNatClampNeg (by omega)
  have e38 : x1.1 38 p.toNatClampNeg = y.1 24 p.toNatClampNeg := by
    rw [h3.1 38 (by omega) (by omega), har.2.2.2.2.2.2.2.2.2.2.2.1]
  have e010 : x1.1 0 10 = y.1 0 1 := by rw [h3.1 0 (by omega) (by omega), hsc.2.2.1]
  rw [e38, e010]
  have h2t : ((2 : Int32) * y.1 0 1).toInt = 2 * (y.1 0 1).toInt := by
    rw [z_mul (by simp only [Int32.reduceToInt]; omega) (by simp only [Int32.reduceToInt]; omega)]
    simp only [Int32.reduceToInt]
  obtain ⟨N, hN1, hN2, hN3, hN4⟩ : ∃ N : Nat, ax_min (y.1 24 p.toNatClampNeg) ((2 : Int32) * y.1 0 1) = nI N ∧ (N : Int) ≤ (y.1 24 p.toNatClampNeg).toInt ∧ (N : Int) ≤ 2 * (y.1 0 1).toInt ∧ ((N : Int) = (y.1 24 p.toNatClampNeg).toInt ∨ (N : Int) = 2 * (y.1 0 1).toInt) := by
    unfold ax_min
    by_cases q : (2 : Int32) * y.1 0 1 < y.1 24 p.toNatClampNeg
    · rw [if_pos q]
      rw [z_lt, h2t] at q
      have cc := z_cl (a := (2 : Int32) * y.1 0 1) (by omega)
      exact ⟨_, z_of (by omega), by omega, by omega, by omega⟩
    · rw [if_neg q]
      rw [z_lt, h2t] at q
      have cc := z_cl (a := y.1 24 p.toNatClampNeg) (by omega)
      exact ⟨_, z_of (by omega), by omega, by omega, by omega⟩
  rw [hN1]
  have hNI : (nI N).toInt = (N : Int) := z_nI (by omega)
  have h37 : x1.1 37 p.toNatClampNeg = y1.1 23 p.toNatClampNeg := by
    rw [h3.1 37 (by omega) (by omega), h4.1 23 (by omega)]
    rcases hs1.1 with ⟨q, -⟩ | ⟨-, q, -⟩
    · exact absurd q d
    · exact q
  have key := z_two (f := b_X9_write_65 p (nI N)) (g := b_X10_write_37 p)
    (fun a b => ∃ j, j ≤ N ∧ a.1 = nI j ∧ b.1 = nI j ∧ (∀ q, q ≠ 39 → a.2.1 q = x1.1 q) ∧ (∀ q, q ≠ 25 → b.2.1 q = y1.1 q) ∧ pz_I a.2 b.2)
    (fun e e' => e'.1 = nI N ∧ pz_I e e'.2) (fun a => N - a.1.toNatClampNeg) (by
    rintro ⟨_, s⟩ ⟨_, t⟩ ⟨j, hj, g1, g2, g3, g4, g5⟩
    dsimp only at g1 g2 g3 g4 g5
    subst g1 g2
    have hjI : (nI j).toInt = (j : Int) := z_nI (by omega)
    have hjc := nI_cl (k := j) (by omega)
    have e24 : t.1 24 p.toNatClampNeg = y.1 24 p.toNatClampNeg := by rw [g4 24 (by omega), h4.1 24 (by omega)]
    have e01 : t.1 0 1 = y.1 0 1 := by rw [g4 0 (by omega), h4.1 0 (by omega)]
    by_cases hl : j = N
    · left
      refine ⟨s, (nI j, t), z_lpr ?_, z_lpr ?_, by rw [hl], g5⟩
      · unfold b_X9_write_65
        dsimp only
        rw [if_pos (by rw [z_le]; omega)]
      · unfold b_X10_write_37
        dsimp only
        rw [e01, z_ai (Sd := cx_R) (x := t) (a := 24) (n := 4) rfl c.1 (by omega), Option.bind_some, e24]
        by_cases q : (2 : Int32) * y.1 0 1 ≤ nI j
        · rw [if_pos q]
        · rw [if_neg q]
          rw [z_le, h2t, hjI] at q
          have q2 : y.1 24 p.toNatClampNeg ≤ nI j := by rw [z_le, hjI]; omega
          rw [if_pos q2]
    · right
      have e2 : (2 : Int32).toInt = 2 := by decide
      have hdv := z_div (a := nI j) (b := 2) (by omega) (by omega)
      obtain ⟨v, v1, v2⟩ := z_irem (a := nI j) (b := 2) (by omega) (by omega)
      rw [hjI, e2] at hdv v2
      obtain ⟨w, w1, w2, -⟩ := nz_end hnu hbk k k' (p := nI j / 2) (e := v) (by omega) (by omega)
      refine ⟨(nI j + 1, ax_ui s 39 (40 * p.toNatClampNeg + j) (pz_nw (x1.1 37 p.toNatClampNeg) w)), (nI j + 1, ax_ui t 25 (40 * p.toNatClampNeg + j) (pz_nw (x1.1 37 p.toNatClampNeg) w)), z_lpl ?_, z_lpl ?_, ⟨j + 1, by omega, nI_s j, nI_s j, ?_, ?_, pz_putI g5 _ _⟩, ?_⟩
      · unfold b_X9_write_65
        dsimp only
        rw [if_neg (by rw [z_le]; omega), z_idiv (by omega), Option.bind_some, v1, Option.bind_some, nz_endCg (g3 15 (by omega)) (g3 16 (by omega)), w1, Option.bind_some, pz_storeC c (by omega), Option.bind_some, hjc, g3 37 (by omega)]
      · unfold b_X10_write_37
        dsimp only
        rw [e01, if_neg (by rw [z_le, h2t]; omega), z_ai (Sd := cx_R) (x := t) (a := 24) (n := 4) rfl c.1 (by omega), Option.bind_some, e24, if_neg (by rw [z_le]; omega), z_idiv (by omega), Option.bind_some, v1, Option.bind_some, nz_endRg (g4 11 (by omega)), w2, Option.bind_some, pz_layR c (by omega), Option.bind_some, hjc, g4 23 (by omega), h37]
      · intro q hq
        dsimp only
        rw [(z_only_ui 39 _ _ s).1 q hq]
        exact g3 q hq
      · intro q hq
        dsimp only
        rw [(z_only_ui 25 _ _ t).1 q hq]
        exact g4 q hq
      · dsimp only
        rw [nI_s j, nI_cl (by omega), hjc]
        omega)
    (a := ((0 : Int32), x1)) (b := ((0 : Int32), y1)) ⟨0, Nat.zero_le _, rfl, rfl, fun _ _ => rfl, fun _ _ => rfl, h5⟩
  obtain ⟨xe, ⟨r, ye⟩, q1, q2, q3, q4⟩ := key
  dsimp only at q3 q4
  subst q3
  rw [q1, q2]
  exact ⟨nI N, xe, ye, rfl, rfl, q4⟩

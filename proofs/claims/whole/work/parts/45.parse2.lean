theorem pz_dot {x y : ax_S} (hP : pz_P x y) (hf : y.1 0 33 = -1) : ∃ w x' y', f_X2_readDot x = some (w, x') ∧ f_X10_dot y = some y' ∧ pz_I x' y' ∧ y'.1 0 34 = y.1 0 34 ∧ x'.1 7 2 = x.1 7 2 ∧ x'.1 7 5 = x.1 7 5 ∧ ((w = -1 ∧ y'.1 0 33 = -1 ∧ pz_P x' y') ∨ (w ≠ -1 ∧ y'.1 0 33 = w)) := by
  obtain ⟨hI, hp, h0, h1⟩ := id hP
  obtain ⟨n1, n2, n3, n4, n5, n6, n7, n8, n9, n10, n11, n12⟩ := id hI.2.2.2.1
  obtain ⟨b, g1, g2, g3, g4, g5, g6⟩ := pz_sign hP
  have at1 := z_add1 (m := y.1 0 32) (by omega) (by omega)
  have hne : y.1 0 32 ≠ -1 := by
    intro q
    rw [q] at h0
    revert h0
    decide
  unfold f_X2_readDot f_X10_dot
  rw [g1, g2, if_pos hf, Option.bind_some, Option.bind_some, hp]
  by_cases hb : b = 46
  · rw [if_pos hb, if_pos hb]
    have hb' : b.toInt = 46 := by rw [hb]; decide
    have hI' : pz_I (ax_ui x 7 4 (y.1 0 32 + 1)) (ax_ui y 0 32 (y.1 0 32 + 1)) := pz_fr hI (pz_e7 x (by decide) _) (pz_e0 y (by decide) _)
    refine ⟨-1, _, _, rfl, rfl, hI', by rw [z_ui, if_neg (by decide)], by rw [z_ui, if_neg (by decide)], by rw [z_ui, if_neg (by decide)], Or.inl ⟨rfl, by rw [z_ui, if_neg (by decide)]; exact hf, hI', by simp [z_ui], ?_, ?_⟩⟩
    · rw [z_ui, if_pos ⟨rfl, rfl⟩]; omega
    · rw [z_ui, if_pos ⟨rfl, rfl⟩, z_ui, if_neg (by decide)]
      have := g5 (by omega)
      omega
  · rw [if_neg hb, if_neg hb]
    refine ⟨y.1 0 32, x, _, rfl, rfl, pz_fr hI (pz_eC_rf x) (pz_eR_tr (pz_e0 y (by decide) _) (pz_e0 _ (by decide) _)), ?_, rfl, rfl, Or.inr ⟨hne, ?_⟩⟩
    · rw [z_ui, if_neg (by decide), z_ui, if_neg (by decide)]
    · rw [z_ui, if_neg (by decide), z_ui, if_pos ⟨rfl, rfl⟩]
/-- with a fault, the reference goes on and changes nothing but its place -/
theorem pz_figF {y : ax_S} (hf : y.1 0 33 ≠ -1) (mx hi : Int32) : f_X10_figures mx hi y = some (0, y) := by
  unfold f_X10_figures
  have : b_X10_figures_8 mx hi (y.1 0 32) (0, y) = some (.inr (0, y)) := by
    unfold b_X10_figures_8
    dsimp only
    rw [if_neg hf]
  rw [z_lp, this]
  show j_X10_figures_84 hi (y.1 0 32) 0 y = _
  unfold j_X10_figures_84
  rw [if_neg hf]
theorem pz_dotF {y : ax_S} (hf : y.1 0 33 ≠ -1) : f_X10_dot y = some (ax_ui y 0 32 (y.1 0 32 + 1)) := by
  unfold f_X10_dot
  rw [if_neg hf]
theorem pz_81F {y : ax_S} (hf : y.1 0 33 ≠ -1) (a b c d : Int32) : j_X10_date_81 a b c d y = some (0, y) := by
  unfold j_X10_date_81
  rw [if_neg hf]
theorem pz_71F {x : ax_S} {w : Int32} (hw : w ≠ -1) (a b c : Int32) : j_X2_readDate_71 a w b c x = some (w, x) := by
  unfold j_X2_readDate_71
  rw [if_neg hw]
theorem pz_57F {x : ax_S} {w : Int32} (hw : w ≠ -1) (a b c : Int32) : j_X2_readDate_57 a w b c x = some (w, x) := by
  unfold j_X2_readDate_57
  rw [if_neg hw, pz_71F hw]
theorem pz_41F {x : ax_S} {w : Int32} (hw : w ≠ -1) (a b : Int32) : j_X2_readDate_41 a w b x = some (w, x) := by
  unfold j_X2_readDate_41
  rw [if_neg hw, pz_57F hw]
theorem pz_28F {x : ax_S} {w : Int32} (hw : w ≠ -1) (a b : Int32) : j_X2_readDate_28 a w b x = some (w, x) := by
  unfold j_X2_readDate_28
  rw [if_neg hw, pz_41F hw]
theorem pz_up33 {y : ax_S} (v : Int32) : (ax_ui y 0 32 v).1 0 33 = y.1 0 33 := by rw [z_ui, if_neg (by decide)]
theorem pz_up34 {y : ax_S} (v : Int32) : (ax_ui y 0 32 v).1 0 34 = y.1 0 34 := by rw [z_ui, if_neg (by decide)]
theorem pz_date {x y : ax_S} (hP : pz_P x y) (hf : y.1 0 33 = -1) : ∃ w d x' y', f_X2_readDate x = some (w, x') ∧ f_X10_date y = some (d, y') ∧ pz_I x' y' ∧ y'.1 0 34 = y.1 0 34 ∧ x'.1 7 2 = x.1 7 2 ∧
    ((w = -1 ∧ y'.1 0 33 = -1 ∧ pz_P x' y' ∧ x'.1 7 6 = d ∧ -72744 ≤ d.toInt ∧ d.toInt ≤ 150000) ∨ (w ≠ -1 ∧ y'.1 0 33 = w)) := by
  obtain ⟨hI, hp, h0, h1⟩ := id hP
  obtain ⟨n1, n2, n3, n4, n5, n6, n7, n8, n9, n10, n11, n12⟩ := id hI.2.2.2.1
  have hne : y.1 0 32 ≠ -1 := by
    intro q
    rw [q] at h0
    revert h0
    decide
  -- the day
  obtain ⟨w1, v1, x1, y1, c1, r1, P1, k1, l1, m1, o1⟩ := pz_num hP hf 2 (by omega) 31
  rw [show nI 2 = (2 : Int32) from rfl] at c1 r1
  unfold f_X2_readDate f_X10_date
  rw [c1, r1, Option.bind_some, Option.bind_some]
  dsimp only
  rw [hp]
  rcases o1 with ⟨p1, q1, t1, u1⟩ | ⟨p1, q1, t1⟩
  case inr =>
    have g0 : y1.1 0 33 ≠ -1 := by rw [q1]; exact t1
    have g1 : (ax_ui y1 0 32 (y1.1 0 32 + 1)).1 0 33 ≠ -1 := by rw [pz_up33]; exact g0
    rw [if_neg t1, pz_28F t1, pz_dotF g0, Option.bind_some, pz_figF g1, Option.bind_some]
    dsimp only
    rw [pz_dotF g1, Option.bind_some]
    have g2 : (ax_ui (ax_ui y1 0 32 (y1.1 0 32 + 1)) 0 32 ((ax_ui y1 0 32 (y1.1 0 32 + 1)).1 0 32 + 1)).1 0 33 ≠ -1 := by rw [pz_up33]; exact g1
    rw [pz_figF g2, Option.bind_some]
    dsimp only
    rw [if_neg g2, pz_81F g2]
    refine ⟨w1, 0, x1, _, rfl, rfl, pz_fr P1.1 (pz_eC_rf _) (pz_eR_tr (pz_e0 _ (by decide) _) (pz_e0 _ (by decide) _)), by rw [pz_up34, pz_up34, k1], l1, Or.inr ⟨t1, by rw [pz_up33, pz_up33, q1]⟩⟩
  rw [if_pos p1]
  -- a dot
  obtain ⟨w2, x2, y2, c2, r2, I2, k2, l2, m2, o2⟩ := pz_dot P1 q1
  rw [c2, r2, Option.bind_some, Option.bind_some]
  dsimp only
  rcases o2 with ⟨p2, q2, P2⟩ | ⟨p2, q2⟩
  case inr =>
    have g1 : y2.1 0 33 ≠ -1 := by rw [q2]; exact p2
    rw [pz_28F p2, pz_figF g1, Option.bind_some]
    dsimp only
    rw [pz_dotF g1, Option.bind_some]
    have g2 : (ax_ui y2 0 32 (y2.1 0 32 + 1)).1 0 33 ≠ -1 := by rw [pz_up33]; exact g1
    rw [pz_figF g2, Option.bind_some]
    dsimp only
    rw [if_neg g2, pz_81F g2]
    exact ⟨w2, 0, x2, _, rfl, rfl, pz_fr I2 (pz_eC_rf _) (pz_e0 _ (by decide) _), by rw [pz_up34, k2, k1], by rw [l2, l1], Or.inr ⟨p2, by rw [pz_up33, q2]⟩⟩
  rw [p2]
  unfold j_X2_readDate_28
  rw [if_pos rfl]
  -- the month
  obtain ⟨w3, v3, x3, y3, c3, r3, P3, k3, l3, m3, o3⟩ := pz_num P2 q2 2 (by omega) 12
  rw [show nI 2 = (2 : Int32) from rfl] at c3 r3
  rw [c3, r3, Option.bind_some, Option.bind_some]
  dsimp only
  rcases o3 with ⟨p3, q3, t3, u3⟩ | ⟨p3, q3, t3⟩
  case inr =>
    have g1 : y3.1 0 33 ≠ -1 := by rw [q3]; exact t3
    rw [pz_41F t3, pz_dotF g1, Option.bind_some]
    have g2 : (ax_ui y3 0 32 (y3.1 0 32 + 1)).1 0 33 ≠ -1 := by rw [pz_up33]; exact g1
    rw [pz_figF g2, Option.bind_some]
    dsimp only
    rw [if_neg g2, pz_81F g2]
    exact ⟨w3, 0, x3, _, rfl, rfl, pz_fr P3.1 (pz_eC_rf _) (pz_e0 _ (by decide) _), by rw [pz_up34, k3, k2, k1], by rw [l3, l2, l1], Or.inr ⟨t3, by rw [pz_up33, q3]⟩⟩
  rw [p3]
  unfold j_X2_readDate_41
  rw [if_pos rfl, m3]
  -- a dot
  obtain ⟨w4, x4, y4, c4, r4, I4, k4, l4, m4, o4⟩ := pz_dot P3 q3
  rw [c4, r4, Option.bind_some, Option.bind_some]
  dsimp only
  rcases o4 with ⟨p4, q4, P4⟩ | ⟨p4, q4⟩
  case inr =>
    have g1 : y4.1 0 33 ≠ -1 := by rw [q4]; exact p4
    rw [pz_57F p4, pz_figF g1, Option.bind_some]
    dsimp only
    rw [if_neg g1, pz_81F g1]
    exact ⟨w4, 0, x4, _, rfl, rfl, I4, by rw [k4, k3, k2, k1], by rw [l4, l3, l2, l1], Or.inr ⟨p4, q4⟩⟩
  rw [p4]
  unfold j_X2_readDate_57
  rw [if_pos rfl]
  -- the year
  obtain ⟨w5, v5, x5, y5, c5, r5, P5, k5, l5, m5, o5⟩ := pz_num P4 q4 3 (by omega) 600
  rw [show nI 3 = (3 : Int32) from rfl] at c5 r5
  rw [c5, r5, Option.bind_some, Option.bind_some]
  dsimp only
  rcases o5 with ⟨p5, q5, t5, u5⟩ | ⟨p5, q5, t5⟩
  case inr =>
    have g1 : y5.1 0 33 ≠ -1 := by rw [q5]; exact t5
    rw [pz_71F t5, if_neg g1, pz_81F g1]
    exact ⟨w5, 0, x5, _, rfl, rfl, P5.1, by rw [k5, k4, k3, k2, k1], by rw [l5, l4, l3, l2, l1], Or.inr ⟨t5, q5⟩⟩
  rw [p5]
  unfold j_X2_readDate_71
  rw [if_pos rfl, if_pos q5, m5, m1]
  -- the letter
  obtain ⟨hI5, hp5, h05, h15⟩ := id P5
  obtain ⟨-, -, -, -, -, -, -, -, -, -, -, n12'⟩ := id hI5.2.2.2.1
  obtain ⟨b, g1, g2, g3, g4, g5, g6⟩ := pz_sign P5
  have at1 := z_add1 (m := y5.1 0 32) (by omega) (by omega)
  have hne5 : y5.1 0 32 ≠ -1 := by
    intro q
    rw [q] at h05
    revert h05
    decide
  have bc : (b - 97).toInt = b.toInt - 97 := by
    rw [z_sub (by rw [show (97 : Int32).toInt = 97 from by decide]; omega) (by rw [show (97 : Int32).toInt = 97 from by decide]; omega)]
    rfl
  unfold f_X2_readLetter
  rw [g1, g2, Option.bind_some, Option.bind_some, Option.bind_some, pz_isOne, bc, Option.bind_some, pz_if0, hp5]
  by_cases hb : 0 ≤ b.toInt - 97 ∧ b.toInt - 97 ≤ 1
  case neg =>
    have hb1 : ¬ b = 97 := fun q => hb (by rw [q]; decide)
    have hb2 : ¬ b = 98 := fun q => hb (by rw [q]; decide)
    rw [if_neg hb, if_neg hb1, if_neg hb2, Option.bind_some]
    have g7 : (ax_ui y5 0 33 (y5.1 0 32)).1 0 33 ≠ -1 := by rw [z_ui, if_pos ⟨rfl, rfl⟩]; exact hne5
    rw [pz_81F g7]
    refine ⟨_, 0, _, _, rfl, rfl, pz_fr hI5 (pz_eC_rf _) (pz_e0 _ (by decide) _), by rw [z_ui, if_neg (by decide), k5, k4, k3, k2, k1], by rw [l5, l4, l3, l2, l1], Or.inr ⟨hne5, by rw [z_ui, if_pos ⟨rfl, rfl⟩]⟩⟩
  rw [if_pos hb]
  have hlt := g5 (by omega)
  have j81 : (if b = 97 then j_X10_date_81 (y.1 0 32) v1 v3 v5 y5 else if b = 98 then j_X10_date_81 (y.1 0 32) v1 v3 v5 y5 else j_X10_date_81 (y.1 0 32) v1 v3 v5 (ax_ui y5 0 33 (y5.1 0 32))) = j_X10_date_81 (y.1 0 32) v1 v3 v5 y5 := by
    by_cases hb1 : b = 97
    · rw [if_pos hb1]
    · have hb2 : b = 98 := z_eq.mpr (by
        have : ¬ b.toInt = 97 := fun q => hb1 (z_eq.mpr (by rw [q]; decide))
        rw [show (98 : Int32).toInt = 98 from by decide]
        omega)
      rw [if_neg hb1, if_pos hb2]
  rw [j81]
  have u3' : v3.toInt ≤ 12 := u3
  have u5' : v5.toInt ≤ 600 := u5
  have u1' : v1.toInt ≤ 31 := u1
  have bz : 0 ≤ (b - 97).toInt ∧ (b - 97).toInt ≤ 1 := by rw [bc]; exact hb
  obtain ⟨dm, e1, e2⟩ := pz_daysOf (c := b - 97) (m := v3) (y := v5) ⟨t3, u3'⟩ (by omega)
  obtain ⟨dn, f1, f2, f3⟩ := pz_dnE (c := b - 97) (d := v1) (m := v3) (y := v5) (ax_ui x5 7 4 (y5.1 0 32 + 1)) bz ⟨by omega, by omega⟩ ⟨t3, u3'⟩ ⟨t5, by omega⟩
  have hdn : -72744 ≤ dn.toInt ∧ dn.toInt ≤ 150000 := by
    rw [f3]
    have sb := pz_S_b (b - 97).toInt v3.toInt v5.toInt
    have b0 : -72744 ≤ pz_fd (b - 97).toInt ∧ pz_fd (b - 97).toInt ≤ -72742 := by unfold pz_fd; split <;> omega
    have b1 : 0 ≤ pz_lu (b - 97).toInt (v5.toInt - 1) ∧ pz_lu (b - 97).toInt (v5.toInt - 1) ≤ 200 := by unfold pz_lu; split <;> omega
    unfold pz_S at sb
    unfold pz_dn
    omega
  have isd := pz_isDate (b - 97) v1 v3 v5 (ax_ui x5 7 4 (y5.1 0 32 + 1))
  have e2' : dm.toInt = pz_md (b - 97).toInt v3.toInt v5.toInt := e2
  unfold j_X10_date_81
  rw [if_pos q5, g2, Option.bind_some, e1, Option.bind_some, f2, isd, Option.bind_some, pz_if0]
  simp only [Option.bind_some, z_le, e2']
  by_cases hd : v1.toInt ≤ pz_md (b - 97).toInt v3.toInt v5.toInt
  · rw [if_pos ⟨⟨t5, u5'⟩, ⟨t3, u3'⟩, t1, hd⟩, if_pos hd, f1, Option.bind_some, Option.bind_some]
    have hI' : pz_I (ax_ui (ax_ui x5 7 4 (y5.1 0 32 + 1)) 7 6 dn) (ax_ui y5 0 32 (y5.1 0 32 + 1)) := pz_fr hI5 (pz_eC_tr (pz_e7 _ (by decide) _) (pz_e7 _ (by decide) _)) (pz_e0 _ (by decide) _)
    refine ⟨-1, dn, _, _, rfl, rfl, hI', by rw [pz_up34, k5, k4, k3, k2, k1], ?_, Or.inl ⟨rfl, by rw [pz_up33]; exact q5, ⟨hI', ?_, ?_, ?_⟩, ?_, hdn.1, hdn.2⟩⟩
    · rw [z_ui, if_neg (by decide), z_ui, if_neg (by decide), l5, l4, l3, l2, l1]
    · simp [z_ui]
    · rw [z_ui, if_pos ⟨rfl, rfl⟩]; omega
    · rw [z_ui, if_pos ⟨rfl, rfl⟩, z_ui, if_neg (by decide)]; omega
    · rw [z_ui, if_pos ⟨rfl, rfl⟩]
  · rw [if_neg (fun q => hd q.2.2.2), if_neg hd, Option.bind_some]
    refine ⟨y.1 0 32, dn, _, _, rfl, rfl, pz_fr hI5 (pz_e7 _ (by decide) _) (pz_eR_tr (pz_e0 _ (by decide) _) (pz_e0 _ (by decide) _)), ?_, ?_, Or.inr ⟨hne, ?_⟩⟩
    · rw [z_ui, if_neg (by decide), pz_up34, k5, k4, k3, k2, k1]
    · rw [z_ui, if_neg (by decide), l5, l4, l3, l2, l1]
    · rw [z_ui, if_pos ⟨rfl, rfl⟩]

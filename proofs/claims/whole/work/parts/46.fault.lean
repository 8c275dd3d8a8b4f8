/-! the text's fault, and what is said by it -/
theorem z_lpj {α ε : Type} {f : α → Option (α ⊕ ε)} (J : α → Prop) (Q : ε → Prop) (h : ∀ a, J a → ∀ q, f a = some q → Sum.elim J Q q) {a : α} {e : ε} (ha : J a) (he : ax_lp f a = some e) : Q e := by
  obtain ⟨n, hn⟩ := ax_lp_some he
  clear he
  induction n generalizing a with
  | zero => cases hn
  | succ n ih =>
    simp only [ax_itn] at hn
    cases hf : f a with
    | none => rw [hf] at hn; cases hn
    | some q =>
      rw [hf] at hn
      have := h a ha q hf
      match q, this, hn with
      | .inl a', this, hn => exact ih this hn
      | .inr e0, this, hn => cases hn; exact this
def pz_k (c : Int32 × Int32) (y : ax_S) : Prop := y.1 0 1 = c.1 ∧ y.1 0 2 = c.2
theorem pz_k_ui {c : Int32 × Int32} {y : ax_S} {j : Nat} {v : Int32} (hj : 2 < j) (h : pz_k c y) : pz_k c (ax_ui y 0 j v) := by
  unfold pz_k
  rw [z_ui, z_ui, if_neg (by omega), if_neg (by omega)]
  exact h
theorem pz_k_fig {c : Int32 × Int32} {y : ax_S} {mx hi : Int32} {r : Int32 × ax_S} (h : pz_k c y) (e : f_X10_figures mx hi y = some r) : pz_k c r.2 := by
  unfold f_X10_figures at e
  obtain ⟨e8, h1, h2⟩ := Option.bind_eq_some_iff.mp e
  have h3 : pz_k c e8.2 := by
    refine z_lpj (fun a => pz_k c a.2) (fun a => pz_k c a.2) ?_ h h1
    intro a ha q hq
    unfold b_X10_figures_8 at hq
    split at hq
    · split at hq
      · cases hq; exact ha
      · obtain ⟨_, -, hq⟩ := Option.bind_eq_some_iff.mp hq
        split at hq
        · cases hq; exact ha
        · obtain ⟨_, -, hq⟩ := Option.bind_eq_some_iff.mp hq
          split at hq
          · cases hq; exact ha
          · obtain ⟨_, -, hq⟩ := Option.bind_eq_some_iff.mp hq
            cases hq
            exact pz_k_ui (by decide) ha
    · cases hq; exact ha
  unfold j_X10_figures_84 at h2
  split at h2
  · split at h2
    · cases h2; exact pz_k_ui (by decide) h3
    · obtain ⟨_, -, h2⟩ := Option.bind_eq_some_iff.mp h2
      split at h2
      · cases h2; exact pz_k_ui (by decide) h3
      · cases h2; exact h3
  · cases h2; exact h3
theorem pz_k_dot {c : Int32 × Int32} {y r : ax_S} (h : pz_k c y) (e : f_X10_dot y = some r) : pz_k c r := by
  unfold f_X10_dot at e
  split at e
  · obtain ⟨_, -, e⟩ := Option.bind_eq_some_iff.mp e
    split at e
    · cases e; exact pz_k_ui (by decide) h
    · cases e; exact pz_k_ui (by decide) (pz_k_ui (by decide) h)
  · cases e; exact pz_k_ui (by decide) h
theorem pz_k_81 {c : Int32 × Int32} {y : ax_S} {l1 l2 l3 l4 : Int32} {r : Int32 × ax_S} (h : pz_k c y) (e : j_X10_date_81 l1 l2 l3 l4 y = some r) : pz_k c r.2 := by
  unfold j_X10_date_81 at e
  split at e
  · obtain ⟨_, -, e⟩ := Option.bind_eq_some_iff.mp e
    obtain ⟨_, -, e⟩ := Option.bind_eq_some_iff.mp e
    split at e
    · obtain ⟨_, -, e⟩ := Option.bind_eq_some_iff.mp e
      cases e; exact pz_k_ui (by decide) h
    · obtain ⟨_, -, e⟩ := Option.bind_eq_some_iff.mp e
      cases e; exact pz_k_ui (by decide) (pz_k_ui (by decide) h)
  · cases e; exact h
theorem pz_k_date {c : Int32 × Int32} {y : ax_S} {r : Int32 × ax_S} (h : pz_k c y) (e : f_X10_date y = some r) : pz_k c r.2 := by
  unfold f_X10_date at e
  obtain ⟨_, e1, e⟩ := Option.bind_eq_some_iff.mp e
  have h := pz_k_fig h e1
  obtain ⟨_, e1, e⟩ := Option.bind_eq_some_iff.mp e
  have h := pz_k_dot h e1
  obtain ⟨_, e1, e⟩ := Option.bind_eq_some_iff.mp e
  have h := pz_k_fig h e1
  obtain ⟨_, e1, e⟩ := Option.bind_eq_some_iff.mp e
  have h := pz_k_dot h e1
  obtain ⟨_, e1, e⟩ := Option.bind_eq_some_iff.mp e
  have h := pz_k_fig h e1
  split at e
  · obtain ⟨_, -, e⟩ := Option.bind_eq_some_iff.mp e
    split at e
    · exact pz_k_81 h e
    · obtain ⟨_, -, e⟩ := Option.bind_eq_some_iff.mp e
      split at e
      · exact pz_k_81 h e
      · exact pz_k_81 (pz_k_ui (by decide) h) e
  · exact pz_k_81 h e
theorem pz_k_94 {c : Int32 × Int32} {y : ax_S} {r : Int32 × ax_S} (h : pz_k c y) (e : j_X10_faultNow_94 y = some r) : pz_k c r.2 := by
  unfold j_X10_faultNow_94 at e
  split at e
  · split at e
    · cases e; exact h
    · cases e; exact pz_k_ui (by decide) h
  · cases e; exact h
theorem pz_k_fault {c : Int32 × Int32} {y : ax_S} {r : Int32 × ax_S} (h : pz_k c y) (e : f_X10_faultNow y = some r) : pz_k c r.2 := by
  unfold f_X10_faultNow at e
  obtain ⟨_, e1, e⟩ := Option.bind_eq_some_iff.mp e
  have h := pz_k_date (pz_k_ui (by decide) (pz_k_ui (by decide) h)) e1
  have hh := fun v v' => pz_k_ui (j := 35) (v := v') (by decide) (pz_k_ui (j := 34) (v := v) (by decide) h)
  split at e
  · obtain ⟨_, -, e⟩ := Option.bind_eq_some_iff.mp e
    split at e
    · obtain ⟨_, e2, e⟩ := Option.bind_eq_some_iff.mp e
      have h2 := pz_k_date (pz_k_ui (by decide) (hh _ _)) e2
      split at e
      · split at e
        · exact pz_k_94 (pz_k_ui (by decide) h2) e
        · exact pz_k_94 (pz_k_ui (by decide) (pz_k_ui (by decide) h2)) e
      · exact pz_k_94 (pz_k_ui (by decide) h2) e
    · exact pz_k_94 (hh _ _) e
  · exact pz_k_94 (hh _ _) e
theorem pz_94a {z : ax_S} (h : z.1 0 33 ≠ -1) : j_X10_faultNow_94 z = some (z.1 0 33, z) := by
  unfold j_X10_faultNow_94
  rw [if_neg h]
theorem pz_94b {z : ax_S} (h : z.1 0 33 = -1) (h2 : (z.1 0 30).toInt ≤ (z.1 0 32).toInt) : j_X10_faultNow_94 z = some (-1, z) := by
  unfold j_X10_faultNow_94
  rw [if_pos h, if_pos (z_le.mpr h2), h]
theorem pz_94c {z : ax_S} (h : z.1 0 33 = -1) (h2 : ¬ (z.1 0 30).toInt ≤ (z.1 0 32).toInt) : j_X10_faultNow_94 z = some (z.1 0 32, ax_ui z 0 33 (z.1 0 32)) := by
  unfold j_X10_faultNow_94
  rw [if_pos h, if_neg (fun q => h2 (z_le.mp q)), z_ui, if_pos ⟨rfl, rfl⟩]
def pz_fo (w : Int32) (x y : ax_S) : Prop := w = -1 → x.1 7 2 = y.1 0 34 ∧ x.1 7 3 = y.1 0 35 ∧ -72744 ≤ (y.1 0 34).toInt ∧ (y.1 0 34).toInt ≤ (y.1 0 35).toInt ∧ (y.1 0 35).toInt ≤ 150000
theorem pz_second {x y : ax_S} {d : Int32} (hP : pz_P x y) (hf : y.1 0 33 = -1) (hd : x.1 7 2 = d) (hd' : y.1 0 34 = d) (hd0 : -72744 ≤ d.toInt) : ∃ w x' y', f_X2_readSecond x = some (w, x') ∧
    ((f_X10_date y).bind (fun q64 => (if ((ax_ui q64.2 0 35 q64.1).1 0 33) = (-1 : Int32) then (if ((ax_ui q64.2 0 35 q64.1).1 0 34) ≤ ((ax_ui q64.2 0 35 q64.1).1 0 35) then j_X10_faultNow_94 (ax_ui q64.2 0 35 q64.1) else j_X10_faultNow_94 (ax_ui (ax_ui q64.2 0 35 q64.1) 0 33 (y.1 0 32))) else j_X10_faultNow_94 (ax_ui q64.2 0 35 q64.1)))) = some (w, y') ∧ pz_I x' y' ∧ pz_fo w x' y' := by
  obtain ⟨w, e, x4, y4, c1, r1, I1, k1, l1, o1⟩ := pz_date hP hf
  obtain ⟨hI, hp, h0, h1⟩ := id hP
  have hne : y.1 0 32 ≠ -1 := by
    intro q
    rw [q] at h0
    revert h0
    decide
  unfold f_X2_readSecond
  rw [c1, r1, Option.bind_some, Option.bind_some]
  dsimp only
  have z33 : (ax_ui y4 0 35 e).1 0 33 = y4.1 0 33 := by rw [z_ui, if_neg (by decide)]
  have z34 : (ax_ui y4 0 35 e).1 0 34 = d := by rw [z_ui, if_neg (by decide), k1, hd']
  have z35 : (ax_ui y4 0 35 e).1 0 35 = e := by rw [z_ui, if_pos ⟨rfl, rfl⟩]
  rcases o1 with ⟨p1, q1, P1, e1, b1, b2⟩ | ⟨p1, q1⟩
  case inr =>
    have g : (ax_ui y4 0 35 e).1 0 33 ≠ -1 := by rw [z33, q1]; exact p1
    rw [if_neg p1, if_neg g, pz_94a g]
    exact ⟨w, x4, _, rfl, by rw [z33, q1], pz_fr I1 (pz_eC_rf _) (pz_e0 _ (by decide) _), fun q => absurd q p1⟩
  have g33 : (ax_ui y4 0 35 e).1 0 33 = -1 := by rw [z33]; exact q1
  rw [if_pos p1, if_pos g33, z34, z35, l1, hd, e1]
  by_cases hde : d ≤ e
  case neg =>
    rw [if_neg hde, if_neg hde, hp]
    have g : (ax_ui (ax_ui y4 0 35 e) 0 33 (y.1 0 32)).1 0 33 = y.1 0 32 := by rw [z_ui, if_pos ⟨rfl, rfl⟩]
    rw [pz_94a (by rw [g]; exact hne), g]
    exact ⟨_, x4, _, rfl, rfl, pz_fr I1 (pz_eC_rf _) (pz_eR_tr (pz_e0 _ (by decide) _) (pz_e0 _ (by decide) _)), fun q => absurd q hne⟩
  rw [if_pos hde, if_pos hde]
  obtain ⟨-, hp4, h04, h14⟩ := id P1
  have hsc := I1.1
  obtain ⟨s1, s2, s3, s4, s5, s6, s7⟩ := id hsc
  have hx4 : (ax_ui x4 7 3 e).1 7 4 = y4.1 0 32 := by rw [z_ui, if_neg (by decide), hp4]
  have hx1 : (ax_ui x4 7 3 e).1 7 1 = y4.1 0 30 := by rw [z_ui, if_neg (by decide), s7]
  have z32 : (ax_ui y4 0 35 e).1 0 32 = y4.1 0 32 := by rw [z_ui, if_neg (by decide)]
  have z30 : (ax_ui y4 0 35 e).1 0 30 = y4.1 0 30 := by rw [z_ui, if_neg (by decide)]
  rw [hx4, hx1]
  have hI' : pz_I (ax_ui x4 7 3 e) (ax_ui y4 0 35 e) := pz_fr I1 (pz_e7 _ (by decide) _) (pz_e0 _ (by decide) _)
  have hne4 : y4.1 0 32 ≠ -1 := by
    intro q
    rw [q] at h04
    revert h04
    decide
  by_cases hpl : y4.1 0 32 = y4.1 0 30
  · rw [if_pos hpl, pz_94b (by rw [z33, q1]) (by rw [z32, z30, hpl]; omega)]
    refine ⟨-1, _, _, rfl, rfl, hI', fun _ => ⟨?_, ?_, ?_, ?_, ?_⟩⟩
    · rw [z34, z_ui, if_neg (by decide), l1, hd]
    · rw [z35, z_ui, if_pos ⟨rfl, rfl⟩]
    · rw [z34]; exact hd0
    · rw [z34, z35]; exact z_le.mp hde
    · rw [z35]; exact b2
  · have : ¬ (y4.1 0 32).toInt = (y4.1 0 30).toInt := fun q => hpl (z_eq.mpr q)
    rw [if_neg hpl, pz_94c (by rw [z33, q1]) (by rw [z32, z30]; omega), z32]
    exact ⟨_, _, _, rfl, rfl, pz_fr hI' (pz_eC_rf _) (pz_e0 _ (by decide) _), fun q => absurd q hne4⟩
theorem pz_fault {x y : ax_S} (hI : pz_I x y) : ∃ w x' y', f_X2_findFault x = some (w, x') ∧ f_X10_faultNow y = some (w, y') ∧ pz_I x' y' ∧ pz_fo w x' y' := by
  have P0 : pz_P (ax_ui x 7 4 0) (ax_ui (ax_ui y 0 32 0) 0 33 (-1)) := by
    obtain ⟨-, -, -, -, -, -, -, -, -, -, n11, n12⟩ := id hI.2.2.2.1
    refine ⟨pz_fr hI (pz_e7 _ (by decide) _) (pz_eR_tr (pz_e0 _ (by decide) _) (pz_e0 _ (by decide) _)), ?_, ?_, ?_⟩
    · simp [z_ui]
    · simp [z_ui]
    · simp [z_ui]; exact n11
  obtain ⟨w, d, x1, y1, c1, r1, I1, k1, l1, o1⟩ := pz_date P0 (by simp [z_ui])
  unfold f_X2_findFault f_X10_faultNow
  rw [c1, r1, Option.bind_some, Option.bind_some]
  dsimp only
  have z34 : (ax_ui y1 0 34 d).1 0 34 = d := by rw [z_ui, if_pos ⟨rfl, rfl⟩]
  rw [z34]
  have w33 : (ax_ui (ax_ui y1 0 34 d) 0 35 d).1 0 33 = y1.1 0 33 := by rw [z_ui, if_neg (by decide), z_ui, if_neg (by decide)]
  have w32 : (ax_ui (ax_ui y1 0 34 d) 0 35 d).1 0 32 = y1.1 0 32 := by rw [z_ui, if_neg (by decide), z_ui, if_neg (by decide)]
  have w30 : (ax_ui (ax_ui y1 0 34 d) 0 35 d).1 0 30 = y1.1 0 30 := by rw [z_ui, if_neg (by decide), z_ui, if_neg (by decide)]
  have w34 : (ax_ui (ax_ui y1 0 34 d) 0 35 d).1 0 34 = d := by rw [z_ui, if_neg (by decide), z34]
  have w35 : (ax_ui (ax_ui y1 0 34 d) 0 35 d).1 0 35 = d := by rw [z_ui, if_pos ⟨rfl, rfl⟩]
  have hR : pz_eR y1 (ax_ui (ax_ui y1 0 34 d) 0 35 d) := pz_eR_tr (pz_e0 _ (by decide) _) (pz_e0 _ (by decide) _)
  generalize (ax_ui (ax_ui y1 0 34 d) 0 35 d) = z at w33 w32 w30 w34 w35 hR ⊢
  rcases o1 with ⟨p1, q1, P1, e1, b1, b2⟩ | ⟨p1, q1⟩
  case inr =>
    have g : z.1 0 33 ≠ -1 := by rw [w33, q1]; exact p1
    rw [if_neg p1, if_neg g, pz_94a g]
    exact ⟨w, x1, z, rfl, by rw [w33, q1], pz_fr I1 (pz_eC_rf _) hR, fun q => absurd q p1⟩
  obtain ⟨-, hp1, h01, h11⟩ := id P1
  obtain ⟨s1, s2, s3, s4, s5, s6, s7⟩ := id I1.1
  have g33 : z.1 0 33 = -1 := by rw [w33]; exact q1
  rw [if_pos p1, if_pos g33, e1]
  have x76 : (ax_ui x1 7 2 d).1 7 6 = d := by rw [z_ui, if_neg (by decide), e1]
  rw [x76]
  have v4 : (ax_ui (ax_ui x1 7 2 d) 7 3 d).1 7 4 = y1.1 0 32 := by rw [z_ui, if_neg (by decide), z_ui, if_neg (by decide), hp1]
  have v1 : (ax_ui (ax_ui x1 7 2 d) 7 3 d).1 7 1 = y1.1 0 30 := by rw [z_ui, if_neg (by decide), z_ui, if_neg (by decide), s7]
  have v2 : (ax_ui (ax_ui x1 7 2 d) 7 3 d).1 7 2 = d := by rw [z_ui, if_neg (by decide), z_ui, if_pos ⟨rfl, rfl⟩]
  have v3 : (ax_ui (ax_ui x1 7 2 d) 7 3 d).1 7 3 = d := by rw [z_ui, if_pos ⟨rfl, rfl⟩]
  have hC : pz_eC x1 (ax_ui (ax_ui x1 7 2 d) 7 3 d) := pz_eC_tr (pz_e7 _ (by decide) _) (pz_e7 _ (by decide) _)
  generalize (ax_ui (ax_ui x1 7 2 d) 7 3 d) = u at v1 v2 v3 v4 hC ⊢
  have hIz : pz_I u z := pz_fr I1 hC hR
  have Pz : pz_P u z := ⟨hIz, by rw [v4, w32], by rw [w32]; exact h01, by rw [w32, w30]; exact h11⟩
  obtain ⟨b, g1, g2, g3, g4, g5, g6⟩ := pz_sign Pz
  rw [g2, Option.bind_some, v4, v1, w32]
  rw [w32, w30] at g5 g6
  have hne : y1.1 0 32 ≠ -1 := by
    intro q
    rw [q] at h01
    revert h01
    decide
  have fo : ∀ z', pz_eR z z' → z'.1 0 34 = d → z'.1 0 35 = d → pz_fo (-1) u z' := fun z' _ e4 e5 _ => ⟨by rw [v2, e4], by rw [v3, e5], by rw [e4]; exact b1, by rw [e4, e5]; omega, by rw [e5]; exact b2⟩
  by_cases hpl : y1.1 0 32 = y1.1 0 30
  · have hb : ¬ b = 45 := by
      intro q
      have := g5 (by rw [q]; decide)
      rw [hpl] at this
      omega
    rw [if_pos hpl, if_neg hb, pz_94b (by rw [w33, q1]) (by rw [w32, w30, hpl]; omega)]
    exact ⟨-1, u, z, rfl, rfl, hIz, fo z (pz_eR_rf _) w34 w35⟩
  have hpl' : ¬ (y1.1 0 32).toInt = (y1.1 0 30).toInt := fun q => hpl (z_eq.mpr q)
  rw [if_neg hpl, g1, Option.bind_some]
  by_cases hb : b = 45
  case neg =>
    rw [if_neg hb, if_neg hb, pz_94c (by rw [w33, q1]) (by rw [w32, w30]; omega), w32]
    exact ⟨_, u, _, rfl, rfl, pz_fr hIz (pz_eC_rf _) (pz_e0 _ (by decide) _), fun q => absurd q hne⟩
  rw [if_pos hb, if_pos hb]
  obtain ⟨-, -, -, -, -, -, -, -, -, -, n11, n12⟩ := id I1.2.2.2.1
  have at1 := z_add1 (m := y1.1 0 32) (by omega) (by omega)
  have P3 : pz_P (ax_ui u 7 4 (y1.1 0 32 + 1)) (ax_ui z 0 32 (y1.1 0 32 + 1)) := by
    refine ⟨pz_fr hIz (pz_e7 _ (by decide) _) (pz_e0 _ (by decide) _), ?_, ?_, ?_⟩
    · rw [z_ui, if_pos ⟨rfl, rfl⟩, z_ui, if_pos ⟨rfl, rfl⟩]
    · rw [z_ui, if_pos ⟨rfl, rfl⟩]; omega
    · rw [z_ui, if_pos ⟨rfl, rfl⟩, z_ui, if_neg (by decide), w30]; omega
  obtain ⟨w', x', y', t1, t2, t3, t4⟩ := pz_second (d := d) P3 (by rw [pz_up33, w33, q1]) (by rw [z_ui, if_neg (by decide), v2]) (by rw [pz_up34, w34]) b1
  rw [t1, t2]
  exact ⟨w', x', y', rfl, rfl, t3, t4⟩
theorem lq_fault_ok : lq_fault pz_I := by
  intro x y hI
  obtain ⟨w, x', y', e1, e2, e3, -⟩ := pz_fault hI
  exact ⟨w, x', y', by unfold f_X9_fault; rw [e1]; rfl, by unfold f_X10_fault; rw [e2]; rfl, e3⟩
theorem lq_said_ok : lq_said pz_I := by
  intro x y b t hI
  obtain ⟨hsc, har, hsh, hnu, hbk, hrw, htx⟩ := id hI
  obtain ⟨s1, s2, s3, s4, s5, s6, s7⟩ := id hsc
  obtain ⟨n1, n2, n3, n4, n5, n6, n7, n8, n9, n10, n11, n12⟩ := id hnu
  have hbC : f_X9_isBook b x = _ := pz_isBookC b x
  have hbR : f_X10_isBook b y = _ := pz_isBookR b y n7
  have htC : f_X9_isThing t x = _ := pz_isThingC t x
  have htR : f_X10_isThing t y = _ := pz_isThingR t y n5
  rw [s5] at hbC
  rw [s3] at htC
  by_cases h1 : 0 ≤ b.toInt ∧ b.toInt < (y.1 0 2).toInt
  case neg =>
    rw [if_neg h1] at hbC hbR
    exact ⟨-2, x, y, by simp [f_X9_said, hbC], by simp [f_X10_said, hbR], hI⟩
  rw [if_pos h1] at hbC hbR
  by_cases h2 : 0 ≤ t.toInt ∧ t.toInt < (y.1 0 1).toInt
  case neg =>
    rw [if_neg h2] at htC htR
    exact ⟨-2, x, y, by simp [f_X9_said, hbC, htC], by simp [f_X10_said, hbR, htR], hI⟩
  rw [if_pos h2] at htC htR
  obtain ⟨w, x', y', e1, e2, e3, e4⟩ := pz_fault hI
  obtain ⟨k1, k2⟩ : pz_k (y.1 0 1, y.1 0 2) y' := pz_k_fault (r := (w, y')) ⟨rfl, rfl⟩ e2
  have k1' : y'.1 0 1 = y.1 0 1 := k1
  have k2' : y'.1 0 2 = y.1 0 2 := k2
  unfold f_X9_said f_X10_said
  rw [hbC, hbR, Option.bind_some, Option.bind_some, if_neg (by decide), if_neg (by decide), htC, htR, Option.bind_some, Option.bind_some, if_neg (by decide), if_neg (by decide), e1, e2, Option.bind_some, Option.bind_some]
  dsimp only
  by_cases hw : w = -1
  case neg =>
    rw [if_neg hw, if_neg hw]
    exact ⟨-3, x', y', rfl, rfl, e3⟩
  rw [if_pos hw, if_pos hw]
  obtain ⟨f1, f2, f3, f4, f5⟩ := e4 hw
  obtain ⟨s1', -, -, -, -, -, -⟩ := id e3.1
  rw [f1, f2, s1']
  obtain ⟨r, x2, y2, g1, g2, g3, -, -⟩ := pz_tell e3 (b := b) (t := t) (o := -1) (p := y'.1 0 34) (q := y'.1 0 35) ⟨by rw [k2']; exact h1, by rw [k1']; exact h2, Or.inl ⟨by decide, by omega, f4, by omega⟩⟩
  rw [g1, Option.bind_some]
  refine ⟨r, x2, y2, rfl, ?_, g3⟩
  unfold f_X10_onMore
  rw [pz_isBookR b y' (by rw [k2']; exact n7), k2', if_pos h1, pz_isThingR t y' (by rw [k1']; exact n5), k1', if_pos h2, pz_in, pz_in]
  rw [if_pos ⟨by rw [show (-200000 : Int32).toInt = -200000 from by decide]; omega, f4⟩, if_pos ⟨f4, by rw [show (200000 : Int32).toInt = 200000 from by decide]; omega⟩]
  simp [g2]

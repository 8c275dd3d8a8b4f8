/-! the text of dates: class and reference go in step -/
theorem pz_e7 (x : ax_S) {j : Nat} (hj : j ≠ 1) (v : Int32) : pz_eC x (ax_ui x 7 j v) := by
  refine ⟨ax_ui_ne (by decide), ax_ui_ne (by decide), ax_ui_ne (by decide), ?_, fun k h1 h2 => ax_ui_ne (by omega), fun k h1 h2 => ax_ui_ne (by omega)⟩
  rw [z_ui, if_neg (by omega)]
theorem pz_e0 (y : ax_S) {j : Nat} (hj : 32 ≤ j ∧ j ≤ 35) (v : Int32) : pz_eR y (ax_ui y 0 j v) := by
  refine ⟨⟨?_, ?_, ?_, ?_, ?_, ?_, ?_⟩, fun k h1 h2 => ax_ui_ne (by omega), fun k h1 h2 => ax_ui_ne (by omega)⟩ <;> rw [z_ui, if_neg (by omega)]
/-- in step: the same place in the same text -/
def pz_P (x y : ax_S) : Prop := pz_I x y ∧ x.1 7 4 = y.1 0 32 ∧ 0 ≤ (y.1 0 32).toInt ∧ (y.1 0 32).toInt ≤ (y.1 0 30).toInt
theorem pz_sign {x y : ax_S} (h : pz_P x y) : ∃ b : Int32, f_X2_signHere x = some b ∧ f_X10_byteAt (y.1 0 32) y = some b ∧ -1 ≤ b.toInt ∧ b.toInt ≤ 255 ∧ (b.toInt ≠ -1 → (y.1 0 32).toInt < (y.1 0 30).toInt) ∧ (b.toInt = -1 → (y.1 0 32).toInt = (y.1 0 30).toInt) := by
  obtain ⟨hI, hp, h0, h1⟩ := h
  obtain ⟨hsc, har, hsh, hnu, hbk, hrw, htx⟩ := id hI
  obtain ⟨s1, s2, s3, s4, s5, s6, s7⟩ := id hsc
  obtain ⟨a1, a2, a3, a4, a5, a6, a7, a8, a9, a10, a11, a12, a13⟩ := id har
  obtain ⟨n1, n2, n3, n4, n5, n6, n7, n8, n9, n10, n11, n12⟩ := id hnu
  unfold f_X2_signHere f_X10_byteAt
  rw [hp, s7]
  by_cases h2 : y.1 0 30 ≤ y.1 0 32
  · have h2' := z_le.mp h2
    rw [if_pos h2, if_pos h2]
    exact ⟨-1, rfl, rfl, by decide, by decide, fun q => absurd (by decide) q, fun _ => by omega⟩
  · have h2' : ¬ (y.1 0 30).toInt ≤ (y.1 0 32).toInt := fun q => h2 (z_le.mpr q)
    have e1 := z_ai (Sd := cx_C) (x := x) (a := 36) (n := 40) (i := y.1 0 32) rfl h0 (by omega)
    have e2 := z_ai (Sd := cx_R) (x := y) (a := 21) (n := 40) (i := y.1 0 32) rfl h0 (by omega)
    have c0 := z_cl h0
    have t := htx (y.1 0 32).toNatClampNeg (by omega)
    rw [if_neg h2, if_neg h2, e1, e2, a11]
    exact ⟨_, rfl, rfl, by omega, by omega, fun _ => by omega, fun q => by omega⟩
theorem pz_fig (b : Int32) : f_X2_isFigure b = some (if 48 ≤ b.toInt ∧ b.toInt ≤ 57 then 1 else 0) := by
  unfold f_X2_isFigure
  simp only [z_lt, show (48 : Int32).toInt = 48 from by decide, show (57 : Int32).toInt = 57 from by decide]
  by_cases h1 : b.toInt < 48
  · rw [if_pos h1, if_neg (by omega)]
  · rw [if_neg h1]
    by_cases h2 : 57 < b.toInt
    · rw [if_pos h2, if_neg (by omega)]
    · rw [if_neg h2, if_pos (by omega)]
theorem pz_scan {mx : Nat} (hmx : mx ≤ 3) (hi fr : Int32) (hfr : 0 ≤ fr.toInt ∧ fr.toInt ≤ 40) : ∀ (m k : Nat) (v : Int32) (x y : ax_S), k + m = mx → pz_P x y → y.1 0 33 = -1 → (y.1 0 32).toInt = fr.toInt + k → x.1 7 5 = v → 0 ≤ v.toInt → v.toInt < 10 ^ k →
    ∃ v' x' y', ax_lp (b_X2_readNumber_13 (nI mx) hi fr) (nI k, x) = some x' ∧ ax_lp (b_X10_figures_8 (nI mx) hi fr) (v, y) = some (v', y') ∧ pz_P x' y' ∧ x'.1 7 5 = v' ∧ y'.1 0 33 = -1 ∧ 0 ≤ v'.toInt ∧ v'.toInt < 1000 ∧ y'.1 0 34 = y.1 0 34 ∧ x'.1 7 2 = x.1 7 2 ∧ (y.1 0 32).toInt ≤ (y'.1 0 32).toInt ∧ ((y'.1 0 32).toInt = (y.1 0 32).toInt → v' = v) := by
  intro m
  induction m with
  | zero =>
    intro k v x y hk hP hf hat hv hv0 hv1
    obtain rfl : k = mx := by omega
    have ek := z_nI (n := k) (by omega)
    have hb : v.toInt < 1000 := by
      have : (10 : Int) ^ k ≤ 10 ^ 3 := by
        rcases (show k = 0 ∨ k = 1 ∨ k = 2 ∨ k = 3 by omega) with h | h | h | h <;> subst h <;> decide
      have e : (10 : Int) ^ 3 = 1000 := by decide
      omega
    refine ⟨v, x, y, ?_, ?_, hP, hv, hf, hv0, hb, rfl, rfl, Int.le_refl _, fun _ => rfl⟩
    · have : b_X2_readNumber_13 (nI k) hi fr (nI k, x) = some (.inr x) := by
        unfold b_X2_readNumber_13
        dsimp only
        rw [if_pos (by rw [z_le]; omega)]
      rw [z_lp, this]
      rfl
    · have e1 : (fr + nI k).toInt = fr.toInt + k := by rw [z_add (by omega) (by omega), ek]
      have : b_X10_figures_8 (nI k) hi fr (v, y) = some (.inr (v, y)) := by
        unfold b_X10_figures_8
        dsimp only
        rw [if_pos hf, if_pos (by rw [z_le, e1]; omega)]
      rw [z_lp, this]
      rfl
  | succ m ih =>
    intro k v x y hk hP hf hat hv hv0 hv1
    have ek := z_nI (n := k) (by omega)
    have em := z_nI (n := mx) (by omega)
    have e1 : (fr + nI mx).toInt = fr.toInt + mx := by rw [z_add (by omega) (by omega), em]
    obtain ⟨b, g1, g2, g3, g4, g5, g6⟩ := pz_sign hP
    have hb : v.toInt < 100 := by
      have : (10 : Int) ^ k ≤ 10 ^ 2 := by
        rcases (show k = 0 ∨ k = 1 ∨ k = 2 by omega) with h | h | h <;> subst h <;> decide
      have e : (10 : Int) ^ 2 = 100 := by decide
      omega
    by_cases hd : 48 ≤ b.toInt ∧ b.toInt ≤ 57
    · have t1 : (10 * v).toInt = 10 * v.toInt := by
        rw [z_mul] <;> rw [show (10 : Int32).toInt = 10 from by decide] <;> omega
      have t2 : (10 * v + b).toInt = 10 * v.toInt + b.toInt := by rw [z_add (by omega) (by omega), t1]
      have t3 : (10 * v + b - 48).toInt = 10 * v.toInt + b.toInt - 48 := by
        rw [z_sub (by rw [show (48 : Int32).toInt = 48 from by decide]; omega) (by rw [show (48 : Int32).toInt = 48 from by decide]; omega), t2]
        rfl
      obtain ⟨hI, hp, h0, h1⟩ := id hP
      obtain ⟨n1, n2, n3, n4, n5, n6, n7, n8, n9, n10, n11, n12⟩ := id hI.2.2.2.1
      have at1 := z_add1 (m := y.1 0 32) (by omega) (by omega)
      have sC : b_X2_readNumber_13 (nI mx) hi fr (nI k, x) = some (.inl (nI (k + 1), ax_ui (ax_ui x 7 5 (10 * v + b - 48)) 7 4 (y.1 0 32 + 1))) := by
        unfold b_X2_readNumber_13
        dsimp only
        rw [if_neg (by rw [z_le]; omega), g1, Option.bind_some, pz_fig, if_pos hd, Option.bind_some, if_neg pz_one, Option.bind_some, nI_s, hv, z_ui, if_neg (by decide), hp]
      have sR : b_X10_figures_8 (nI mx) hi fr (v, y) = some (.inl (10 * v + b - 48, ax_ui y 0 32 (y.1 0 32 + 1))) := by
        unfold b_X10_figures_8
        dsimp only
        rw [if_pos hf, if_neg (by rw [z_le, e1]; omega), g2]
        simp only [Option.bind_some]
        rw [if_neg (by rw [z_lt, show (48 : Int32).toInt = 48 from by decide]; omega), if_neg (by rw [z_lt, show (57 : Int32).toInt = 57 from by decide]; omega)]
      have hI' : pz_I (ax_ui (ax_ui x 7 5 (10 * v + b - 48)) 7 4 (y.1 0 32 + 1)) (ax_ui y 0 32 (y.1 0 32 + 1)) := pz_fr hI (pz_eC_tr (pz_e7 x (by decide) _) (pz_e7 _ (by decide) _)) (pz_e0 y (by decide) _)
      have hP' : pz_P (ax_ui (ax_ui x 7 5 (10 * v + b - 48)) 7 4 (y.1 0 32 + 1)) (ax_ui y 0 32 (y.1 0 32 + 1)) := by
        refine ⟨hI', ?_, ?_, ?_⟩
        · simp [z_ui]
        · rw [z_ui, if_pos ⟨rfl, rfl⟩]; omega
        · rw [z_ui, if_pos ⟨rfl, rfl⟩, z_ui, if_neg (by decide)]
          have := g5 (by omega)
          omega
      obtain ⟨v', x', y', k1, k2, k3, k4, k5, k6, k7, k8, k9, k10, k11⟩ := ih (k + 1) (10 * v + b - 48) _ _ (by omega) hP' (by rw [z_ui, if_neg (by decide)]; exact hf) (by rw [z_ui, if_pos ⟨rfl, rfl⟩]; omega) (by rw [z_ui, if_neg (by decide), z_ui, if_pos ⟨rfl, rfl⟩]) (by omega) (by rw [t3, Int.pow_succ]; omega)
      rw [z_ui, if_pos ⟨rfl, rfl⟩] at k10
      refine ⟨v', x', y', by rw [z_lp, sC]; exact k1, by rw [z_lp, sR]; exact k2, k3, k4, k5, k6, k7, ?_, ?_, by omega, fun q => by omega⟩
      · rw [k8, z_ui, if_neg (by decide)]
      · rw [k9, z_ui, if_neg (by decide), z_ui, if_neg (by decide)]
    · have sC : b_X2_readNumber_13 (nI mx) hi fr (nI k, x) = some (.inr x) := by
        unfold b_X2_readNumber_13
        dsimp only
        rw [if_neg (by rw [z_le]; omega), g1, Option.bind_some, pz_fig, if_neg hd, Option.bind_some, if_pos rfl]
      have sR : b_X10_figures_8 (nI mx) hi fr (v, y) = some (.inr (v, y)) := by
        unfold b_X10_figures_8
        dsimp only
        rw [if_pos hf, if_neg (by rw [z_le, e1]; omega), g2]
        simp only [Option.bind_some]
        by_cases q : b.toInt < 48
        · rw [if_pos (by rw [z_lt, show (48 : Int32).toInt = 48 from by decide]; exact q)]
        · rw [if_neg (by rw [z_lt, show (48 : Int32).toInt = 48 from by decide]; exact q), if_pos (by rw [z_lt, show (57 : Int32).toInt = 57 from by decide]; omega)]
      exact ⟨v, x, y, by rw [z_lp, sC]; rfl, by rw [z_lp, sR]; rfl, hP, hv, hf, hv0, by omega, rfl, rfl, Int.le_refl _, fun _ => rfl⟩
/-- a number read: no fault, or the same fault -/
theorem pz_num {x y : ax_S} (hP : pz_P x y) (hf : y.1 0 33 = -1) (mx : Nat) (hmx : mx ≤ 3) (hi : Int32) : ∃ w v x' y', f_X2_readNumber (nI mx) hi x = some (w, x') ∧ f_X10_figures (nI mx) hi y = some (v, y') ∧ pz_P x' y' ∧ y'.1 0 34 = y.1 0 34 ∧ x'.1 7 2 = x.1 7 2 ∧ x'.1 7 5 = v ∧
    ((w = -1 ∧ y'.1 0 33 = -1 ∧ 1 ≤ v.toInt ∧ v.toInt ≤ hi.toInt) ∨ (w = y.1 0 32 ∧ y'.1 0 33 = w ∧ w ≠ -1)) := by
  obtain ⟨hI, hp, h0, h1⟩ := id hP
  obtain ⟨n1, n2, n3, n4, n5, n6, n7, n8, n9, n10, n11, n12⟩ := id hI.2.2.2.1
  have hP1 : pz_P (ax_ui x 7 5 0) y := ⟨pz_fr hI (pz_e7 x (by decide) _) (pz_eR_rf y), by rw [z_ui, if_neg (by decide)]; exact hp, h0, h1⟩
  obtain ⟨v, x', y', k1, k2, k3, k4, k5, k6, k7, k8, k9, k10, k11⟩ := pz_scan hmx hi (y.1 0 32) ⟨h0, by omega⟩ mx 0 0 _ _ (Nat.zero_add _) hP1 hf (by omega) (by rw [z_ui, if_pos ⟨rfl, rfl⟩]) (by decide) (by decide)
  have hne : y.1 0 32 ≠ -1 := by
    intro q
    rw [q] at h0
    revert h0
    decide
  rw [z_ui, if_neg (by decide)] at k9
  unfold f_X2_readNumber f_X10_figures
  rw [hp]
  rw [show ((0 : Int32), ax_ui x 7 5 0) = (nI 0, ax_ui x 7 5 0) from rfl, k1, k2, Option.bind_some, Option.bind_some]
  dsimp only
  unfold j_X2_readNumber_64 j_X10_figures_84
  rw [k4, k5, if_pos rfl, pz_in, Option.bind_some, pz_if0]
  simp only [z_lt, z_le, show (1 : Int32).toInt = 1 from rfl]
  by_cases hv : 1 ≤ v.toInt ∧ v.toInt ≤ hi.toInt
  · have hat : ¬ y'.1 0 32 = y.1 0 32 := by
      intro q
      have := k11 (by rw [q])
      rw [this] at hv
      revert hv
      intro hv
      exact absurd hv.1 (by decide)
    refine ⟨-1, v, x', y', ?_, ?_, k3, k8, k9, k4, Or.inl ⟨rfl, k5, hv.1, hv.2⟩⟩
    · rw [if_neg (by omega), if_pos hv.2]
    · rw [if_neg hat, if_pos hv]
  · have hP' : pz_P x' (ax_ui y' 0 33 (y.1 0 32)) := ⟨pz_fr k3.1 (pz_eC_rf _) (pz_e0 y' (by decide) _), by rw [z_ui, if_neg (by decide)]; exact k3.2.1, by rw [z_ui, if_neg (by decide)]; exact k3.2.2.1, by rw [z_ui, if_neg (by decide), z_ui, if_neg (by decide)]; exact k3.2.2.2⟩
    refine ⟨y.1 0 32, v, x', ax_ui y' 0 33 (y.1 0 32), ?_, ?_, hP', ?_, k9, k4, Or.inr ⟨rfl, by rw [z_ui, if_pos ⟨rfl, rfl⟩], hne⟩⟩
    · by_cases q : v.toInt < 1
      · rw [if_pos q]
      · rw [if_neg q, if_neg (by omega)]
    · by_cases q : y'.1 0 32 = y.1 0 32
      · rw [if_pos q]
      · rw [if_neg q, if_neg hv]
    · rw [z_ui, if_neg (by decide)]; exact k8

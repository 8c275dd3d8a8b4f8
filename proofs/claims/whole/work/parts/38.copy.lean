/-! longs compared -/
theorem z_cmp0 {a b : Int64} : lg_cmp a b = 0 ↔ a = b := by
  unfold lg_cmp
  by_cases h1 : a > b
  · rw [if_pos h1]
    have : a ≠ b := by
      intro h
      subst h
      exact Int64.lt_irrefl h1
    simp [this]
  · rw [if_neg h1]
    by_cases h2 : a = b
    · simp [h2]
    · rw [if_neg h2]
      simp [h2]
theorem z_cmpP {a b : Int64} : 0 < lg_cmp a b ↔ b.toInt < a.toInt := by
  unfold lg_cmp
  by_cases h1 : a > b
  · rw [if_pos h1]
    have := Int64.lt_iff_toInt_lt.mp h1
    simp [this]
  · rw [if_neg h1]
    have h3 : ¬ b.toInt < a.toInt := fun q => h1 (Int64.lt_iff_toInt_lt.mpr q)
    by_cases h2 : a = b
    · rw [if_pos h2]
      simp [h3]
    · rw [if_neg h2]
      simp only [h3, iff_false]
      decide
theorem z_cmpN {a b : Int64} : lg_cmp a b ≤ 0 ↔ a.toInt ≤ b.toInt := by
  have h := z_cmpP (a := a) (b := b)
  rw [z_lt] at h
  rw [z_le]
  simp only [Int32.reduceToInt] at h ⊢
  omega
theorem z_add64 (a b : Int32) : (a.toInt64 + b.toInt64).toInt = a.toInt + b.toInt := by
  have h1 := z_lo a
  have h2 := z_hi a
  have h3 := z_lo b
  have h4 := z_hi b
  rw [Int64.toInt_add, Int32.toInt_toInt64, Int32.toInt_toInt64]
  apply Int.bmod_eq_of_le <;> omega
/-! copy -/
theorem z_803 {p i n k : Int32} (hp : 0 ≤ p.toInt ∧ p.toInt < 4) (hi : 0 ≤ i.toInt) (hn : 0 ≤ n.toInt) (hin : i.toInt + n.toInt ≤ 40) (hk : 0 ≤ k.toInt ∧ k.toInt < n.toInt) : (40 * p + i + k).toInt = 40 * p.toInt + i.toInt + k.toInt := by
  have e := z_40 (p := p) (i := i) hp ⟨hi, by omega⟩
  rw [z_add (by omega) (by omega), e]
theorem z_fu_at {c : Nat} {o : Nat} {v : Nat → Int32} (s : ax_S) (n : Nat) (j : Nat) : (z_fu c (fun k => o + k) v n s).1 c j = if o ≤ j ∧ j < o + n then v (j - o) else s.1 c j := by
  induction n with
  | zero => rw [z_fu, if_neg (by omega)]
  | succ n ih =>
    rw [z_fu, z_uis, z_upd, ih]
    by_cases h : j = o + n
    · rw [if_pos h, if_pos (by omega)]
      have : j - o = n := by omega
      rw [this]
    · rw [if_neg h]
      by_cases h2 : o ≤ j ∧ j < o + n
      · rw [if_pos h2, if_pos (by omega)]
      · rw [if_neg h2, if_neg (by omega)]
theorem pz_copy1 {p i t j n : Int32} (hp : 0 ≤ p.toInt ∧ p.toInt < 4) (hi : 0 ≤ i.toInt) (hn : 0 ≤ n.toInt) (hin : i.toInt + n.toInt ≤ 40) (y : ax_S) : ax_lp (b_X10_copy_120 p i t j n) ((0 : Int32), y) = some (z_fu 26 (fun k => 0 + k) (fun k => y.1 25 (40 * p.toNatClampNeg + i.toNatClampNeg + k)) n.toNatClampNeg y) := by
  have c0 := z_cl hp.1
  have c1 := z_cl hi
  have c2 := z_cl hn
  refine z_for (fun k => (nI k, z_fu 26 (fun k => 0 + k) (fun k => y.1 25 (40 * p.toNatClampNeg + i.toNatClampNeg + k)) k y)) n.toNatClampNeg (fun k hk => ?_) ?_
  · have e := z_nI (n := k) (by omega)
    have e2 := z_803 (p := p) (i := i) (n := n) (k := nI k) hp hi hn hin (by omega)
    have h0 : (0 : Int) ≤ (40 * p + i + nI k).toInt := by omega
    have e3 := z_cl h0
    have e5 : (40 * p + i + nI k).toNatClampNeg = 40 * p.toNatClampNeg + i.toNatClampNeg + k := by omega
    have e4 := z_ai (Sd := cx_R) (x := z_fu 26 (fun k => 0 + k) (fun k => y.1 25 (40 * p.toNatClampNeg + i.toNatClampNeg + k)) k y) (a := 25) (n := 160) (i := 40 * p + i + nI k) rfl h0 (by omega)
    have e6 := z_si (Sd := cx_R) (x := z_fu 26 (fun k => 0 + k) (fun k => y.1 25 (40 * p.toNatClampNeg + i.toNatClampNeg + k)) k y) (a := 26) (n := 40) (i := nI k) (v := y.1 25 (40 * p.toNatClampNeg + i.toNatClampNeg + k)) rfl (by omega) (by omega)
    have e7 : (nI k).toNatClampNeg = 0 + k := by rw [nI_clamp (by omega)]; omega
    unfold b_X10_copy_120
    dsimp only
    rw [if_neg (by rw [z_le, e]; omega), e4, Option.bind_some, e5, z_fu_ne (by decide), e6, Option.bind_some, nI_s, e7]
    rfl
  · have e := z_nI (n := n.toNatClampNeg) (by omega)
    unfold b_X10_copy_120
    dsimp only
    rw [if_pos (by rw [z_le, e]; omega)]
theorem pz_copy2 {t j n : Int32} (hp : 0 ≤ t.toInt ∧ t.toInt < 4) (hi : 0 ≤ j.toInt) (hn : 0 ≤ n.toInt) (hin : j.toInt + n.toInt ≤ 40) (y : ax_S) : ax_lp (b_X10_copy_157 t j n) ((0 : Int32), y) = some (z_fu 25 (fun k => 40 * t.toNatClampNeg + j.toNatClampNeg + k) (fun k => y.1 26 k) n.toNatClampNeg y) := by
  have c0 := z_cl hp.1
  have c1 := z_cl hi
  have c2 := z_cl hn
  refine z_for (fun k => (nI k, z_fu 25 (fun k => 40 * t.toNatClampNeg + j.toNatClampNeg + k) (fun k => y.1 26 k) k y)) n.toNatClampNeg (fun k hk => ?_) ?_
  · have e := z_nI (n := k) (by omega)
    have e2 := z_803 (p := t) (i := j) (n := n) (k := nI k) hp hi hn hin (by omega)
    have h0 : (0 : Int) ≤ (40 * t + j + nI k).toInt := by omega
    have e3 := z_cl h0
    have e5 : (40 * t + j + nI k).toNatClampNeg = 40 * t.toNatClampNeg + j.toNatClampNeg + k := by omega
    have e4 := z_ai (Sd := cx_R) (x := z_fu 25 (fun k => 40 * t.toNatClampNeg + j.toNatClampNeg + k) (fun k => y.1 26 k) k y) (a := 26) (n := 40) (i := nI k) rfl (by omega) (by omega)
    have e6 := z_si (Sd := cx_R) (x := z_fu 25 (fun k => 40 * t.toNatClampNeg + j.toNatClampNeg + k) (fun k => y.1 26 k) k y) (a := 25) (n := 160) (i := 40 * t + j + nI k) (v := y.1 26 k) rfl h0 (by omega)
    have e7 : (nI k).toNatClampNeg = k := nI_clamp (by omega)
    unfold b_X10_copy_157
    dsimp only
    rw [if_neg (by rw [z_le, e]; omega), e4, Option.bind_some, e7, z_fu_ne (by decide), e6, Option.bind_some, nI_s, e5]
    rfl
  · have e := z_nI (n := n.toNatClampNeg) (by omega)
    unfold b_X10_copy_157
    dsimp only
    rw [if_pos (by rw [z_le, e]; omega)]
theorem pz_hasC {x y : ax_S} (hI : pz_I x y) {p : Int32} (hp : 0 ≤ p.toInt ∧ p.toInt < 4) (i n : Int32) : f_X8_has p i n x = some (if 0 ≤ i.toInt ∧ 0 ≤ n.toInt ∧ i.toInt + n.toInt ≤ (y.1 24 p.toNatClampNeg).toInt then 1 else 0) := by
  obtain ⟨hsc, har, hsh, hnu, hbk, hrw, htx⟩ := id hI
  obtain ⟨a1, a2, a3, a4, a5, a6, a7, a8, a9, a10, a11, a12, a13⟩ := id har
  have c0 := z_cl hp.1
  have e38 := z_ai (Sd := cx_C) (x := x) (a := 38) (n := 4) (i := p) rfl hp.1 (by omega)
  obtain ⟨-, q5, q6⟩ := hsh p.toNatClampNeg (by omega)
  unfold f_X8_has
  rw [e38, a12]
  simp only [Option.bind_some, z_lt, Int32.reduceToInt]
  by_cases h1 : i.toInt < 0
  · rw [if_pos h1, if_neg (by omega)]
  rw [if_neg h1]
  by_cases h2 : n.toInt < 0
  · rw [if_pos h2, if_neg (by omega)]
  rw [if_neg h2]
  by_cases h3 : (y.1 24 p.toNatClampNeg).toInt < n.toInt
  · rw [if_pos h3, if_neg (by omega)]
  rw [if_neg h3, z_sub (by omega) (by omega)]
  by_cases h4 : (y.1 24 p.toNatClampNeg).toInt - n.toInt < i.toInt
  · rw [if_pos h4, if_neg (by omega)]
  · rw [if_neg h4, if_pos (by omega)]
theorem lq_copy_ok : lq_copy pz_I := by
  intro x y p i t j n hI
  obtain ⟨hsc, har, hsh, hnu, hbk, hrw, htx⟩ := id hI
  obtain ⟨a1, a2, a3, a4, a5, a6, a7, a8, a9, a10, a11, a12, a13⟩ := id har
  have hC := pz_isSheetC p
  have hR := pz_isSheetR p
  have gC := pz_isSheetC t
  have gR := pz_isSheetR t
  by_cases h : 0 ≤ p.toInt ∧ p.toInt < 4
  case neg =>
    rw [if_neg h] at hC hR
    exact ⟨-2, x, y, by simp [f_X9_copy, hC], by simp [f_X10_copy, hR], hI⟩
  rw [if_pos h] at hC hR
  by_cases h1 : 0 ≤ t.toInt ∧ t.toInt < 4
  case neg =>
    rw [if_neg h1] at gC gR
    exact ⟨-2, x, y, by simp [f_X9_copy, hC, gC], by simp [f_X10_copy, hR, gR], hI⟩
  rw [if_pos h1] at gC gR
  have c0 := z_cl h.1
  have c1 := z_cl h1.1
  have lp := pz_lostC hI p h
  have lt := pz_lostC hI t h1
  have bp := z_ab (Sd := cx_R) (x := y) (a := 22) (n := 4) (i := p) rfl h.1 (by omega)
  have bt := z_ab (Sd := cx_R) (x := y) (a := 22) (n := 4) (i := t) rfl h1.1 (by omega)
  have kp := z_ai (Sd := cx_C) (x := x) (a := 37) (n := 4) (i := p) rfl h.1 (by omega)
  have kt := z_ai (Sd := cx_C) (x := x) (a := 37) (n := 4) (i := t) rfl h1.1 (by omega)
  have yp := z_ai (Sd := cx_R) (x := y) (a := 23) (n := 4) (i := p) rfl h.1 (by omega)
  have yt := z_ai (Sd := cx_R) (x := y) (a := 23) (n := 4) (i := t) rfl h1.1 (by omega)
  have zp := z_ai (Sd := cx_R) (x := y) (a := 24) (n := 4) (i := p) rfl h.1 (by omega)
  have zt := z_ai (Sd := cx_R) (x := y) (a := 24) (n := 4) (i := t) rfl h1.1 (by omega)
  obtain ⟨qp, up, wp⟩ := hsh p.toNatClampNeg (by omega)
  obtain ⟨qt, ut, wt⟩ := hsh t.toNatClampNeg (by omega)
  rcases qp with ⟨q1, q2⟩ | ⟨q1, q2, q3, q4⟩
  · rw [if_pos q1] at lp
    exact ⟨-10 - 1, _, _, by simp [f_X9_copy, hC, gC, lp, f_X9_found], by simp [f_X10_copy, hR, gR, bp, q1, f_X10_meets], pz_find hI 1⟩
  have q0 : ¬ y.1 22 p.toNatClampNeg = 0 := by rw [q1]; decide
  rw [if_neg q0] at lp
  rcases qt with ⟨r1, r2⟩ | ⟨r1, r2, r3, r4⟩
  · rw [if_pos r1] at lt
    exact ⟨-10 - 1, _, _, by simp [f_X9_copy, hC, gC, lp, lt, f_X9_found], by simp [f_X10_copy, hR, gR, bp, q0, bt, r1, f_X10_meets], pz_find hI 1⟩
  have r0 : ¬ y.1 22 t.toNatClampNeg = 0 := by rw [r1]; decide
  rw [if_neg r0] at lt
  rw [q2] at kp
  rw [r2] at kt
  by_cases h2 : y.1 23 p.toNatClampNeg = y.1 23 t.toNatClampNeg
  case neg => exact ⟨-10 - 4, _, _, by simp [f_X9_copy, hC, gC, lp, lt, kp, kt, h2, f_X9_found], by simp [f_X10_copy, hR, gR, bp, q0, bt, r0, yp, yt, h2, f_X10_meets], pz_find hI 4⟩
  have hp := pz_hasC hI h i n
  have ht := pz_hasC hI h1 j n
  by_cases h3 : (0 ≤ i.toInt ∧ 0 ≤ n.toInt ∧ i.toInt + n.toInt ≤ (y.1 24 p.toNatClampNeg).toInt) ∧ (0 ≤ j.toInt ∧ 0 ≤ n.toInt ∧ j.toInt + n.toInt ≤ (y.1 24 t.toNatClampNeg).toInt)
  case neg =>
    refine ⟨-10 - 2, ax_ui x 0 11 2, ax_ui y 0 41 2, ?_, ?_, pz_find hI 2⟩
    · by_cases h4 : 0 ≤ i.toInt ∧ 0 ≤ n.toInt ∧ i.toInt + n.toInt ≤ (y.1 24 p.toNatClampNeg).toInt
      · rw [if_pos h4] at hp
        rw [if_neg (fun q => h3 ⟨h4, q⟩)] at ht
        simp [f_X9_copy, hC, gC, lp, lt, kp, kt, h2, hp, ht, f_X9_found]
      · rw [if_neg h4] at hp
        simp [f_X9_copy, hC, gC, lp, lt, kp, kt, h2, hp, f_X9_found]
    · by_cases g1 : i.toInt < 0
      · simp [f_X10_copy, hR, gR, bp, q0, bt, r0, yp, yt, h2, f_X10_meets, z_lt, g1]
      by_cases g2 : j.toInt < 0
      · simp [f_X10_copy, hR, gR, bp, q0, bt, r0, yp, yt, h2, f_X10_meets, z_lt, g1, g2]
      by_cases g3 : n.toInt < 0
      · simp [f_X10_copy, hR, gR, bp, q0, bt, r0, yp, yt, h2, f_X10_meets, z_lt, g1, g2, g3]
      have i1 : ¬ i < 0 := by rw [z_lt]; simp only [Int32.reduceToInt]; omega
      have i2 : ¬ j < 0 := by rw [z_lt]; simp only [Int32.reduceToInt]; omega
      have i3 : ¬ n < 0 := by rw [z_lt]; simp only [Int32.reduceToInt]; omega
      by_cases g4 : (y.1 24 p.toNatClampNeg).toInt < i.toInt + n.toInt
      · have g5 : 0 < lg_cmp (i.toInt64 + n.toInt64) (y.1 24 p.toNatClampNeg).toInt64 := by rw [z_cmpP, z_add64, Int32.toInt_toInt64]; exact g4
        simp [f_X10_copy, hR, gR, bp, q0, bt, r0, yp, yt, h2, f_X10_meets, i1, i2, i3, zp, g5]
      · have g5 : ¬ 0 < lg_cmp (i.toInt64 + n.toInt64) (y.1 24 p.toNatClampNeg).toInt64 := by rw [z_cmpP, z_add64, Int32.toInt_toInt64]; exact g4
        have g6 : ¬ lg_cmp (j.toInt64 + n.toInt64) (y.1 24 t.toNatClampNeg).toInt64 ≤ 0 := by rw [z_cmpN, z_add64, Int32.toInt_toInt64]; omega
        simp only [f_X10_copy, hR, gR, bp, if_neg q0, bt, if_neg r0, yp, yt, if_pos h2, f_X10_meets, if_neg i1, if_neg i2, if_neg i3, zp, if_neg g5, zt, if_neg g6, Option.bind_some, if_neg pz_one]
  obtain ⟨⟨m1, m2, m3⟩, m4, -, m5⟩ := h3
  rw [if_pos ⟨m1, m2, m3⟩] at hp
  rw [if_pos ⟨m4, m2, m5⟩] at ht
  have i1 : ¬ i < 0 := by rw [z_lt]; simp only [Int32.reduceToInt]; omega
  have i2 : ¬ j < 0 := by rw [z_lt]; simp only [Int32.reduceToInt]; omega
  have i3 : ¬ n < 0 := by rw [z_lt]; simp only [Int32.reduceToInt]; omega
  have g5 : ¬ 0 < lg_cmp (i.toInt64 + n.toInt64) (y.1 24 p.toNatClampNeg).toInt64 := by rw [z_cmpP, z_add64, Int32.toInt_toInt64]; omega
  have g6 : lg_cmp (j.toInt64 + n.toInt64) (y.1 24 t.toNatClampNeg).toInt64 ≤ 0 := by rw [z_cmpN, z_add64, Int32.toInt_toInt64]; omega
  have d1 := z_cl m1
  have d2 := z_cl m2
  have d3 := z_cl m4
  have v1 : (40 * p + i).toInt = 40 * p.toInt + i.toInt := by
    have e : (40 * p).toInt = 40 * p.toInt := by
      rw [z_mul] <;> simp only [Int32.reduceToInt] <;> omega
    rw [z_add (by rw [e]; omega) (by rw [e]; omega), e]
  have v2 : (40 * t + j).toInt = 40 * t.toInt + j.toInt := by
    have e : (40 * t).toInt = 40 * t.toInt := by
      rw [z_mul] <;> simp only [Int32.reduceToInt] <;> omega
    rw [z_add (by rw [e]; omega) (by rw [e]; omega), e]
  have v3 := z_cl (a := 40 * p + i) (by omega)
  have v4 := z_cl (a := 40 * t + j) (by omega)
  have v5 : (40 * p + i).toNatClampNeg = 40 * p.toNatClampNeg + i.toNatClampNeg := by omega
  have v6 : (40 * t + j).toNatClampNeg = 40 * t.toNatClampNeg + j.toNatClampNeg := by omega
  have mv : f_X8_move p i t j n x = some (ax_wi x 39 (va_cpy (x.1 39) (x.1 39) (40 * p.toNatClampNeg + i.toNatClampNeg) (40 * t.toNatClampNeg + j.toNatClampNeg) n.toNatClampNeg)) := by
    unfold f_X8_move ax_cp
    rw [show ax_len cx_C 1 39 = some 160 from rfl, Option.bind_some, Option.bind_some, Int32.mul_comm p, Int32.mul_comm t, if_neg, Option.bind_some, v5, v6]
    simp only [z_lt, v1, v2, v5, v6, Int32.reduceToInt]
    omega
  refine ⟨1, ax_wi x 39 (va_cpy (x.1 39) (x.1 39) (40 * p.toNatClampNeg + i.toNatClampNeg) (40 * t.toNatClampNeg + j.toNatClampNeg) n.toNatClampNeg), z_fu 25 (fun k => 40 * t.toNatClampNeg + j.toNatClampNeg + k) (fun k => (z_fu 26 (fun k => 0 + k) (fun k => y.1 25 (40 * p.toNatClampNeg + i.toNatClampNeg + k)) n.toNatClampNeg y).1 26 k) n.toNatClampNeg (z_fu 26 (fun k => 0 + k) (fun k => y.1 25 (40 * p.toNatClampNeg + i.toNatClampNeg + k)) n.toNatClampNeg y), ?_, ?_, ?_⟩
  · simp only [f_X9_copy, hC, gC, lp, lt, kp, kt, if_pos h2, hp, ht, mv, Option.bind_some, if_neg pz_one, if_true]
  · simp only [f_X10_copy, hR, gR, bp, if_neg q0, bt, if_neg r0, yp, yt, if_pos h2, if_neg i1, if_neg i2, if_neg i3, zp, if_neg g5, zt, if_pos g6, Option.bind_some, if_neg pz_one, pz_copy1 h m1 m2 (show i.toInt + n.toInt ≤ 40 by omega), pz_copy2 h1 m4 m2 (show j.toInt + n.toInt ≤ 40 by omega)]
  · refine pz_frS hI (fun a k _ _ => ax_wi_ne k) (fun a k1 k2 _ _ _ => by rw [z_fu_ne k2, z_fu_ne k1]) ?_ ?_ ?_
    · rw [ax_wi_ne (by decide), z_fu_ne (by decide), z_fu_ne (by decide), a12]
    · have e1 : (ax_wi x 39 (va_cpy (x.1 39) (x.1 39) (40 * p.toNatClampNeg + i.toNatClampNeg) (40 * t.toNatClampNeg + j.toNatClampNeg) n.toNatClampNeg)).1 39 = va_cpy (x.1 39) (x.1 39) (40 * p.toNatClampNeg + i.toNatClampNeg) (40 * t.toNatClampNeg + j.toNatClampNeg) n.toNatClampNeg := by simp [ax_wi]
      rw [e1, a13]
      funext k
      rw [z_fu_at, va_cpy]
      by_cases hk : 40 * t.toNatClampNeg + j.toNatClampNeg ≤ k ∧ k < 40 * t.toNatClampNeg + j.toNatClampNeg + n.toNatClampNeg
      · rw [if_pos hk, if_pos hk, z_fu_at, if_pos (by omega)]
        rfl
      · rw [if_neg hk, if_neg hk, z_fu_ne (by decide)]
    · intro k hk
      rw [ax_wi_ne (by decide), z_fu_ne (by decide), z_fu_ne (by decide), z_fu_ne (by decide), z_fu_ne (by decide), z_fu_ne (by decide), z_fu_ne (by decide)]
      exact hsh k hk

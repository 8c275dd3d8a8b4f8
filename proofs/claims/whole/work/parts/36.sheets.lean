/-! sheets -/
theorem pz_isSheetC (p : Int32) : f_X9_isSheet p = some (if 0 ≤ p.toInt ∧ p.toInt < 4 then 1 else 0) := by
  unfold f_X9_isSheet
  simp only [z_lt, z_le, Int32.reduceToInt]
  by_cases h1 : p.toInt < 0
  · rw [if_pos h1, if_neg (by omega)]
  · rw [if_neg h1]
    by_cases h2 : 4 ≤ p.toInt
    · rw [if_pos h2, if_neg (by omega)]
    · rw [if_neg h2, if_pos (by omega)]
theorem pz_isSheetR (p : Int32) : f_X10_isSheet p = some (if 0 ≤ p.toInt ∧ p.toInt < 4 then 1 else 0) := by
  unfold f_X10_isSheet
  rw [pz_in, Option.bind_some, pz_zbif, Option.bind_some]
  simp only [Int32.reduceToInt]
  by_cases h : 0 ≤ p.toInt ∧ p.toInt < 4
  · rw [if_pos h, if_pos (by omega)]
  · rw [if_neg h, if_neg (by omega)]
theorem pz_isTypeC (p : Int32) : f_X9_isType p = some (if 0 ≤ p.toInt ∧ p.toInt ≤ 2 then 1 else 0) := by
  unfold f_X9_isType
  simp only [z_lt, Int32.reduceToInt]
  by_cases h1 : p.toInt < 0
  · rw [if_pos h1, if_neg (by omega)]
  · rw [if_neg h1]
    by_cases h2 : 2 < p.toInt
    · rw [if_pos h2, if_neg (by omega)]
    · rw [if_neg h2, if_pos (by omega)]
theorem pz_isTypeR (p : Int32) : f_X10_in p 0 2 = some (if 0 ≤ p.toInt ∧ p.toInt ≤ 2 then 1 else 0) := by
  rw [pz_in]
  simp only [Int32.reduceToInt]
theorem pz_find {x y : ax_S} (hI : pz_I x y) (k : Int32) : pz_I (ax_ui x 0 11 k) (ax_ui y 0 41 k) := by
  obtain ⟨hsc, har, hsh, hnu, hbk, hrw, htx⟩ := id hI
  obtain ⟨s1, s2, s3, s4, s5, s6, s7⟩ := id hsc
  refine ⟨?_, har, hsh, hnu, hbk, hrw, htx⟩
  simp only [pz_sc, z_ui]; simpa using ⟨s1, s2, s3, s5, s6, s7⟩
theorem pz_lostC {x y : ax_S} (hI : pz_I x y) (p : Int32) (h : 0 ≤ p.toInt ∧ p.toInt < 4) : f_X8_isLost p x = some (if y.1 22 p.toNatClampNeg = 0 then 1 else 0) := by
  have c0 := z_cl h.1
  have e := z_ai (Sd := cx_C) (x := x) (a := 37) (n := 4) (i := p) rfl h.1 (by omega)
  unfold f_X8_isLost
  rw [e, Option.bind_some]
  obtain ⟨q, -⟩ := hI.2.2.1 p.toNatClampNeg (by omega)
  rcases q with ⟨q1, q2⟩ | ⟨q1, q2, q3, q4⟩
  · rw [if_pos q2, if_pos q1]
  · rw [if_neg (by rw [z_eq, q2, show (-1 : Int32).toInt = -1 from by decide]; omega), if_neg (by rw [q1]; decide)]
theorem z_40 {p i : Int32} (hp : 0 ≤ p.toInt ∧ p.toInt < 4) (hi : 0 ≤ i.toInt ∧ i.toInt < 40) : (40 * p + i).toInt = 40 * p.toInt + i.toInt := by
  have e : (40 * p).toInt = 40 * p.toInt := by
    rw [z_mul] <;> simp only [Int32.reduceToInt] <;> omega
  rw [z_add (by rw [e]; omega) (by rw [e]; omega), e]
/-- many writes into one cell -/
def z_fu (c : Nat) (ix : Nat → Nat) (v : Nat → Int32) : Nat → ax_S → ax_S
  | 0, s => s
  | n + 1, s => ax_ui (z_fu c ix v n s) c (ix n) (v n)
theorem z_fu_ne {c : Nat} {ix : Nat → Nat} {v : Nat → Int32} {a : Nat} (h : a ≠ c) (s : ax_S) (n : Nat) : (z_fu c ix v n s).1 a = s.1 a := by
  induction n with
  | zero => rfl
  | succ n ih => rw [z_fu, ax_ui_ne h, ih]
theorem z_fu_eq {c c' : Nat} {ix : Nat → Nat} {v : Nat → Int32} {s s' : ax_S} (h : s.1 c = s'.1 c') (n : Nat) : (z_fu c ix v n s).1 c = (z_fu c' ix v n s').1 c' := by
  induction n with
  | zero => exact h
  | succ n ih => rw [z_fu, z_fu, z_uis, z_uis, ih]
theorem pz_renewC (p : Int32) (hp : 0 ≤ p.toInt ∧ p.toInt < 4) (s : ax_S) : ax_lp (b_X8_renew_17 p) ((0 : Int32), s) = some (z_fu 39 (fun k => 40 * p.toNatClampNeg + k) (fun _ => 0) 40 s) := by
  have c0 := z_cl hp.1
  refine z_for (fun k => (nI k, z_fu 39 (fun k => 40 * p.toNatClampNeg + k) (fun _ => 0) k s)) 40 (fun k hk => ?_) ?_
  · have e := z_nI (n := k) (by omega)
    have e2 := z_40 (p := p) (i := nI k) hp (by omega)
    have h0 : (0 : Int) ≤ (40 * p + nI k).toInt := by omega
    have e3 := z_cl h0
    have e4 := z_si (Sd := cx_C) (x := z_fu 39 (fun k => 40 * p.toNatClampNeg + k) (fun _ => 0) k s) (a := 39) (n := 160) (i := 40 * p + nI k) (v := 0) rfl h0 (by omega)
    have e5 : (40 * p + nI k).toNatClampNeg = 40 * p.toNatClampNeg + k := by omega
    unfold b_X8_renew_17
    dsimp only
    rw [if_neg (by rw [z_le, e]; simp only [Int32.reduceToInt]; omega), Int32.mul_comm, e4, Option.bind_some, nI_s, e5]
    rfl
  · unfold b_X8_renew_17
    rfl
theorem pz_renewR (p n : Int32) (hp : 0 ≤ p.toInt ∧ p.toInt < 4) (s : ax_S) : ax_lp (b_X10_sheet_59 p n) ((0 : Int32), s) = some (z_fu 25 (fun k => 40 * p.toNatClampNeg + k) (fun _ => 0) 40 s) := by
  have c0 := z_cl hp.1
  refine z_for (fun k => (nI k, z_fu 25 (fun k => 40 * p.toNatClampNeg + k) (fun _ => 0) k s)) 40 (fun k hk => ?_) ?_
  · have e := z_nI (n := k) (by omega)
    have e2 := z_40 (p := p) (i := nI k) hp (by omega)
    have h0 : (0 : Int) ≤ (40 * p + nI k).toInt := by omega
    have e3 := z_cl h0
    have e4 := z_si (Sd := cx_R) (x := z_fu 25 (fun k => 40 * p.toNatClampNeg + k) (fun _ => 0) k s) (a := 25) (n := 160) (i := 40 * p + nI k) (v := 0) rfl h0 (by omega)
    have e5 : (40 * p + nI k).toNatClampNeg = 40 * p.toNatClampNeg + k := by omega
    unfold b_X10_sheet_59
    dsimp only
    rw [if_neg (by rw [z_le, e]; simp only [Int32.reduceToInt]; omega), e4, Option.bind_some, nI_s, e5]
    rfl
  · unfold b_X10_sheet_59
    rfl
theorem lq_sheet_ok : lq_sheet pz_I := by
  intro x y p t n hI
  obtain ⟨hsc, har, hsh, hnu, hbk, hrw, htx⟩ := id hI
  obtain ⟨s1, s2, s3, s4, s5, s6, s7⟩ := id hsc
  obtain ⟨a1, a2, a3, a4, a5, a6, a7, a8, a9, a10, a11, a12, a13⟩ := id har
  have hC := pz_isSheetC p
  have hR := pz_isSheetR p
  have tC := pz_isTypeC t
  have tR := pz_isTypeR t
  by_cases h : 0 ≤ p.toInt ∧ p.toInt < 4
  case neg =>
    rw [if_neg h] at hC hR
    exact ⟨-2, x, y, by simp [f_X9_sheet, hC], by simp [f_X10_sheet, hR], hI⟩
  rw [if_pos h] at hC hR
  by_cases h1 : 0 ≤ t.toInt ∧ t.toInt ≤ 2
  case neg =>
    rw [if_neg h1] at tC tR
    exact ⟨-2, x, y, by simp [f_X9_sheet, hC, tC], by simp [f_X10_sheet, hR, tR], hI⟩
  rw [if_pos h1] at tC tR
  by_cases h2 : n.toInt ≤ 40
  case neg => exact ⟨-2, x, y, by simp [f_X9_sheet, hC, tC, z_le, h2], by simp [f_X10_sheet, hR, tR, z_le, h2], hI⟩
  by_cases h3 : 0 ≤ n.toInt
  case neg => exact ⟨-10 - 5, _, _, by simp [f_X9_sheet, hC, tC, z_le, h2, h3, f_X9_found], by simp [f_X10_sheet, hR, tR, z_le, h2, h3, f_X10_meets], pz_find hI 5⟩
  have c0 := z_cl h.1
  have e1 := z_si (Sd := cx_C) (x := x) (a := 37) (n := 4) (i := p) (v := t) rfl h.1 (by omega)
  have e2 := z_si (Sd := cx_C) (x := ax_ui x 37 p.toNatClampNeg t) (a := 38) (n := 4) (i := p) (v := n) rfl h.1 (by omega)
  have e3 := z_sb (Sd := cx_R) (x := y) (a := 22) (n := 4) (i := p) (v := 1) rfl h.1 (by omega)
  have e4 := z_si (Sd := cx_R) (x := ax_ui y 22 p.toNatClampNeg (vp_nar .boolean 1)) (a := 23) (n := 4) (i := p) (v := t) rfl h.1 (by omega)
  have e5 := z_si (Sd := cx_R) (x := ax_ui (ax_ui y 22 p.toNatClampNeg (vp_nar .boolean 1)) 23 p.toNatClampNeg t) (a := 24) (n := 4) (i := p) (v := n) rfl h.1 (by omega)
  refine ⟨n, z_fu 39 (fun k => 40 * p.toNatClampNeg + k) (fun _ => 0) 40 (ax_ui (ax_ui x 37 p.toNatClampNeg t) 38 p.toNatClampNeg n), z_fu 25 (fun k => 40 * p.toNatClampNeg + k) (fun _ => 0) 40 (ax_ui (ax_ui (ax_ui y 22 p.toNatClampNeg (vp_nar .boolean 1)) 23 p.toNatClampNeg t) 24 p.toNatClampNeg n), ?_, ?_, ?_⟩
  · simp [f_X9_sheet, hC, tC, z_le, h2, h3, f_X8_renew, e1, e2, pz_renewC p h]
  · simp [f_X10_sheet, hR, tR, z_le, h2, h3, e3, e4, e5, pz_renewR p n h]
  · have fx : ∀ a : Nat, a ≠ 39 → (z_fu 39 (fun k => 40 * p.toNatClampNeg + k) (fun _ => 0) 40 (ax_ui (ax_ui x 37 p.toNatClampNeg t) 38 p.toNatClampNeg n)).1 a = (ax_ui (ax_ui x 37 p.toNatClampNeg t) 38 p.toNatClampNeg n).1 a := fun a ha => z_fu_ne ha _ _
    have fy : ∀ a : Nat, a ≠ 25 → (z_fu 25 (fun k => 40 * p.toNatClampNeg + k) (fun _ => 0) 40 (ax_ui (ax_ui (ax_ui y 22 p.toNatClampNeg (vp_nar .boolean 1)) 23 p.toNatClampNeg t) 24 p.toNatClampNeg n)).1 a = (ax_ui (ax_ui (ax_ui y 22 p.toNatClampNeg (vp_nar .boolean 1)) 23 p.toNatClampNeg t) 24 p.toNatClampNeg n).1 a := fun a ha => z_fu_ne ha _ _
    have fe := z_fu_eq (c := 39) (c' := 25) (ix := fun k => 40 * p.toNatClampNeg + k) (v := fun _ => 0) (s := ax_ui (ax_ui x 37 p.toNatClampNeg t) 38 p.toNatClampNeg n) (s' := ax_ui (ax_ui (ax_ui y 22 p.toNatClampNeg (vp_nar .boolean 1)) 23 p.toNatClampNeg t) 24 p.toNatClampNeg n) (by rw [ax_ui_ne (by decide), ax_ui_ne (by decide), ax_ui_ne (by decide), ax_ui_ne (by decide), ax_ui_ne (by decide), a13]) 40
    generalize z_fu 39 (fun k => 40 * p.toNatClampNeg + k) (fun _ => 0) 40 (ax_ui (ax_ui x 37 p.toNatClampNeg t) 38 p.toNatClampNeg n) = X at fx fe ⊢
    generalize z_fu 25 (fun k => 40 * p.toNatClampNeg + k) (fun _ => 0) 40 (ax_ui (ax_ui (ax_ui y 22 p.toNatClampNeg (vp_nar .boolean 1)) 23 p.toNatClampNeg t) 24 p.toNatClampNeg n) = Y at fy fe ⊢
    have gx : ∀ a : Nat, a ≠ 39 → a ≠ 38 → a ≠ 37 → X.1 a = x.1 a := fun a k1 k2 k3 => by rw [fx a k1, ax_ui_ne k2, ax_ui_ne k3]
    have gy : ∀ a : Nat, a ≠ 25 → a ≠ 24 → a ≠ 23 → a ≠ 22 → Y.1 a = y.1 a := fun a k1 k2 k3 k4 => by rw [fy a k1, ax_ui_ne k2, ax_ui_ne k3, ax_ui_ne k4]
    have x37 : X.1 37 = upd (x.1 37) p.toNatClampNeg t := by rw [fx 37 (by decide), ax_ui_ne (by decide), z_uis]
    have x38 : X.1 38 = upd (x.1 38) p.toNatClampNeg n := by rw [fx 38 (by decide), z_uis, ax_ui_ne (by decide)]
    have y22 : Y.1 22 = upd (y.1 22) p.toNatClampNeg 1 := by rw [fy 22 (by decide), ax_ui_ne (by decide), ax_ui_ne (by decide), z_uis]; rfl
    have y23 : Y.1 23 = upd (y.1 23) p.toNatClampNeg t := by rw [fy 23 (by decide), ax_ui_ne (by decide), z_uis, ax_ui_ne (by decide)]
    have y24 : Y.1 24 = upd (y.1 24) p.toNatClampNeg n := by rw [fy 24 (by decide), z_uis, ax_ui_ne (by decide), ax_ui_ne (by decide)]
    refine ⟨?_, ?_, ?_, ?_, ?_, ?_, ?_⟩
    · unfold pz_sc
      rw [gx 0 (by decide) (by decide) (by decide), gx 2 (by decide) (by decide) (by decide), gx 3 (by decide) (by decide) (by decide), gx 7 (by decide) (by decide) (by decide), gy 0 (by decide) (by decide) (by decide) (by decide)]
      exact hsc
    · unfold pz_ar
      rw [gx 26 (by decide) (by decide) (by decide), gx 27 (by decide) (by decide) (by decide), gx 28 (by decide) (by decide) (by decide), gx 19 (by decide) (by decide) (by decide), gx 20 (by decide) (by decide) (by decide), gx 21 (by decide) (by decide) (by decide), gx 22 (by decide) (by decide) (by decide), gx 23 (by decide) (by decide) (by decide), gx 24 (by decide) (by decide) (by decide), gx 25 (by decide) (by decide) (by decide), gx 36 (by decide) (by decide) (by decide), gy 1 (by decide) (by decide) (by decide) (by decide), gy 2 (by decide) (by decide) (by decide) (by decide), gy 3 (by decide) (by decide) (by decide) (by decide), gy 4 (by decide) (by decide) (by decide) (by decide), gy 5 (by decide) (by decide) (by decide) (by decide), gy 6 (by decide) (by decide) (by decide) (by decide), gy 7 (by decide) (by decide) (by decide) (by decide), gy 8 (by decide) (by decide) (by decide) (by decide), gy 9 (by decide) (by decide) (by decide) (by decide), gy 10 (by decide) (by decide) (by decide) (by decide), gy 21 (by decide) (by decide) (by decide) (by decide), x38, y24]
      exact ⟨a1, a2, a3, a4, a5, a6, a7, a8, a9, a10, a11, by rw [a12], fe⟩
    · intro k hk
      have q := hsh k hk
      rw [x37, y22, y23, y24, z_upd, z_upd, z_upd, z_upd]
      by_cases hkk : k = p.toNatClampNeg
      · rw [if_pos hkk, if_pos hkk, if_pos hkk, if_pos hkk]
        exact ⟨Or.inr ⟨rfl, rfl, h1.1, h1.2⟩, h3, h2⟩
      · rw [if_neg hkk, if_neg hkk, if_neg hkk, if_neg hkk]
        exact q
    · unfold pz_nu
      rw [gy 0 (by decide) (by decide) (by decide) (by decide)]
      exact hnu
    · unfold pz_bk
      rw [gy 0 (by decide) (by decide) (by decide) (by decide), gy 1 (by decide) (by decide) (by decide) (by decide), gy 2 (by decide) (by decide) (by decide) (by decide), gy 3 (by decide) (by decide) (by decide) (by decide)]
      exact hbk
    · unfold pz_rw
      rw [gy 0 (by decide) (by decide) (by decide) (by decide), gy 4 (by decide) (by decide) (by decide) (by decide), gy 5 (by decide) (by decide) (by decide) (by decide), gy 6 (by decide) (by decide) (by decide) (by decide), gy 7 (by decide) (by decide) (by decide) (by decide), gy 8 (by decide) (by decide) (by decide) (by decide), gy 9 (by decide) (by decide) (by decide) (by decide), gy 10 (by decide) (by decide) (by decide) (by decide)]
      exact hrw
    · unfold pz_tx
      rw [gy 0 (by decide) (by decide) (by decide) (by decide), gy 21 (by decide) (by decide) (by decide) (by decide)]
      exact htx

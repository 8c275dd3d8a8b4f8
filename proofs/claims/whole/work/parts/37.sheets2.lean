theorem pz_frS {x y X Y : ax_S} (hI : pz_I x y) (gx : ∀ a : Nat, a ≠ 39 → a ≠ 38 → a ≠ 37 → X.1 a = x.1 a) (gy : ∀ a : Nat, a ≠ 26 → a ≠ 25 → a ≠ 24 → a ≠ 23 → a ≠ 22 → Y.1 a = y.1 a) (h38 : X.1 38 = Y.1 24) (h39 : X.1 39 = Y.1 25) (h37 : pz_sh X Y) : pz_I X Y := by
  obtain ⟨hsc, har, hsh, hnu, hbk, hrw, htx⟩ := id hI
  obtain ⟨a1, a2, a3, a4, a5, a6, a7, a8, a9, a10, a11, a12, a13⟩ := id har
  have gx' : ∀ a : Nat, a < 37 → X.1 a = x.1 a := fun a h => gx a (by omega) (by omega) (by omega)
  have gy' : ∀ a : Nat, a < 22 → Y.1 a = y.1 a := fun a h => gy a (by omega) (by omega) (by omega) (by omega) (by omega)
  refine ⟨?_, ?_, h37, ?_, ?_, ?_, ?_⟩
  · unfold pz_sc
    rw [gx' 0 (by decide), gx' 2 (by decide), gx' 3 (by decide), gx' 7 (by decide), gy' 0 (by decide)]
    exact hsc
  · unfold pz_ar
    rw [gx' 26 (by decide), gx' 27 (by decide), gx' 28 (by decide), gx' 19 (by decide), gx' 20 (by decide), gx' 21 (by decide), gx' 22 (by decide), gx' 23 (by decide), gx' 24 (by decide), gx' 25 (by decide), gx' 36 (by decide), gy' 1 (by decide), gy' 2 (by decide), gy' 3 (by decide), gy' 4 (by decide), gy' 5 (by decide), gy' 6 (by decide), gy' 7 (by decide), gy' 8 (by decide), gy' 9 (by decide), gy' 10 (by decide), gy' 21 (by decide)]
    exact ⟨a1, a2, a3, a4, a5, a6, a7, a8, a9, a10, a11, h38, h39⟩
  · unfold pz_nu
    rw [gy' 0 (by decide)]
    exact hnu
  · unfold pz_bk
    rw [gy' 0 (by decide), gy' 1 (by decide), gy' 2 (by decide), gy' 3 (by decide)]
    exact hbk
  · unfold pz_rw
    rw [gy' 0 (by decide), gy' 4 (by decide), gy' 5 (by decide), gy' 6 (by decide), gy' 7 (by decide), gy' 8 (by decide), gy' 9 (by decide), gy' 10 (by decide)]
    exact hrw
  · unfold pz_tx
    rw [gy' 0 (by decide), gy' 21 (by decide)]
    exact htx
theorem lq_lose_ok : lq_lose pz_I := by
  intro x y p hI
  obtain ⟨hsc, har, hsh, hnu, hbk, hrw, htx⟩ := id hI
  obtain ⟨a1, a2, a3, a4, a5, a6, a7, a8, a9, a10, a11, a12, a13⟩ := id har
  have hC := pz_isSheetC p
  have hR := pz_isSheetR p
  by_cases h : 0 ≤ p.toInt ∧ p.toInt < 4
  case neg =>
    rw [if_neg h] at hC hR
    exact ⟨-2, x, y, by simp [f_X9_lose, hC], by simp [f_X10_lose, hR], hI⟩
  rw [if_pos h] at hC hR
  have hL := pz_lostC hI p h
  have c0 := z_cl h.1
  have eR := z_ab (Sd := cx_R) (x := y) (a := 22) (n := 4) (i := p) rfl h.1 (by omega)
  by_cases h1 : y.1 22 p.toNatClampNeg = 0
  · rw [if_pos h1] at hL
    exact ⟨-10 - 1, _, _, by simp [f_X9_lose, hC, hL, f_X9_found], by simp [f_X10_lose, hR, eR, h1, f_X10_meets], pz_find hI 1⟩
  rw [if_neg h1] at hL
  have e1 := z_si (Sd := cx_C) (x := x) (a := 37) (n := 4) (i := p) (v := -1) rfl h.1 (by omega)
  have e2 := z_ai (Sd := cx_C) (x := ax_ui x 37 p.toNatClampNeg (-1)) (a := 38) (n := 4) (i := p) rfl h.1 (by omega)
  have e3 := z_sb (Sd := cx_R) (x := y) (a := 22) (n := 4) (i := p) (v := 0) rfl h.1 (by omega)
  have e4 := z_ai (Sd := cx_R) (x := ax_ui y 22 p.toNatClampNeg (vp_nar .boolean 0)) (a := 24) (n := 4) (i := p) rfl h.1 (by omega)
  rw [ax_ui_ne (by decide)] at e2 e4
  refine ⟨y.1 24 p.toNatClampNeg, ax_ui x 37 p.toNatClampNeg (-1), ax_ui y 22 p.toNatClampNeg (vp_nar .boolean 0), by simp [f_X9_lose, hC, hL, e1, e2, a12], by simp [f_X10_lose, hR, eR, h1, e3, e4], pz_frS hI (fun a _ _ k => ax_ui_ne k) (fun a _ _ _ _ k => ax_ui_ne k) a12 a13 ?_⟩
  intro k hk
  have q := hsh k hk
  rw [z_uis, z_uis, ax_ui_ne (by decide), ax_ui_ne (by decide), z_upd, z_upd]
  by_cases hkk : k = p.toNatClampNeg
  · rw [if_pos hkk, if_pos hkk]
    exact ⟨Or.inl ⟨rfl, rfl⟩, q.2⟩
  · rw [if_neg hkk, if_neg hkk]
    exact q
theorem pz_hind {x y : ax_S} (hI : pz_I x y) {p : Int32} (hp : 0 ≤ p.toInt ∧ p.toInt < 4) (t i : Int32) (ht : 0 ≤ t.toInt) : ∃ k, f_X8_hindrance p t i x = some k ∧ f_X10_lacks p t i y = some k ∧ ((k = 0 ∧ y.1 22 p.toNatClampNeg = 1 ∧ x.1 37 p.toNatClampNeg = y.1 23 p.toNatClampNeg ∧ 0 ≤ i.toInt ∧ i.toInt < 40) ∨ 1 ≤ k.toInt) := by
  obtain ⟨hsc, har, hsh, hnu, hbk, hrw, htx⟩ := id hI
  obtain ⟨a1, a2, a3, a4, a5, a6, a7, a8, a9, a10, a11, a12, a13⟩ := id har
  have c0 := z_cl hp.1
  have hL := pz_lostC hI p hp
  have eb := z_ab (Sd := cx_R) (x := y) (a := 22) (n := 4) (i := p) rfl hp.1 (by omega)
  have e37 := z_ai (Sd := cx_C) (x := x) (a := 37) (n := 4) (i := p) rfl hp.1 (by omega)
  have e38 := z_ai (Sd := cx_C) (x := x) (a := 38) (n := 4) (i := p) rfl hp.1 (by omega)
  have e23 := z_ai (Sd := cx_R) (x := y) (a := 23) (n := 4) (i := p) rfl hp.1 (by omega)
  have e24 := z_ai (Sd := cx_R) (x := y) (a := 24) (n := 4) (i := p) rfl hp.1 (by omega)
  obtain ⟨q, q5, q6⟩ := hsh p.toNatClampNeg (by omega)
  unfold f_X8_hindrance f_X10_lacks
  rw [hL, eb, Option.bind_some, Option.bind_some]
  rcases q with ⟨q1, q2⟩ | ⟨q1, q2, q3, q4⟩
  · refine ⟨1, ?_, ?_, Or.inr (by decide)⟩
    · rw [if_pos q1, if_neg pz_one]
    · rw [if_pos q1]
  have q0 : ¬ y.1 22 p.toNatClampNeg = 0 := by rw [q1]; decide
  rw [if_neg q0, if_pos rfl, if_neg q0, e37, e23, Option.bind_some, Option.bind_some, q2]
  by_cases h1 : y.1 23 p.toNatClampNeg = t
  case neg => exact ⟨3, by rw [if_neg h1], by rw [if_neg h1], Or.inr (by decide)⟩
  rw [if_pos h1, if_pos h1, e38, e24, Option.bind_some, Option.bind_some, a12, pz_inm _ _ q5, Option.bind_some, pz_if0]
  by_cases h2 : 0 ≤ i.toInt ∧ i.toInt < (y.1 24 p.toNatClampNeg).toInt
  · refine ⟨0, ?_, ?_, Or.inl ⟨rfl, q1, rfl, h2.1, by omega⟩⟩
    · rw [if_neg (by rw [z_lt]; simp only [Int32.reduceToInt]; omega), if_pos (by rw [z_lt]; omega)]
    · rw [if_pos h2]
  · refine ⟨2, ?_, ?_, Or.inr (by decide)⟩
    · by_cases h3 : i < 0
      · rw [if_pos h3]
      · rw [if_neg h3]
        rw [z_lt] at h3
        simp only [Int32.reduceToInt] at h3
        rw [if_neg (by rw [z_lt]; omega)]
    · rw [if_neg h2]
def pz_nw (k v : Int32) : Int32 := if k = 0 then v.toInt8.toInt32 else if k = 1 then v.toInt16.toInt32 else v
theorem pz_nwC (k v : Int32) : f_X8_narrowed k v = some (pz_nw k v) := by
  unfold f_X8_narrowed pz_nw
  by_cases h : k = 0
  · rw [if_pos h, if_pos h]
  · rw [if_neg h, if_neg h]
    by_cases h1 : k = 1
    · rw [if_pos h1, if_pos h1]
    · rw [if_neg h1, if_neg h1]
theorem pz_storeC {x : ax_S} {p i : Int32} (hp : 0 ≤ p.toInt ∧ p.toInt < 4) (hi : 0 ≤ i.toInt ∧ i.toInt < 40) (v : Int32) : f_X8_store p i v x = some (ax_ui x 39 (40 * p.toNatClampNeg + i.toNatClampNeg) (pz_nw (x.1 37 p.toNatClampNeg) v)) := by
  have c0 := z_cl hp.1
  have c1 := z_cl hi.1
  have e37 := z_ai (Sd := cx_C) (x := x) (a := 37) (n := 4) (i := p) rfl hp.1 (by omega)
  have e2 := z_40 hp hi
  have h0 : (0 : Int) ≤ (40 * p + i).toInt := by omega
  have e3 := z_cl h0
  have e5 : (40 * p + i).toNatClampNeg = 40 * p.toNatClampNeg + i.toNatClampNeg := by omega
  have e4 := z_si (Sd := cx_C) (x := x) (a := 39) (n := 160) (i := 40 * p + i) (v := pz_nw (x.1 37 p.toNatClampNeg) v) rfl h0 (by omega)
  unfold f_X8_store
  rw [e37, Option.bind_some, pz_nwC, Option.bind_some, Int32.mul_comm, e4, e5, Option.bind_some]
theorem pz_layR {y : ax_S} {p i : Int32} (hp : 0 ≤ p.toInt ∧ p.toInt < 4) (hi : 0 ≤ i.toInt ∧ i.toInt < 40) (v : Int32) : f_X10_lay p i v y = some (ax_ui y 25 (40 * p.toNatClampNeg + i.toNatClampNeg) (pz_nw (y.1 23 p.toNatClampNeg) v)) := by
  have c0 := z_cl hp.1
  have c1 := z_cl hi.1
  have e23 := z_ai (Sd := cx_R) (x := y) (a := 23) (n := 4) (i := p) rfl hp.1 (by omega)
  have e2 := z_40 hp hi
  have h0 : (0 : Int) ≤ (40 * p + i).toInt := by omega
  have e3 := z_cl h0
  have e5 : (40 * p + i).toNatClampNeg = 40 * p.toNatClampNeg + i.toNatClampNeg := by omega
  have e4 : ∀ w, ax_si cx_R y 25 (40 * p + i) w = some (ax_ui y 25 (40 * p.toNatClampNeg + i.toNatClampNeg) w) := fun w => by
    rw [← e5]
    exact z_si (Sd := cx_R) (x := y) (a := 25) (n := 160) (i := 40 * p + i) (v := w) rfl h0 (by omega)
  unfold f_X10_lay pz_nw
  rw [e23, Option.bind_some, Option.bind_some]
  split
  · rw [e4, Option.bind_some]
  · split
    · rw [e4, Option.bind_some]
    · rw [e4, Option.bind_some]
theorem pz_putI {x y : ax_S} (hI : pz_I x y) (j : Nat) (v : Int32) : pz_I (ax_ui x 39 j v) (ax_ui y 25 j v) := by
  obtain ⟨hsc, har, hsh, hnu, hbk, hrw, htx⟩ := id hI
  obtain ⟨a1, a2, a3, a4, a5, a6, a7, a8, a9, a10, a11, a12, a13⟩ := id har
  exact pz_frS hI (fun a k _ _ => ax_ui_ne k) (fun a _ k _ _ _ => ax_ui_ne k) a12 (by rw [z_uis, z_uis, a13]) hsh
theorem lq_put_ok : lq_put pz_I := by
  intro x y p t i v hI
  have hC := pz_isSheetC p
  have hR := pz_isSheetR p
  have tC := pz_isTypeC t
  have tR := pz_isTypeR t
  by_cases h : 0 ≤ p.toInt ∧ p.toInt < 4
  case neg =>
    rw [if_neg h] at hC hR
    exact ⟨-2, x, y, by simp [f_X9_put, hC], by simp [f_X10_put, hR], hI⟩
  rw [if_pos h] at hC hR
  by_cases h1 : 0 ≤ t.toInt ∧ t.toInt ≤ 2
  case neg =>
    rw [if_neg h1] at tC tR
    exact ⟨-2, x, y, by simp [f_X9_put, hC, tC], by simp [f_X10_put, hR, tR], hI⟩
  rw [if_pos h1] at tC tR
  obtain ⟨k, e1, e2, e3⟩ := pz_hind hI h t i h1.1
  rcases e3 with ⟨k0, k1, k2, k3, k4⟩ | k5
  · subst k0
    have e4 := pz_storeC (x := x) h ⟨k3, k4⟩ v
    have e5 := pz_layR (y := y) h ⟨k3, k4⟩ v
    rw [k2] at e4
    exact ⟨1, _, _, by simp [f_X9_put, hC, tC, e1, e4], by simp [f_X10_put, hR, tR, e2, z_le, e5], pz_putI hI (40 * p.toNatClampNeg + i.toNatClampNeg) (pz_nw (y.1 23 p.toNatClampNeg) v)⟩
  · have k6 : ¬ k.toInt = 0 := by omega
    have k7 : ¬ k.toInt ≤ 0 := by omega
    exact ⟨-10 - k, _, _, by simp [f_X9_put, hC, tC, e1, z_eq, k6, f_X9_found], by simp [f_X10_put, hR, tR, e2, z_le, k7, f_X10_meets], pz_find hI k⟩
theorem lq_get_ok : lq_get pz_I := by
  intro x y p t i hI
  obtain ⟨hsc, har, hsh, hnu, hbk, hrw, htx⟩ := id hI
  obtain ⟨a1, a2, a3, a4, a5, a6, a7, a8, a9, a10, a11, a12, a13⟩ := id har
  have hC := pz_isSheetC p
  have hR := pz_isSheetR p
  have tC := pz_isTypeC t
  have tR := pz_isTypeR t
  by_cases h : 0 ≤ p.toInt ∧ p.toInt < 4
  case neg =>
    rw [if_neg h] at hC hR
    exact ⟨-2147483648, x, y, by simp [f_X9_get, hC], by simp [f_X10_get, hR], hI⟩
  rw [if_pos h] at hC hR
  by_cases h1 : 0 ≤ t.toInt ∧ t.toInt ≤ 2
  case neg =>
    rw [if_neg h1] at tC tR
    exact ⟨-2147483648, x, y, by simp [f_X9_get, hC, tC], by simp [f_X10_get, hR, tR], hI⟩
  rw [if_pos h1] at tC tR
  obtain ⟨k, e1, e2, e3⟩ := pz_hind hI h t i h1.1
  rcases e3 with ⟨k0, k1, k2, k3, k4⟩ | k5
  · subst k0
    have f2 := z_40 h ⟨k3, k4⟩
    have h0 : (0 : Int) ≤ (40 * p + i).toInt := by omega
    have f4 := z_ai (Sd := cx_C) (x := x) (a := 39) (n := 160) (i := 40 * p + i) rfl h0 (by omega)
    have f5 := z_ai (Sd := cx_R) (x := y) (a := 25) (n := 160) (i := 40 * p + i) rfl h0 (by omega)
    exact ⟨y.1 25 (40 * p + i).toNatClampNeg, x, y, by simp [f_X9_get, hC, tC, e1, f_X8_item, Int32.mul_comm p 40, f4, a13], by simp [f_X10_get, hR, tR, e2, z_le, f5], hI⟩
  · have k6 : ¬ k.toInt = 0 := by omega
    have k7 : ¬ k.toInt ≤ 0 := by omega
    exact ⟨-2147483648, _, _, by simp [f_X9_get, hC, tC, e1, z_eq, k6, f_X9_found], by simp [f_X10_get, hR, tR, e2, z_le, k7], pz_find hI k⟩

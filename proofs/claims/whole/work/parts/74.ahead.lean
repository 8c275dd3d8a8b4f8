/-! which thing is surely ahead of which -/
theorem nz_Sol_cg {t t' y : ax_S} {B : Int64} (h1 : t'.1 1 = t.1 1) (h : ∀ k, 9 ≤ k → k ≤ 16 → t'.1 k = t.1 k) (hS : nz_Sol t y B) : nz_Sol t' y B := by
  unfold nz_Sol nz_Ld nz_N nz_n nz_V
  rw [h1, h 9 (by omega) (by omega), h 10 (by omega) (by omega), h 11 (by omega) (by omega), h 12 (by omega) (by omega), h 13 (by omega) (by omega), h 14 (by omega) (by omega), h 15 (by omega) (by omega), h 16 (by omega) (by omega)]
  exact hS
theorem nz_Rm_cg {t t' y : ax_S} {B : Int64} (h : t'.1 11 = t.1 11) (hR : nz_Rm t y B) : nz_Rm t' y B := by
  unfold nz_Rm nz_D
  rw [h]
  exact hR
/-- b is surely ahead of a -/
def nz_ah (y : ax_S) (B : Int64) (a b : Nat) : Prop := ∀ v, nz_S y B v → v b < v a
noncomputable def nz_av (y : ax_S) (B : Int64) (a : Nat) : Nat → Int32
  | 0 => 0
  | b + 1 => @ite Int32 (nz_ah y B a b) (Classical.propDecidable _) (nz_av y B a b ||| ((1 : Int32) <<< (nI b &&& 31))) (nz_av y B a b)
theorem nz_av1 {y : ax_S} {B : Int64} {a b : Nat} (h : nz_ah y B a b) : nz_av y B a (b + 1) = nz_av y B a b ||| ((1 : Int32) <<< (nI b &&& 31)) := by
  rw [nz_av, if_pos h]
theorem nz_av0 {y : ax_S} {B : Int64} {a b : Nat} (h : ¬ nz_ah y B a b) : nz_av y B a (b + 1) = nz_av y B a b := by
  rw [nz_av, if_neg h]
theorem nz_av_b (y : ax_S) (B : Int64) (a o : Nat) : ∀ k, k ≤ 32 → (z_pb (nz_av y B a k) o = true ↔ o < k ∧ nz_ah y B a o) := by
  intro k
  induction k with
  | zero =>
    intro _
    constructor
    · intro h
      rw [show nz_av y B a 0 = 0 from rfl, z_pb_zero] at h
      exact absurd h (by decide)
    · rintro ⟨h, -⟩
      omega
  | succ k ih =>
    intro hk
    have ih := ih (by omega)
    by_cases h : nz_ah y B a k
    · rw [nz_av1 h, z_pb_or, z_pb_one (by omega), Bool.or_eq_true, ih, decide_eq_true_eq]
      constructor
      · rintro (q | q)
        · exact ⟨by omega, q.2⟩
        · subst q; exact ⟨by omega, h⟩
      · rintro ⟨q1, q2⟩
        by_cases q : o = k
        · exact Or.inr q
        · exact Or.inl ⟨by omega, q2⟩
    · rw [nz_av0 h, ih]
      constructor
      · rintro ⟨q1, q2⟩; exact ⟨by omega, q2⟩
      · rintro ⟨q1, q2⟩
        by_cases q : o = k
        · subst q; exact absurd q2 h
        · exact ⟨by omega, q2⟩
theorem nz_mx_ah {y : ax_S} {B : Int64} {a b : Nat} {w : Int} (h : nz_mx y B a b w) : w < 0 ↔ nz_ah y B a b := by
  obtain ⟨⟨v, v1, v2⟩, h2⟩ := h
  constructor
  · intro hw u hu
    have := h2 u hu
    omega
  · intro q
    have := q v v1
    omega
/-- the class's -/
def nz_fL (x t : ax_S) : Prop := ∀ k, k ≠ 1 → k ≠ 5 → k < 9 ∨ 18 < k → k < 31 ∨ 34 < k → t.1 k = x.1 k
theorem nz_fL_eC {x t : ax_S} (h : nz_fL x t) : pz_eC x t := ⟨h 0 (by omega) (by omega) (by omega) (by omega), h 2 (by omega) (by omega) (by omega) (by omega), h 3 (by omega) (by omega) (by omega) (by omega), by rw [h 7 (by omega) (by omega) (by omega) (by omega)], fun k _ _ => h k (by omega) (by omega) (by omega) (by omega), fun k _ _ => h k (by omega) (by omega) (by omega) (by omega)⟩
theorem nz_fL_tr {a b c : ax_S} (h : nz_fL a b) (h' : nz_fL b c) : nz_fL a c := fun k h1 h2 h3 h4 => (h' k h1 h2 h3 h4).trans (h k h1 h2 h3 h4)
theorem nz_fL_only {p : Nat} (hp : p = 5 ∨ (9 ≤ p ∧ p ≤ 18) ∨ (31 ≤ p ∧ p ≤ 34)) {a b : ax_S} (h : z_only p a b) : nz_fL a b := fun k h1 h2 h3 h4 => h.1 k (by omega)
theorem nz_lay47 {t y' y : ax_S} {B : Int64} (hnu : pz_nu y) (hbk : pz_bk y) (hS : nz_Sol t y B) (hR : nz_Rm y' y B) {a : Nat} (ha : a < (y.1 0 1).toNatClampNeg) (h10 : t.1 0 10 = y.1 0 1) (h31 : t.1 31 a = 0) :
    ∃ t1 e, f_X6_measureFrom (nI a) t = some t1 ∧ ax_lp (b_X9_layLines_47 (nI a)) ((0 : Int32), t1) = some e ∧ (∀ k, k ≠ 17 → k ≠ 31 → e.1 k = t.1 k) ∧ e.1 31 a = nz_av y B a (y.1 0 1).toNatClampNeg ∧ ∀ j, j ≠ a → e.1 31 j = t.1 31 j := by
  have n5 := hnu.2.2.2.2.1
  have n6 := hnu.2.2.2.2.2.1
  have cT := z_cl n5
  have haI : (nI a).toInt = (a : Int) := z_nI (by omega)
  have hac := nI_cl (k := a) (by omega)
  obtain ⟨t1, f1, o1, k1⟩ := nz_btw hnu hbk hS hR (a := nI a) (by omega)
  have key := z_inv (f := b_X9_layLines_47 (nI a)) (fun q => ∃ b, b ≤ (y.1 0 1).toNatClampNeg ∧ q.1 = nI b ∧ (∀ k, k ≠ 31 → q.2.1 k = t1.1 k) ∧ q.2.1 31 a = nz_av y B a b ∧ ∀ j, j ≠ a → q.2.1 31 j = t1.1 31 j)
    (fun e => (∀ k, k ≠ 31 → e.1 k = t1.1 k) ∧ e.1 31 a = nz_av y B a (y.1 0 1).toNatClampNeg ∧ ∀ j, j ≠ a → e.1 31 j = t1.1 31 j) (fun q => (y.1 0 1).toNatClampNeg - q.1.toNatClampNeg) (by
    rintro ⟨_, s⟩ ⟨b, hb, g1, g2, g3, g4⟩
    dsimp only at g1 g2 g3 g4
    subst g1
    have hbI : (nI b).toInt = (b : Int) := z_nI (by omega)
    have hbc := nI_cl (k := b) (by omega)
    have e10 : s.1 0 10 = y.1 0 1 := by rw [g2 0 (by omega), o1.1 0 (by omega), h10]
    unfold b_X9_layLines_47
    dsimp only
    rw [e10]
    by_cases hl : y.1 0 1 ≤ nI b
    · left
      rw [if_pos hl]
      rw [z_le, hbI] at hl
      obtain rfl : b = (y.1 0 1).toNatClampNeg := by omega
      exact ⟨_, rfl, g2, g3, g4⟩
    right
    rw [if_neg hl]
    rw [z_le, hbI] at hl
    have ms : (y.1 0 1).toNatClampNeg - (nI b + 1).toNatClampNeg < (y.1 0 1).toNatClampNeg - (nI b).toNatClampNeg := by
      rw [nI_s, nI_cl (by omega), hbc]; omega
    obtain ⟨w, w1, -, w3, -⟩ := k1 (nI b) (by omega) (by omega)
    rw [hac, hbc] at w3
    have w1' : f_X6_mostBehind (nI a) (nI b) s = some w := by
      rw [← w1]
      unfold f_X6_mostBehind ax_ai
      rw [g2 15 (by omega), g2 16 (by omega), g2 17 (by omega)]
    have e0 : (0 : Int32).toInt = 0 := by decide
    rw [w1', Option.bind_some]
    by_cases hw : 0 ≤ w
    · rw [if_pos hw]
      rw [z_le, e0] at hw
      refine ⟨_, rfl, ⟨b + 1, by omega, nI_s b, g2, ?_, g4⟩, by first | exact ms | (rw [hbc] at ms; exact ms)⟩
      rw [nz_av0 (fun q => by have := (nz_mx_ah w3).mpr q; omega)]
      exact g3
    · rw [if_neg hw]
      rw [z_le, e0] at hw
      unfold f_X5_setAhead
      rw [z_ai (Sd := cx_C) (n := 12) rfl (by omega) (by omega), Option.bind_some, z_si (Sd := cx_C) (n := 12) rfl (by omega) (by omega), Option.bind_some, Option.bind_some, hac]
      refine ⟨_, rfl, ⟨b + 1, by omega, nI_s b, ?_, ?_, ?_⟩, by first | exact ms | (rw [hbc] at ms; exact ms)⟩
      · intro k hk
        rw [← g2 k hk]
        funext j
        simp only [z_ui]
        simp [hk]
      · simp only [z_ui]
        simp
        rw [nz_av1 ((nz_mx_ah w3).mp (by omega)), g3]
      · intro j hj
        simp only [z_ui]
        simp [hj]
        exact g4 j hj)
    (a := ((0 : Int32), t1)) ⟨0, Nat.zero_le _, rfl, fun _ _ => rfl, by rw [o1.1 31 (by omega), h31]; rfl, fun _ _ => rfl⟩
  obtain ⟨e, q1, q2, q3, q4⟩ := key
  refine ⟨t1, e, f1, q1, ?_, q3, ?_⟩
  · intro k h1 h2
    rw [q2 k h2, o1.1 k h1]
  · intro j hj
    rw [q4 j hj, o1.1 31 (by omega)]
theorem nz_layLines {x y x' y' : ax_S} {B : Int64} (hnu : pz_nu y) (hbk : pz_bk y) (hS : nz_Sol x' y B) (hR : nz_Rm y' y B) (h10 : x'.1 0 10 = y.1 0 1) :
    ∃ t e, f_X5_clear (x'.1 0 10) x' = some t ∧ ax_lp (b_X9_layLines_29) ((0 : Int32), t) = some e ∧ nz_fL x' e ∧ e.1 5 4 = y.1 0 1 ∧ ∀ a, a < (y.1 0 1).toNatClampNeg → e.1 31 a = nz_av y B a (y.1 0 1).toNatClampNeg := by
  have n5 := hnu.2.2.2.2.1
  have n6 := hnu.2.2.2.2.2.1
  have cT := z_cl n5
  obtain ⟨t, f1, o1, k1⟩ := nz_fill (p := 31) (n := 12) rfl (by omega) (0 : Int32) (ax_ui x' 5 4 (x'.1 0 10))
  have t10 : t.1 0 10 = y.1 0 1 := by rw [o1.1 0 (by omega), ← h10]; simp only [z_ui]; simp
  have t54 : t.1 5 4 = y.1 0 1 := by rw [o1.1 5 (by omega), ← h10]; simp only [z_ui]; simp
  have hft : nz_fL x' t := nz_fL_tr (nz_fL_only (Or.inl rfl) (z_only_ui 5 4 _ x')) (nz_fL_only (Or.inr (Or.inr (by omega))) o1)
  have hcg : ∀ k, k ≠ 5 → k ≠ 31 → t.1 k = x'.1 k := by
    intro k h1 h2
    rw [o1.1 k h2, (z_only_ui 5 4 (x'.1 0 10) x').1 k h1]
  have hSt : nz_Sol t y B := nz_Sol_cg (hcg 1 (by omega) (by omega)) (fun k _ _ => hcg k (by omega) (by omega)) hS
  have key := z_inv (f := b_X9_layLines_29) (fun q => ∃ a, a ≤ (y.1 0 1).toNatClampNeg ∧ q.1 = nI a ∧ (∀ k, k ≠ 17 → k ≠ 31 → q.2.1 k = t.1 k) ∧ (∀ j, j < a → q.2.1 31 j = nz_av y B j (y.1 0 1).toNatClampNeg) ∧ ∀ j, a ≤ j → j < 12 → q.2.1 31 j = 0)
    (fun e => (∀ k, k ≠ 17 → k ≠ 31 → e.1 k = t.1 k) ∧ (∀ j, j < (y.1 0 1).toNatClampNeg → e.1 31 j = nz_av y B j (y.1 0 1).toNatClampNeg)) (fun q => (y.1 0 1).toNatClampNeg - q.1.toNatClampNeg) (by
    rintro ⟨_, s⟩ ⟨a, ha, g1, g2, g3, g4⟩
    dsimp only at g1 g2 g3 g4
    subst g1
    have haI : (nI a).toInt = (a : Int) := z_nI (by omega)
    have hac := nI_cl (k := a) (by omega)
    have e10 : s.1 0 10 = y.1 0 1 := by rw [g2 0 (by omega) (by omega), t10]
    unfold b_X9_layLines_29
    dsimp only
    by_cases hl : y.1 0 1 ≤ nI a
    · left
      rw [e10, if_pos hl]
      rw [z_le, haI] at hl
      obtain rfl : a = (y.1 0 1).toNatClampNeg := by omega
      exact ⟨_, rfl, g2, g3⟩
    right
    rw [e10, if_neg hl]
    rw [z_le, haI] at hl
    have ms : (y.1 0 1).toNatClampNeg - (nI a + 1).toNatClampNeg < (y.1 0 1).toNatClampNeg - (nI a).toNatClampNeg := by
      rw [nI_s, nI_cl (by omega), hac]; omega
    have hSs : nz_Sol s y B := nz_Sol_cg (g2 1 (by omega) (by omega)) (fun k _ _ => g2 k (by omega) (by omega)) hSt
    obtain ⟨t1, e, m1, m2, m3, m4, m5⟩ := nz_lay47 hnu hbk hSs hR (a := a) (by omega) e10 (g4 a (Nat.le_refl a) (by omega))
    rw [m1, Option.bind_some, m2, Option.bind_some]
    refine ⟨_, rfl, ⟨a + 1, by omega, nI_s a, ?_, ?_, ?_⟩, by first | exact ms | (rw [hac] at ms; exact ms)⟩
    · intro k h1 h2
      show e.1 k = _
      rw [m3 k h1 h2, g2 k h1 h2]
    · intro j hj
      show e.1 31 j = _
      by_cases q : j = a
      · subst q; exact m4
      · rw [m5 j q]; exact g3 j (by omega)
    · intro j h1 h2
      show e.1 31 j = _
      rw [m5 j (by omega)]
      exact g4 j (by omega) h2)
    (a := ((0 : Int32), t)) ⟨0, Nat.zero_le _, rfl, fun _ _ _ => rfl, fun j h => absurd h (Nat.not_lt_zero j), fun j _ h => k1 j h⟩
  obtain ⟨e, q1, q2, q3⟩ := key
  refine ⟨t, e, ?_, q1, ?_, ?_, q3⟩
  · unfold f_X5_clear
    rw [f1, Option.bind_some]
  · intro k h1 h2 h3 h4
    rw [q2 k (by omega) (by omega)]
    exact hft k h1 h2 h3 h4
  · rw [q2 5 (by omega) (by omega), t54]
/-- the reference's -/
theorem nz_sur28 {s x' y' y : ax_S} {B : Int64} (hnu : pz_nu y) (hbk : pz_bk y) (hS : nz_Sol x' y B) (hR : nz_Rm y' y B) {a : Nat} (ha : a < (y.1 0 1).toNatClampNeg) (h0 : s.1 0 = y.1 0) (h11 : s.1 11 = y'.1 11) (h19 : s.1 19 a = 0) :
    ∃ e, ax_lp (b_X10_sures_28 (nI a)) ((0 : Int32), s) = some e ∧ (∀ k, k ≠ 19 → e.1 k = s.1 k) ∧ e.1 19 a = nz_av y B a (y.1 0 1).toNatClampNeg ∧ ∀ j, j ≠ a → e.1 19 j = s.1 19 j := by
  have n5 := hnu.2.2.2.2.1
  have n6 := hnu.2.2.2.2.2.1
  have cT := z_cl n5
  have haI : (nI a).toInt = (a : Int) := z_nI (by omega)
  have hac := nI_cl (k := a) (by omega)
  obtain ⟨t1, f1, o1, k1⟩ := nz_btw hnu hbk hS hR (a := nI a) (by omega)
  refine z_inv (f := b_X10_sures_28 (nI a)) (fun q => ∃ b, b ≤ (y.1 0 1).toNatClampNeg ∧ q.1 = nI b ∧ (∀ k, k ≠ 19 → q.2.1 k = s.1 k) ∧ q.2.1 19 a = nz_av y B a b ∧ ∀ j, j ≠ a → q.2.1 19 j = s.1 19 j)
    (fun e => (∀ k, k ≠ 19 → e.1 k = s.1 k) ∧ e.1 19 a = nz_av y B a (y.1 0 1).toNatClampNeg ∧ ∀ j, j ≠ a → e.1 19 j = s.1 19 j) (fun q => (y.1 0 1).toNatClampNeg - q.1.toNatClampNeg) ?_
    (a := ((0 : Int32), s)) ⟨0, Nat.zero_le _, rfl, fun _ _ => rfl, by rw [h19]; rfl, fun _ _ => rfl⟩
  rintro ⟨_, u⟩ ⟨b, hb, g1, g2, g3, g4⟩
  dsimp only at g1 g2 g3 g4
  subst g1
  have hbI : (nI b).toInt = (b : Int) := z_nI (by omega)
  have hbc := nI_cl (k := b) (by omega)
  have e01 : u.1 0 1 = y.1 0 1 := by rw [g2 0 (by omega), h0]
  unfold b_X10_sures_28
  dsimp only
  rw [e01]
  by_cases hl : y.1 0 1 ≤ nI b
  · left
    rw [if_pos hl]
    rw [z_le, hbI] at hl
    obtain rfl : b = (y.1 0 1).toNatClampNeg := by omega
    exact ⟨_, rfl, g2, g3, g4⟩
  right
  rw [if_neg hl]
  rw [z_le, hbI] at hl
  have ms : (y.1 0 1).toNatClampNeg - (nI b + 1).toNatClampNeg < (y.1 0 1).toNatClampNeg - (nI b).toNatClampNeg := by
    rw [nI_s, nI_cl (by omega), hbc]; omega
  obtain ⟨w, -, w2, w3, w4, w5⟩ := k1 (nI b) (by omega) (by omega)
  rw [hac, hbc] at w3
  have w2' : ax_ai cx_R u 11 ((((19 : Int32) * ((1 : Int32) + nI a)) + (1 : Int32)) + nI b) = some w := by
    rw [← w2]
    unfold ax_ai
    rw [g2 11 (by omega), h11]
  have e1 : (1 : Int32).toInt = 1 := by decide
  have or0 : ∀ q : Int32, q ||| 0 = q := fun q => Int32.or_zero
  have st : ∀ v : Int32, v = nz_av y B a (b + 1) → ∃ a', (ax_si cx_R u 19 (nI a) v).bind (fun s76 => some (.inl ((nI b + 1), s76))) = (some (.inl a') : Option ((Int32 × ax_S) ⊕ ax_S)) ∧ (∃ b, b ≤ (y.1 0 1).toNatClampNeg ∧ a'.1 = nI b ∧ (∀ k, k ≠ 19 → a'.2.1 k = s.1 k) ∧ a'.2.1 19 a = nz_av y B a b ∧ ∀ j, j ≠ a → a'.2.1 19 j = s.1 19 j) ∧ (y.1 0 1).toNatClampNeg - a'.1.toNatClampNeg < (y.1 0 1).toNatClampNeg - (nI b).toNatClampNeg := by
    intro v hv
    rw [z_si (Sd := cx_R) (n := 12) rfl (by omega) (by omega), Option.bind_some, hac]
    refine ⟨_, rfl, ⟨b + 1, by omega, nI_s b, ?_, ?_, ?_⟩, by first | exact ms | (rw [hbc] at ms; exact ms)⟩
    · intro k hk
      rw [← g2 k hk]
      funext j
      simp only [z_ui]
      simp [hk]
    · simp only [z_ui]
      simp
      exact hv
    · intro j hj
      simp only [z_ui]
      simp [hj]
      exact g4 j hj
  rw [z_ai (Sd := cx_R) (a := 19) (n := 12) rfl (by omega) (by omega), Option.bind_some, hac, g3, or0]
  by_cases hab : nI b = nI a
  · rw [if_pos hab]
    have hba : b = a := by
      have := congrArg Int32.toNatClampNeg hab
      rw [hbc, hac] at this
      exact this
    refine st _ ?_
    rw [nz_av0]
    intro q
    obtain ⟨⟨v, v1, v2⟩, -⟩ := w3
    have := q v v1
    rw [hba] at this
    omega
  rw [if_neg hab, w2', Option.bind_some]
  have hnw : (-w).toInt = -w.toInt := z_neg (by omega)
  by_cases hw : -w < 1
  · rw [if_pos hw]
    rw [z_lt, hnw, e1] at hw
    refine st _ ?_
    rw [nz_av0 (fun q => by have := (nz_mx_ah w3).mpr q; omega)]
  · rw [if_neg hw]
    rw [z_lt, hnw, e1] at hw
    refine st _ ?_
    rw [nz_av1 ((nz_mx_ah w3).mp (by omega))]
theorem nz_sures {x' y' y : ax_S} {B : Int64} (hnu : pz_nu y) (hbk : pz_bk y) (hS : nz_Sol x' y B) (hR : nz_Rm y' y B) (h0 : y'.1 0 = y.1 0) :
    ∃ e, ax_lp (b_X10_sures_11) ((0 : Int32), y') = some e ∧ (∀ k, k ≠ 19 → e.1 k = y'.1 k) ∧ ∀ a, a < (y.1 0 1).toNatClampNeg → e.1 19 a = nz_av y B a (y.1 0 1).toNatClampNeg := by
  have n5 := hnu.2.2.2.2.1
  have n6 := hnu.2.2.2.2.2.1
  have cT := z_cl n5
  refine z_inv (f := b_X10_sures_11) (fun q => ∃ a, a ≤ (y.1 0 1).toNatClampNeg ∧ q.1 = nI a ∧ (∀ k, k ≠ 19 → q.2.1 k = y'.1 k) ∧ ∀ j, j < a → q.2.1 19 j = nz_av y B j (y.1 0 1).toNatClampNeg)
    (fun e => (∀ k, k ≠ 19 → e.1 k = y'.1 k) ∧ ∀ a, a < (y.1 0 1).toNatClampNeg → e.1 19 a = nz_av y B a (y.1 0 1).toNatClampNeg) (fun q => (y.1 0 1).toNatClampNeg - q.1.toNatClampNeg) ?_
    (a := ((0 : Int32), y')) ⟨0, Nat.zero_le _, rfl, fun _ _ => rfl, fun j h => absurd h (Nat.not_lt_zero j)⟩
  rintro ⟨_, s⟩ ⟨a, ha, g1, g2, g3⟩
  dsimp only at g1 g2 g3
  subst g1
  have haI : (nI a).toInt = (a : Int) := z_nI (by omega)
  have hac := nI_cl (k := a) (by omega)
  have e01 : s.1 0 1 = y.1 0 1 := by rw [g2 0 (by omega), h0]
  unfold b_X10_sures_11
  dsimp only
  rw [e01]
  by_cases hl : y.1 0 1 ≤ nI a
  · left
    rw [if_pos hl]
    rw [z_le, haI] at hl
    obtain rfl : a = (y.1 0 1).toNatClampNeg := by omega
    exact ⟨_, rfl, g2, g3⟩
  right
  rw [if_neg hl]
  rw [z_le, haI] at hl
  have ms : (y.1 0 1).toNatClampNeg - (nI a + 1).toNatClampNeg < (y.1 0 1).toNatClampNeg - (nI a).toNatClampNeg := by
    rw [nI_s, nI_cl (by omega), hac]; omega
  rw [z_si (Sd := cx_R) (n := 12) rfl (by omega) (by omega), Option.bind_some, hac]
  obtain ⟨e, m1, m2, m3, m4⟩ := nz_sur28 (s := ax_ui s 19 a 0) hnu hbk hS hR (a := a) (by omega) (by
    rw [(z_only_ui 19 a 0 s).1 0 (by omega), g2 0 (by omega), h0]) (by
    rw [(z_only_ui 19 a 0 s).1 11 (by omega), g2 11 (by omega)]) (by simp only [z_ui]; simp)
  rw [m1, Option.bind_some]
  refine ⟨_, rfl, ⟨a + 1, by omega, nI_s a, ?_, ?_⟩, by first | exact ms | (rw [hac] at ms; exact ms)⟩
  · intro k hk
    show e.1 k = _
    rw [m2 k hk, (z_only_ui 19 a 0 s).1 k hk, g2 k hk]
  · intro j hj
    show e.1 19 j = _
    by_cases q : j = a
    · subst q; exact m3
    · rw [m4 j q]
      simp only [z_ui]
      simp [q]
      exact g3 j (by omega)
/-- both sides -/
theorem nz_lines {x y : ax_S} (hI : pz_I x y) : ∃ fl x' y', f_X9_layLines x = some (fl, x') ∧ f_X10_sures y = some (fl, y') ∧ pz_I x' y' ∧
    ((fl = 1 ∧ x'.1 5 4 = y'.1 0 1 ∧ ∃ (n : Nat) (b : Nat → Int32), n ≤ 12 ∧ y'.1 0 1 = nI n ∧ (∀ a, a < n → x'.1 31 a = b a ∧ y'.1 19 a = b a) ∧ (∀ a, a < n → ∀ o, z_pb (b a) o = true → o < n) ∧ ∃ u : Nat → Int, ∀ a o, a < n → z_pb (b a) o = true → u o < u a) ∨ fl = 0) := by
  have hI' := hI
  obtain ⟨hsc, har, hsh, hnu, hbk, hrw, htx⟩ := hI
  have hnu' := hnu
  obtain ⟨n1, n2, n3, n4, n5, n6, n7, n8, n9, n10, n11, n12⟩ := hnu
  have s3 : x.1 0 10 = y.1 0 1 := hsc.2.2.1
  have cT := z_cl n5
  obtain ⟨fl, x', y', q1, q2, q3, q4, q5, q6⟩ := nz_all2 hI'
  unfold f_X9_layLines f_X10_sures
  rw [pz_KC hI', Option.bind_some, q1, q2, Option.bind_some, Option.bind_some]
  dsimp only
  rcases q6 with ⟨rfl, hS, hR⟩ | ⟨rfl, -⟩
  case inr =>
    rw [if_pos rfl, if_pos rfl]
    exact ⟨_, _, _, rfl, rfl, q5, Or.inr rfl⟩
  rw [if_neg pz_one, if_neg pz_one]
  have h10 : x'.1 0 10 = y.1 0 1 := by rw [q3.1 0 (by omega) (by omega), s3]
  have h0 : y'.1 0 = y.1 0 := q4.1 0 (by omega)
  obtain ⟨t, e, a1, a2, a3, a4, a5⟩ := nz_layLines (x := x) hnu' hbk hS hR h10
  obtain ⟨e', b1, b2, b3⟩ := nz_sures hnu' hbk hS hR h0
  rw [a1, Option.bind_some, a2, Option.bind_some, b1, Option.bind_some]
  have heR : pz_eR y' e' := ⟨⟨by rw [b2 0 (by omega)], by rw [b2 0 (by omega)], by rw [b2 0 (by omega)], by rw [b2 0 (by omega)], by rw [b2 0 (by omega)], by rw [b2 0 (by omega)], by rw [b2 0 (by omega)]⟩, fun k _ _ => b2 k (by omega), fun k _ _ => b2 k (by omega)⟩
  have e01 : e'.1 0 1 = y.1 0 1 := by rw [b2 0 (by omega), h0]
  refine ⟨1, e, e', rfl, rfl, pz_fr q5 (nz_fL_eC a3) heR, Or.inl ⟨rfl, by rw [a4, e01], (y.1 0 1).toNatClampNeg, fun a => nz_av y (pz_K y) a (y.1 0 1).toNatClampNeg, by omega, by rw [e01]; exact z_of n5, fun a ha => ⟨a5 a ha, b3 a ha⟩, ?_, ?_⟩⟩
  · intro a ha o ho
    exact ((nz_av_b y (pz_K y) a o _ (by omega)).mp ho).1
  · refine ⟨nz_V 15 x', fun a o ha ho => ?_⟩
    exact ((nz_av_b y (pz_K y) a o _ (by omega)).mp ho).2 _ hS.2.1
theorem lq_ahead_ok : lq_ahead pz_I := by
  intro x y p q hI
  have hI' := hI
  obtain ⟨hsc, har, hsh, hnu, hbk, hrw, htx⟩ := hI
  have hnu' := hnu
  obtain ⟨n1, n2, n3, n4, n5, n6, n7, n8, n9, n10, n11, n12⟩ := hnu
  have s3 : x.1 0 10 = y.1 0 1 := hsc.2.2.1
  have cT := z_cl n5
  unfold f_X9_ahead f_X10_ahead f_X10_sures
  rw [pz_twoR n5, pz_two hI']
  simp only [Option.bind_some, pz_if0]
  by_cases hp : (0 ≤ p.toInt ∧ p.toInt < (y.1 0 1).toInt) ∧ (0 ≤ q.toInt ∧ q.toInt < (y.1 0 1).toInt) ∧ p.toInt ≠ q.toInt
  case neg => rw [if_neg hp, if_neg hp]; exact ⟨_, _, _, rfl, rfl, hI'⟩
  rw [if_pos hp, if_pos hp, pz_KC hI', Option.bind_some]
  obtain ⟨hp1, hq1, hpq⟩ := hp
  have cp := z_cl hp1.1
  have cq := z_cl hq1.1
  obtain ⟨fl, x', y', q1, q2, q3, q4, q5, q6⟩ := nz_all2 hI'
  rw [q1, q2, Option.bind_some, Option.bind_some]
  dsimp only
  rcases q6 with ⟨rfl, hS, hR⟩ | ⟨rfl, -⟩
  case inr =>
    rw [if_pos rfl, if_pos rfl]
    exact ⟨_, _, _, rfl, rfl, q5⟩
  rw [if_neg pz_one, if_neg pz_one]
  have h0 : y'.1 0 = y.1 0 := q4.1 0 (by omega)
  obtain ⟨t, f1, o1, k1⟩ := nz_btw hnu' hbk hS hR (a := q) hq1
  obtain ⟨w, w1, -, w3, -⟩ := k1 p hp1.1 hp1.2
  obtain ⟨e', b1, b2, b3⟩ := nz_sures hnu' hbk hS hR h0
  have heR : pz_eR y' e' := ⟨⟨by rw [b2 0 (by omega)], by rw [b2 0 (by omega)], by rw [b2 0 (by omega)], by rw [b2 0 (by omega)], by rw [b2 0 (by omega)], by rw [b2 0 (by omega)], by rw [b2 0 (by omega)]⟩, fun k _ _ => b2 k (by omega), fun k _ _ => b2 k (by omega)⟩
  have hIf : pz_I t e' := pz_fr q5 (nz_fL_eC (nz_fL_only (Or.inr (Or.inl (by omega))) o1)) heR
  rw [f1, Option.bind_some, w1, Option.bind_some, b1, Option.bind_some, Option.bind_some]
  dsimp only
  rw [if_neg pz_one, z_ai (Sd := cx_R) (a := 19) (n := 12) rfl hq1.1 (by omega), Option.bind_some, b3 _ (by omega)]
  have hpn : p = nI p.toNatClampNeg := z_of hp1.1
  have e0 : (0 : Int32).toInt = 0 := by decide
  have hbit := nz_av_b y (pz_K y) q.toNatClampNeg p.toNatClampNeg (y.1 0 1).toNatClampNeg (by omega)
  have hmx := nz_mx_ah w3
  by_cases hw : 0 ≤ w
  · rw [if_pos hw]
    rw [z_le, e0] at hw
    refine ⟨0, t, e', rfl, ?_, hIf⟩
    have hf : z_pb (nz_av y (pz_K y) q.toNatClampNeg (y.1 0 1).toNatClampNeg) p.toNatClampNeg = false := by
      cases hc : z_pb (nz_av y (pz_K y) q.toNatClampNeg (y.1 0 1).toNatClampNeg) p.toNatClampNeg with
      | false => rfl
      | true =>
        have := hmx.mpr (hbit.mp hc).2
        omega
    rw [← z_pR0 _ (by omega), ← hpn] at hf
    rw [hf]
  · rw [if_neg hw]
    rw [z_le, e0] at hw
    refine ⟨1, t, e', rfl, ?_, hIf⟩
    have hf := hbit.mpr ⟨by omega, hmx.mp (by omega)⟩
    rw [← z_pR1 _ (by omega), ← hpn] at hf
    rw [hf]

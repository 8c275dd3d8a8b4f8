/-! can, all, span, clock, between -/
theorem nz_eR {y t : ax_S} (h : z_only 11 y t) : pz_eR y t := ⟨⟨by rw [h.1 0 (by omega)], by rw [h.1 0 (by omega)], by rw [h.1 0 (by omega)], by rw [h.1 0 (by omega)], by rw [h.1 0 (by omega)], by rw [h.1 0 (by omega)], by rw [h.1 0 (by omega)]⟩, fun k _ _ => h.1 k (by omega), fun k _ _ => h.1 k (by omega)⟩
theorem nz_can2 {x y : ax_S} (hI : pz_I x y) (B : Int64) : ∃ fl x' y', f_X6_canHold B x = some (fl, x') ∧ f_X10_works B y = some (fl, y') ∧ nz_fr x x' ∧ z_only 11 y y' ∧ pz_I x' y' ∧ ((fl = 1 ∧ ∃ v, nz_S y B v) ∨ (fl = 0 ∧ ∀ v, ¬ nz_S y B v)) := by
  obtain ⟨fl, x', f1, l1, r1, c1⟩ := nz_canHold hI B
  have hI' := hI
  obtain ⟨hsc, har, hsh, hnu, hbk, hrw, htx⟩ := hI
  obtain ⟨gl, y', f2, r2, c2⟩ := nz_works hnu hbk hrw B
  have hfin := pz_fr hI' (nz_fr_eC r1) (nz_eR r2)
  have E0 : nz_E y 0 := Or.inl rfl
  rcases c1 with ⟨rfl, q, -⟩ | ⟨rfl, q⟩ <;> rcases c2 with ⟨rfl, q'⟩ | ⟨rfl, q'⟩
  · exact ⟨1, x', y', f1, f2, r1, r2, hfin, Or.inl ⟨rfl, _, q⟩⟩
  · exact absurd q (q' _)
  · obtain ⟨⟨v, hv, -⟩, -⟩ := q' 0 0 E0 E0
    exact absurd hv (q _)
  · exact ⟨0, x', y', f1, f2, r1, r2, hfin, Or.inr ⟨rfl, q⟩⟩
theorem nz_solve2 {x y : ax_S} (hI : pz_I x y) (B : Int64) : ∃ fl x' y', f_X6_solve B x = some (fl, x') ∧ f_X10_works B y = some (fl, y') ∧ nz_fr x x' ∧ z_only 11 y y' ∧ pz_I x' y' ∧ ((fl = 1 ∧ nz_Sol x' y B ∧ nz_Rm y' y B) ∨ (fl = 0 ∧ ∀ v, ¬ nz_S y B v)) := by
  obtain ⟨fl, x', f1, r1, c1⟩ := nz_solve hI B
  have hI' := hI
  obtain ⟨hsc, har, hsh, hnu, hbk, hrw, htx⟩ := hI
  obtain ⟨gl, y', f2, r2, c2⟩ := nz_works hnu hbk hrw B
  have hfin := pz_fr hI' (nz_fr_eC r1) (nz_eR r2)
  have E0 : nz_E y 0 := Or.inl rfl
  rcases c1 with ⟨rfl, q⟩ | ⟨rfl, q⟩ <;> rcases c2 with ⟨rfl, q'⟩ | ⟨rfl, q'⟩
  · exact ⟨1, x', y', f1, f2, r1, r2, hfin, Or.inl ⟨rfl, q, q'⟩⟩
  · exact absurd q.2.1 (q' _)
  · obtain ⟨⟨v, hv, -⟩, -⟩ := q' 0 0 E0 E0
    exact absurd hv (q _)
  · exact ⟨0, x', y', f1, f2, r1, r2, hfin, Or.inr ⟨rfl, q⟩⟩
/-- greatest and least are the same on both sides -/
theorem nz_top {x' y' y : ax_S} {B : Int64} (hnu : pz_nu y) (hbk : pz_bk y) (hS : nz_Sol x' y B) (hR : nz_Rm y' y B) {m : Nat} (hm : nz_E y (1 + m)) : x'.1 15 m = y'.1 11 (1 + m) ∧ x'.1 16 m = y'.1 11 (19 * (1 + m)) ∧ -200000 ≤ (x'.1 15 m).toInt ∧ (x'.1 15 m).toInt ≤ 200000 ∧ -200000 ≤ (x'.1 16 m).toInt ∧ (x'.1 16 m).toInt ≤ 200000 := by
  have hm18 : m < 18 := by have := nz_E19 y _ hm; omega
  have E0 : nz_E y 0 := Or.inl rfl
  obtain ⟨l1, s15, s16, hmm⟩ := hS
  obtain ⟨⟨v, hv1, hv2⟩, hv3⟩ := hR 0 (1 + m) E0 hm
  obtain ⟨⟨u, hu1, hu2⟩, hu3⟩ := hR (1 + m) 0 hm E0
  have a1 := hv3 _ s15
  have a2 := hmm v hv1 m hm18
  have b1 := hu3 _ s16
  have b2 := hmm u hu1 m hm18
  rw [nz_ws, nz_w0] at hv2 a1
  rw [nz_ws, nz_w0] at hu2 b1
  have d1 : nz_D y' 0 (1 + m) = (y'.1 11 (1 + m)).toInt := by unfold nz_D; rw [show 19 * 0 + (1 + m) = 1 + m by omega]
  have d2 : nz_D y' (1 + m) 0 = (y'.1 11 (19 * (1 + m))).toInt := rfl
  have e15 : nz_V 15 x' m = (x'.1 15 m).toInt := rfl
  have e16 : nz_V 16 x' m = (x'.1 16 m).toInt := rfl
  have c1 := s15.1 m hm18
  have c2 := s16.1 m hm18
  have hlh := nz_lohi hnu hbk m
  dsimp only at c2
  have key1 : x'.1 15 m = y'.1 11 (1 + m) := by rw [z_eq, ← e15, ← d1]; omega
  have key2 : x'.1 16 m = y'.1 11 (19 * (1 + m)) := by rw [z_eq, ← e16, ← d2]; omega
  refine ⟨key1, key2, ?_⟩
  omega
theorem nz_canAllR {y : ax_S} (hnu : pz_nu y) {fl : Int32} {y' : ax_S} (h : f_X10_works (pz_K y) y = some (fl, y')) (hfl : fl = 0 ∨ fl = 1) : f_X10_canAll y = some (fl, y') := by
  unfold f_X10_canAll
  rw [pz_KR hnu, Option.bind_some, h, Option.bind_some]
  rcases hfl with rfl | rfl
  · dsimp only; rw [z_zb0]; rfl
  · dsimp only; rw [z_zb1]; rfl
theorem nz_all2 {x y : ax_S} (hI : pz_I x y) : ∃ fl x' y', f_X6_solve (pz_K y) x = some (fl, x') ∧ f_X10_canAll y = some (fl, y') ∧ nz_fr x x' ∧ z_only 11 y y' ∧ pz_I x' y' ∧ ((fl = 1 ∧ nz_Sol x' y (pz_K y) ∧ nz_Rm y' y (pz_K y)) ∨ (fl = 0 ∧ ∀ v, ¬ nz_S y (pz_K y) v)) := by
  obtain ⟨fl, x', y', h1, h2, h3, h4, h5, h6⟩ := nz_solve2 hI (pz_K y)
  refine ⟨fl, x', y', h1, ?_, h3, h4, h5, h6⟩
  refine nz_canAllR hI.2.2.2.1 h2 ?_
  rcases h6 with ⟨q, -⟩ | ⟨q, -⟩
  · exact Or.inr q
  · exact Or.inl q
theorem nz_all3 {x y : ax_S} (hI : pz_I x y) : ∃ fl x' y', f_X6_canHold (pz_K y) x = some (fl, x') ∧ f_X10_canAll y = some (fl, y') ∧ nz_fr x x' ∧ z_only 11 y y' ∧ pz_I x' y' ∧ ((fl = 1 ∧ ∃ v, nz_S y (pz_K y) v) ∨ (fl = 0 ∧ ∀ v, ¬ nz_S y (pz_K y) v)) := by
  obtain ⟨fl, x', y', h1, h2, h3, h4, h5, h6⟩ := nz_can2 hI (pz_K y)
  refine ⟨fl, x', y', h1, ?_, h3, h4, h5, h6⟩
  refine nz_canAllR hI.2.2.2.1 h2 ?_
  rcases h6 with ⟨q, -⟩ | ⟨q, -⟩
  · exact Or.inr q
  · exact Or.inl q
theorem lq_all_ok : lq_all pz_I := by
  intro x y hI
  obtain ⟨fl, x', y', h1, h2, h3, h4, h5, h6⟩ := nz_all3 hI
  refine ⟨fl, x', y', ?_, ?_, h5⟩
  · unfold f_X9_all
    rw [pz_KC hI, Option.bind_some, h1, Option.bind_some]
    unfold f_X9_oneIf
    rcases h6 with ⟨rfl, -⟩ | ⟨rfl, -⟩ <;> rfl
  · unfold f_X10_all
    rw [h2, Option.bind_some]
    rcases h6 with ⟨rfl, -⟩ | ⟨rfl, -⟩ <;> rfl
theorem z_cmpL {a b : Int64} : lg_cmp a b < 0 ↔ a.toInt < b.toInt := by
  unfold lg_cmp
  have e : ∀ {a b : Int64}, a < b ↔ a.toInt < b.toInt := Int64.lt_iff_toInt_lt
  by_cases h1 : a > b
  · rw [if_pos h1]
    have h1 : b.toInt < a.toInt := e.mp h1
    constructor
    · intro q; exact absurd q (by decide)
    · intro q; omega
  · rw [if_neg h1]
    by_cases h2 : a = b
    · rw [if_pos h2, h2]
      constructor
      · intro q; exact absurd q (by decide)
      · intro q; omega
    · rw [if_neg h2]
      have h3 : ¬ b.toInt < a.toInt := fun q => h1 (e.mpr q)
      have h4 : a.toInt ≠ b.toInt := fun q => h2 (Int64.toInt_inj.mp q)
      constructor
      · intro _; omega
      · intro _; decide
theorem nz_setOk (a : Int64) {n : Nat} (hn : n ≤ 40) : lg_cmp (ax_lushr a (nI n)) 0 = 0 ↔ ¬ a.toInt < 0 ∧ a.toInt < (ax_lshl 1 (nI n)).toInt := by
  rw [z_cmp0, ← Int64.toBitVec_inj, z_lushr a (by omega)]
  have e1 : (ax_lshl 1 (nI n)).toInt = 2 ^ n := by
    rw [← Int64.toInt_toBitVec, z_lshl 1 (by omega)]
    have : ∀ n : Fin 41, ((1 : Int64).toBitVec <<< n.1).toInt = 2 ^ n.1 := by decide
    exact this ⟨n, by omega⟩
  rw [e1]
  show a.toBitVec >>> n = 0#64 ↔ _
  rw [← BitVec.toNat_inj, BitVec.toNat_ushiftRight, Nat.shiftRight_eq_div_pow]
  have h2 : a.toInt = if 2 * a.toBitVec.toNat < 2 ^ 64 then (a.toBitVec.toNat : Int) else (a.toBitVec.toNat : Int) - 2 ^ 64 := by
    rw [← Int64.toInt_toBitVec, BitVec.toInt_eq_toNat_cond]; rfl
  have h3 : a.toBitVec.toNat < 2 ^ 64 := a.toBitVec.isLt
  have h4 : (2 : Nat) ^ n ≤ 2 ^ 40 := Nat.pow_le_pow_right (by omega) hn
  have h5 : 0 < (2 : Nat) ^ n := Nat.pos_of_ne_zero (by simp)
  have h6 : ((2 : Nat) ^ n : Int) = ((2 ^ n : Nat) : Int) := by simp
  have h7 : (0#64).toNat = 0 := rfl
  rw [h7, Nat.div_eq_zero_iff_lt h5]
  have h8 : (2 : Int) ^ n = ((2 ^ n : Nat) : Int) := by simp
  rw [h8]
  generalize a.toBitVec.toNat = N at *
  generalize (2 : Nat) ^ n = P at *
  split at h2
  · omega
  · omega
theorem lq_can_ok : lq_can pz_I := by
  intro x y a hI
  have hI' := hI
  obtain ⟨hsc, har, hsh, hnu, hbk, hrw, htx⟩ := hI
  have hnu' := hnu
  obtain ⟨n1, n2, n3, n4, n5, n6, n7, n8, n9, n10, n11, n12⟩ := hnu
  obtain ⟨s1, s2, s3, s4, s5, s6, s7⟩ := hsc
  have c6 := z_cl n9
  unfold f_X9_can f_X10_can
  rw [s6]
  have e0 : (0 : Int64).toInt = 0 := by decide
  have hk := nz_setOk a (n := (y.1 0 6).toNatClampNeg) (by omega)
  rw [← z_of n9] at hk
  by_cases hc : lg_cmp (ax_lushr a (y.1 0 6)) 0 = 0
  · rw [if_pos hc]
    rw [hk] at hc
    have g1 : ¬ lg_cmp a 0 < 0 := by rw [z_cmpL, e0]; exact hc.1
    have g2 : lg_cmp a (ax_lshl 1 (y.1 0 6)) < 0 := by rw [z_cmpL]; exact hc.2
    rw [if_neg g1, if_pos g2, pz_KC hI', Option.bind_some, pz_KR hnu', Option.bind_some]
    by_cases hd : lg_cmp (a &&& (pz_K y ^^^ -1)) 0 = 0
    · rw [if_pos hd, if_pos hd]
      obtain ⟨fl, x', y', h1, h2, h3, h4, h5, h6⟩ := nz_can2 hI' a
      rw [h1, Option.bind_some, h2, Option.bind_some]
      unfold f_X9_oneIf
      rcases h6 with ⟨rfl, -⟩ | ⟨rfl, -⟩
      · exact ⟨1, x', y', rfl, rfl, h5⟩
      · exact ⟨0, x', y', rfl, rfl, h5⟩
    · rw [if_neg hd, if_neg hd]
      exact ⟨_, x, y, rfl, rfl, hI'⟩
  · rw [if_neg hc]
    rw [hk] at hc
    refine ⟨-2, x, y, rfl, ?_, hI'⟩
    by_cases g1 : lg_cmp a 0 < 0
    · rw [if_pos g1]
    · rw [if_neg g1]
      have g2 : ¬ lg_cmp a (ax_lshl 1 (y.1 0 6)) < 0 := by
        rw [z_cmpL]
        rw [z_cmpL, e0] at g1
        exact fun q => hc ⟨g1, q⟩
      rw [if_neg g2]
theorem pz_isEnd (p : Int32) : f_X9_isEnd p = some (if 0 ≤ p.toInt ∧ p.toInt ≤ 1 then 1 else 0) := by
  unfold f_X9_isEnd
  by_cases h0 : p = 0
  · rw [if_pos h0, h0]; decide
  · rw [if_neg h0]
    by_cases h1 : p = 1
    · rw [if_pos h1, h1]; decide
    · rw [if_neg h1, if_neg]
      intro q
      rw [z_eq] at h0 h1
      have e0 : (0 : Int32).toInt = 0 := by decide
      have e1 : (1 : Int32).toInt = 1 := by decide
      omega
theorem pz_in01 (p : Int32) : f_X10_in p 0 1 = some (if 0 ≤ p.toInt ∧ p.toInt ≤ 1 then 1 else 0) := by
  rw [pz_in]
  have e0 : (0 : Int32).toInt = 0 := by decide
  have e1 : (1 : Int32).toInt = 1 := by decide
  rw [e0, e1]
/-- an end of a thing, on both sides -/
theorem nz_end {x' y' y : ax_S} {B : Int64} (hnu : pz_nu y) (hbk : pz_bk y) (hS : nz_Sol x' y B) (hR : nz_Rm y' y B) {p e : Int32} (hp : 0 ≤ p.toInt ∧ p.toInt < (y.1 0 1).toInt) (he : 0 ≤ e.toInt ∧ e.toInt ≤ 1) : ∃ w, f_X6_endOfThing p e x' = some w ∧ f_X10_endOf p e y' = some w ∧ -200000 ≤ w.toInt ∧ w.toInt ≤ 200000 := by
  have hnu' := hnu
  obtain ⟨n1, n2, n3, n4, n5, n6, n7, n8, n9, n10, n11, n12⟩ := hnu
  have cp := z_cl hp.1
  have ct := z_cl n5
  obtain ⟨k1, k2, k3, k4, k5, k6⟩ := nz_top hnu' hbk hS hR (m := p.toNatClampNeg) (by unfold nz_E; omega)
  have e0 : (0 : Int32).toInt = 0 := by decide
  have e1 : (1 : Int32).toInt = 1 := by decide
  have h1p : ((1 : Int32) + p).toInt = 1 + p.toInt := by rw [z_add (by omega) (by omega), e1]
  have h1c : ((1 : Int32) + p).toNatClampNeg = 1 + p.toNatClampNeg := by
    have := z_cl (a := (1 : Int32) + p) (by omega)
    omega
  have h19 : ((19 : Int32) * ((1 : Int32) + p)).toInt = 19 * (1 + p.toInt) := by
    rw [z_mul (by simp only [Int32.reduceToInt]; omega) (by simp only [Int32.reduceToInt]; omega), h1p]
    simp only [Int32.reduceToInt]
  have h19c : ((19 : Int32) * ((1 : Int32) + p)).toNatClampNeg = 19 * (1 + p.toNatClampNeg) := by
    have := z_cl (a := (19 : Int32) * ((1 : Int32) + p)) (by omega)
    omega
  unfold f_X6_endOfThing f_X10_endOf
  by_cases h1 : e = 1
  · rw [if_pos h1, if_neg (by rw [h1]; decide)]
    rw [z_ai (Sd := cx_C) (x := x') (a := 15) (n := 18) rfl hp.1 (by omega), z_ai (Sd := cx_R) (x := y') (a := 11) (n := 361) rfl (by omega) (by omega), h1c, ← k1]
    exact ⟨_, rfl, rfl, k3, k4⟩
  · have h0 : e = 0 := by rw [z_eq, e0]; rw [z_eq, e1] at h1; omega
    rw [if_neg h1, if_pos h0]
    rw [z_ai (Sd := cx_C) (x := x') (a := 16) (n := 18) rfl hp.1 (by omega), z_ai (Sd := cx_R) (x := y') (a := 11) (n := 361) rfl (by omega) (by omega), h19c, ← k2]
    refine ⟨_, rfl, rfl, ?_⟩
    rw [z_neg (by omega)]
    omega
theorem nz_endC {x' y' y : ax_S} {B : Int64} (hnu : pz_nu y) (hbk : pz_bk y) (hS : nz_Sol x' y B) (hR : nz_Rm y' y B) {p e : Int32} (hp : 0 ≤ p.toInt ∧ p.toInt < (y.1 0 2).toInt) (he : 0 ≤ e.toInt ∧ e.toInt ≤ 1) : ∃ w, f_X6_endOfClock p e x' = some w ∧ f_X10_clockEnd p e y' = some w := by
  have hnu' := hnu
  obtain ⟨n1, n2, n3, n4, n5, n6, n7, n8, n9, n10, n11, n12⟩ := hnu
  have cp := z_cl hp.1
  have ct := z_cl n7
  obtain ⟨k1, k2, k3, k4, k5, k6⟩ := nz_top hnu' hbk hS hR (m := 12 + p.toNatClampNeg) (by unfold nz_E; omega)
  have e0 : (0 : Int32).toInt = 0 := by decide
  have e1 : (1 : Int32).toInt = 1 := by decide
  have h1p : ((12 : Int32) + p).toInt = 12 + p.toInt := by
    rw [z_add (by simp only [Int32.reduceToInt]; omega) (by simp only [Int32.reduceToInt]; omega)]
    simp only [Int32.reduceToInt]
  have h1c : ((12 : Int32) + p).toNatClampNeg = 12 + p.toNatClampNeg := by
    have := z_cl (a := (12 : Int32) + p) (by omega)
    omega
  have h2p : ((13 : Int32) + p).toInt = 13 + p.toInt := by
    rw [z_add (by simp only [Int32.reduceToInt]; omega) (by simp only [Int32.reduceToInt]; omega)]
    simp only [Int32.reduceToInt]
  have h2c : ((13 : Int32) + p).toNatClampNeg = 1 + (12 + p.toNatClampNeg) := by
    have := z_cl (a := (13 : Int32) + p) (by omega)
    omega
  have h19 : ((19 : Int32) * ((13 : Int32) + p)).toInt = 19 * (13 + p.toInt) := by
    rw [z_mul (by simp only [Int32.reduceToInt]; omega) (by simp only [Int32.reduceToInt]; omega), h2p]
    simp only [Int32.reduceToInt]
  have h19c : ((19 : Int32) * ((13 : Int32) + p)).toNatClampNeg = 19 * (1 + (12 + p.toNatClampNeg)) := by
    have := z_cl (a := (19 : Int32) * ((13 : Int32) + p)) (by omega)
    omega
  unfold f_X6_endOfClock f_X10_clockEnd
  by_cases h1 : e = 1
  · rw [if_pos h1, if_neg (by rw [h1]; decide)]
    rw [z_ai (Sd := cx_C) (x := x') (a := 16) (n := 18) rfl (by omega) (by omega), z_ai (Sd := cx_R) (x := y') (a := 11) (n := 361) rfl (by omega) (by omega), h19c, h1c, ← k2]
    exact ⟨_, rfl, rfl⟩
  · have h0 : e = 0 := by rw [z_eq, e0]; rw [z_eq, e1] at h1; omega
    rw [if_neg h1, if_pos h0]
    rw [z_ai (Sd := cx_C) (x := x') (a := 15) (n := 18) rfl (by omega) (by omega), z_ai (Sd := cx_R) (x := y') (a := 11) (n := 361) rfl (by omega) (by omega), h2c, h1c, ← k1]
    exact ⟨_, rfl, rfl⟩
theorem lq_span_ok : lq_span pz_I := by
  intro x y p e hI
  have hI' := hI
  obtain ⟨hsc, har, hsh, hnu, hbk, hrw, htx⟩ := hI
  have h5 : 0 ≤ (y.1 0 1).toInt := hnu.2.2.2.2.1
  unfold f_X9_span f_X10_span
  rw [pz_isThingC, Option.bind_some, pz_if0, pz_isThingR _ _ h5, Option.bind_some, pz_if0, hsc.2.2.1]
  by_cases c : 0 ≤ p.toInt ∧ p.toInt < (y.1 0 1).toInt
  case neg => rw [if_neg c, if_neg c]; exact ⟨_, x, y, rfl, rfl, hI'⟩
  rw [if_pos c, if_pos c, pz_isEnd, Option.bind_some, pz_if0, pz_in01, Option.bind_some, pz_if0]
  by_cases c2 : 0 ≤ e.toInt ∧ e.toInt ≤ 1
  case neg => rw [if_neg c2, if_neg c2]; exact ⟨_, x, y, rfl, rfl, hI'⟩
  rw [if_pos c2, if_pos c2, pz_KC hI', Option.bind_some]
  obtain ⟨fl, x', y', h1, h2, h3, h4, h5, h6⟩ := nz_all2 hI'
  rw [h1, Option.bind_some, h2, Option.bind_some]
  rcases h6 with ⟨rfl, q, q'⟩ | ⟨rfl, -⟩
  · obtain ⟨w, w1, w2, -⟩ := nz_end hnu hbk q q' c c2
    refine ⟨w, x', y', ?_, ?_, h5⟩
    · dsimp only
      rw [if_neg pz_one, w1]; rfl
    · dsimp only
      rw [if_neg pz_one, w2]; rfl
  · exact ⟨_, x', y', rfl, rfl, h5⟩
theorem lq_clock_ok : lq_clock pz_I := by
  intro x y p e hI
  have hI' := hI
  obtain ⟨hsc, har, hsh, hnu, hbk, hrw, htx⟩ := hI
  have h5 : 0 ≤ (y.1 0 2).toInt := hnu.2.2.2.2.2.2.1
  unfold f_X9_clock f_X10_clock
  rw [pz_isBookC, Option.bind_some, pz_if0, pz_isBookR _ _ h5, Option.bind_some, pz_if0, hsc.2.2.2.2.1]
  by_cases c : 0 ≤ p.toInt ∧ p.toInt < (y.1 0 2).toInt
  case neg => rw [if_neg c, if_neg c]; exact ⟨_, x, y, rfl, rfl, hI'⟩
  rw [if_pos c, if_pos c, pz_isEnd, Option.bind_some, pz_if0, pz_in01, Option.bind_some, pz_if0]
  by_cases c2 : 0 ≤ e.toInt ∧ e.toInt ≤ 1
  case neg => rw [if_neg c2, if_neg c2]; exact ⟨_, x, y, rfl, rfl, hI'⟩
  rw [if_pos c2, if_pos c2, pz_KC hI', Option.bind_some]
  obtain ⟨fl, x', y', h1, h2, h3, h4, h5, h6⟩ := nz_all2 hI'
  rw [h1, Option.bind_some, h2, Option.bind_some]
  rcases h6 with ⟨rfl, q, q'⟩ | ⟨rfl, -⟩
  · obtain ⟨w, w1, w2⟩ := nz_endC hnu hbk q q' c c2
    refine ⟨w, x', y', ?_, ?_, h5⟩
    · dsimp only
      rw [if_neg pz_one, w1]; rfl
    · dsimp only
      rw [if_neg pz_one, w2]; rfl
  · exact ⟨_, x', y', rfl, rfl, h5⟩

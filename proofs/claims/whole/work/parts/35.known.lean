/-! which rows are known, as bits -/
def pz_kn (y : ax_S) (d : Int32) (r : Nat) : Bool := decide ((y.1 9 r).toInt ≤ d.toInt ∧ ((y.1 10 r).toInt = -1 ∨ d.toInt < (y.1 10 r).toInt))
theorem pz_knC {x y : ax_S} (har : pz_ar x y) (i d : Int32) (h0 : 0 ≤ i.toInt) (h1 : i.toInt < 40) : f_X7_isKnown i d x = some (if pz_kn y d i.toNatClampNeg = true then 1 else 0) := by
  obtain ⟨a1, a2, a3, a4, a5, a6, a7, a8, a9, a10, a11, a12, a13⟩ := id har
  have e1 := z_ai (Sd := cx_C) (x := x) (a := 24) (n := 40) (i := i) rfl h0 h1
  have e2 := z_ai (Sd := cx_C) (x := x) (a := 25) (n := 40) (i := i) rfl h0 h1
  unfold f_X7_isKnown
  rw [e1, e2, a9, a10]
  simp only [Option.bind_some, z_lt, z_le, z_eq, pz_kn, decide_eq_true_eq, show (-1 : Int32).toInt = -1 from by decide]
  by_cases q1 : d.toInt < (y.1 9 i.toNatClampNeg).toInt
  · rw [if_pos q1, if_neg (by omega)]
  · rw [if_neg q1]
    by_cases q2 : (y.1 10 i.toNatClampNeg).toInt = -1
    · rw [if_pos q2, if_pos (by omega)]
    · rw [if_neg q2]
      by_cases q3 : (y.1 10 i.toNatClampNeg).toInt ≤ d.toInt
      · rw [if_pos q3, if_neg (by omega)]
      · rw [if_neg q3, if_pos (by omega)]
theorem pz_knR (y : ax_S) (i d : Int32) (h0 : 0 ≤ i.toInt) (h1 : i.toInt < 40) : f_X10_isKnownTo i d y = some (if pz_kn y d i.toNatClampNeg = true then 1 else 0) := by
  have e1 := z_ai (Sd := cx_R) (x := y) (a := 9) (n := 40) (i := i) rfl h0 h1
  have e2 := z_ai (Sd := cx_R) (x := y) (a := 10) (n := 40) (i := i) rfl h0 h1
  unfold f_X10_isKnownTo
  rw [e1, e2]
  simp only [Option.bind_some, z_lt, z_le, z_eq, pz_kn, decide_eq_true_eq, show (-1 : Int32).toInt = -1 from by decide]
  by_cases q1 : d.toInt < (y.1 9 i.toNatClampNeg).toInt
  · rw [if_pos q1, if_neg (by omega)]
  · rw [if_neg q1]
    by_cases q2 : (y.1 10 i.toNatClampNeg).toInt = -1
    · rw [if_pos q2, if_pos (by omega)]
    · rw [if_neg q2]
      by_cases q3 : (y.1 10 i.toNatClampNeg).toInt ≤ d.toInt
      · rw [if_pos q3, if_neg (by omega)]
      · rw [if_neg q3, if_pos (by omega)]
/-- the day by which one looks -/
def pz_vd (y : ax_S) : Int32 := if y.1 0 14 = -1 then y.1 0 0 else y.1 0 14
theorem pz_vdC {x y : ax_S} (hsc : pz_sc x y) : f_X9_dayOfView x = some (pz_vd y) := by
  obtain ⟨s1, s2, s3, s4, s5, s6, s7⟩ := id hsc
  unfold f_X9_dayOfView pz_vd
  rw [s1, s2]
  split <;> rfl
theorem pz_knR2 (y : ax_S) (i : Int32) (h0 : 0 ≤ i.toInt) (h1 : i.toInt < 40) : f_X10_isKnown i y = some (if pz_kn y (pz_vd y) i.toNatClampNeg = true then 1 else 0) := by
  unfold f_X10_isKnown pz_vd
  by_cases h : y.1 0 14 = -1
  · rw [if_pos h, if_pos h, pz_knR y i _ h0 h1, Option.bind_some, pz_zbif, Option.bind_some]
  · rw [if_neg h, if_neg h, pz_knR y i _ h0 h1, Option.bind_some, pz_zbif, Option.bind_some]
def pz_kb (y : ax_S) (d : Int32) : Nat → Int64
  | 0 => 0
  | n + 1 => if pz_kn y d n = true then pz_kb y d n ||| ax_lshl 1 (nI n) else pz_kb y d n
theorem nI_s (n : Nat) : nI n + 1 = nI (n + 1) := (nI_succ n).symm
theorem pz_knownC {x y : ax_S} (hI : pz_I x y) (d : Int32) : f_X7_knownAsOf d x = some (pz_kb y d (y.1 0 6).toNatClampNeg) := by
  obtain ⟨hsc, har, hsh, hnu, hbk, hrw, htx⟩ := id hI
  obtain ⟨s1, s2, s3, s4, s5, s6, s7⟩ := id hsc
  obtain ⟨n1, n2, n3, n4, n5, n6, n7, n8, n9, n10, n11, n12⟩ := id hnu
  have c0 := z_cl n9
  have key := z_for (f := b_X7_knownAsOf_5 d x) (fun k => (pz_kb y d k, nI k)) (y.1 0 6).toNatClampNeg (e := pz_kb y d (y.1 0 6).toNatClampNeg) (fun k hk => by
    have e := z_nI (n := k) (by omega)
    have hc : (nI k).toNatClampNeg = k := nI_clamp (by omega)
    unfold b_X7_knownAsOf_5
    dsimp only
    rw [if_neg (by rw [z_le, s6]; omega), pz_knC har _ _ (by omega) (by omega), Option.bind_some, pz_if0, hc]
    show _ = some (Sum.inl (pz_kb y d (k + 1), nI (k + 1)))
    rw [← nI_s, pz_kb]
    by_cases hk : pz_kn y d k = true
    · rw [if_pos hk, if_pos hk]
    · rw [if_neg hk, if_neg hk]) (by
    have e := z_nI (n := (y.1 0 6).toNatClampNeg) (by omega)
    unfold b_X7_knownAsOf_5
    dsimp only
    rw [if_pos (by rw [z_le, s6]; omega)])
  unfold f_X7_knownAsOf
  rw [show ((0 : Int64), (0 : Int32)) = (fun k => (pz_kb y d k, nI k)) 0 from rfl, key]
  rfl
theorem pz_knownR {y : ax_S} (hnu : pz_nu y) (d : Int32) : f_X10_knownBits d y = some (pz_kb y d (y.1 0 6).toNatClampNeg) := by
  obtain ⟨n1, n2, n3, n4, n5, n6, n7, n8, n9, n10, n11, n12⟩ := id hnu
  have c0 := z_cl n9
  have key := z_for (f := b_X10_knownBits_5 d y) (fun k => (pz_kb y d k, nI k)) (y.1 0 6).toNatClampNeg (e := pz_kb y d (y.1 0 6).toNatClampNeg) (fun k hk => by
    have e := z_nI (n := k) (by omega)
    have hc : (nI k).toNatClampNeg = k := nI_clamp (by omega)
    unfold b_X10_knownBits_5
    dsimp only
    rw [if_neg (by rw [z_le]; omega), pz_knR _ _ _ (by omega) (by omega), Option.bind_some, pz_if0, hc]
    show _ = some (Sum.inl (pz_kb y d (k + 1), nI (k + 1)))
    rw [← nI_s, pz_kb]
    by_cases hk : pz_kn y d k = true
    · rw [if_pos hk, if_pos hk]
    · rw [if_neg hk, if_neg hk, Int64.or_zero]) (by
    have e := z_nI (n := (y.1 0 6).toNatClampNeg) (by omega)
    unfold b_X10_knownBits_5
    dsimp only
    rw [if_pos (by rw [z_le]; omega)])
  unfold f_X10_knownBits
  rw [show ((0 : Int64), (0 : Int32)) = (fun k => (pz_kb y d k, nI k)) 0 from rfl, key]
  rfl
/-- what is known now -/
def pz_K (y : ax_S) : Int64 := pz_kb y (pz_vd y) (y.1 0 6).toNatClampNeg
theorem pz_KC {x y : ax_S} (hI : pz_I x y) : f_X9_knownRows x = some (pz_K y) := by
  unfold f_X9_knownRows
  rw [pz_vdC hI.1, Option.bind_some, pz_knownC hI, Option.bind_some]
  rfl
theorem pz_KR {y : ax_S} (hnu : pz_nu y) : f_X10_knownNow y = some (pz_K y) := by
  unfold f_X10_knownNow pz_K pz_vd
  by_cases h : y.1 0 14 = -1
  · rw [if_pos h, if_pos h, pz_knownR hnu, Option.bind_some]
  · rw [if_neg h, if_neg h, pz_knownR hnu, Option.bind_some]
/-! bits of a long -/
def pz_tb (b : Int64) (r : Nat) : Bool := b.toBitVec.getLsbD r
theorem z_sh63 : ∀ r : Fin 64, (nI r.1).toInt64.toUInt64 &&& Int64.toUInt64 63 = UInt64.ofNat r.1 := by decide
theorem z_sh64 : ∀ r : Fin 64, (nI r.1).toInt64 &&& 63 = Int64.ofNat r.1 := by decide
theorem lq_about_ok : lq_about pz_I := by
  intro x y p w hI
  obtain ⟨hsc, har, hsh, hnu, hbk, hrw, htx⟩ := id hI
  obtain ⟨s1, s2, s3, s4, s5, s6, s7⟩ := id hsc
  obtain ⟨a1, a2, a3, a4, a5, a6, a7, a8, a9, a10, a11, a12, a13⟩ := id har
  obtain ⟨n1, n2, n3, n4, n5, n6, n7, n8, n9, n10, n11, n12⟩ := id hnu
  have hC : f_X9_isRow p x = _ := pz_isRowC p x
  have hR := pz_inm p (y.1 0 6) n9
  rw [s6] at hC
  by_cases h : 0 ≤ p.toInt ∧ p.toInt < (y.1 0 6).toInt
  case neg =>
    rw [if_neg h] at hC hR
    exact ⟨-300000, by simp [f_X9_about, hC], by simp [f_X10_about, hR], hI⟩
  rw [if_pos h] at hC hR
  have eC : ∀ a : Nat, ax_len cx_C 1 a = some 40 → ax_ai cx_C x a p = some (x.1 a p.toNatClampNeg) := fun a ha => z_ai ha h.1 (by omega)
  have eR : ∀ a : Nat, ax_len cx_R 1 a = some 40 → ax_ai cx_R y a p = some (y.1 a p.toNatClampNeg) := fun a ha => z_ai ha h.1 (by omega)
  have hkC := pz_knC har p (pz_vd y) h.1 (by omega)
  have hkR := pz_knR2 y p h.1 (by omega)
  unfold f_X9_about f_X10_about f_X10_aboutOf
  simp only [hC, hR, pz_vdC hsc, Option.bind_some, if_neg pz_one, eC 19 rfl, eC 20 rfl, eC 21 rfl, eC 22 rfl, eC 23 rfl, eC 24 rfl, eC 25 rfl, eR 4 rfl, eR 5 rfl, eR 6 rfl, eR 7 rfl, eR 8 rfl, eR 9 rfl, eR 10 rfl, a4, a5, a6, a7, a8, a9, a10, hkR, hkC]
  by_cases w0 : w = 0
  · exact ⟨_, by rw [if_pos w0], by rw [if_pos w0]; rfl, hI⟩
  by_cases w1 : w = 1
  · exact ⟨_, by rw [if_neg w0, if_pos w1], by rw [if_neg w0, if_pos w1]; rfl, hI⟩
  by_cases w2 : w = 2
  · exact ⟨_, by rw [if_neg w0, if_neg w1, if_pos w2], by rw [if_neg w0, if_neg w1, if_pos w2]; rfl, hI⟩
  by_cases w3 : w = 3
  · exact ⟨_, by rw [if_neg w0, if_neg w1, if_neg w2, if_pos w3], by rw [if_neg w0, if_neg w1, if_neg w2, if_pos w3]; rfl, hI⟩
  by_cases w4 : w = 4
  · exact ⟨_, by rw [if_neg w0, if_neg w1, if_neg w2, if_neg w3, if_pos w4], by rw [if_neg w0, if_neg w1, if_neg w2, if_neg w3, if_pos w4]; rfl, hI⟩
  by_cases w5 : w = 5
  · exact ⟨_, by rw [if_neg w0, if_neg w1, if_neg w2, if_neg w3, if_neg w4, if_pos w5], by rw [if_neg w0, if_neg w1, if_neg w2, if_neg w3, if_neg w4, if_pos w5]; rfl, hI⟩
  by_cases w6 : w = 6
  · exact ⟨_, by rw [if_neg w0, if_neg w1, if_neg w2, if_neg w3, if_neg w4, if_neg w5, if_pos w6], by rw [if_neg w0, if_neg w1, if_neg w2, if_neg w3, if_neg w4, if_neg w5, if_pos w6]; rfl, hI⟩
  by_cases w7 : w = 7
  · refine ⟨if pz_kn y (pz_vd y) p.toNatClampNeg = true then 1 else 0, ?_, ?_, hI⟩
    · rw [if_neg w0, if_neg w1, if_neg w2, if_neg w3, if_neg w4, if_neg w5, if_neg w6, if_pos w7]
      by_cases k : pz_kn y (pz_vd y) p.toNatClampNeg = true <;> simp [k, f_X9_oneIf]
    · rw [if_neg w0, if_neg w1, if_neg w2, if_neg w3, if_neg w4, if_neg w5, if_neg w6, if_pos w7]
      by_cases k : pz_kn y (pz_vd y) p.toNatClampNeg = true <;> simp [k]
  · exact ⟨-300000, by rw [if_neg w0, if_neg w1, if_neg w2, if_neg w3, if_neg w4, if_neg w5, if_neg w6, if_neg w7], by rw [if_neg w0, if_neg w1, if_neg w2, if_neg w3, if_neg w4, if_neg w5, if_neg w6, if_neg w7]; rfl, hI⟩

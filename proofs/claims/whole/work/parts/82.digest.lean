/-! digest -/
theorem nz_dv2 : ∀ i : Fin 24, ax_idiv (nI i.1) (2 : Int32) = some (nI (i.1 / 2)) ∧ ax_irem (nI i.1) (2 : Int32) = some (nI (i.1 % 2)) := by decide
/-- numbers taken in, one after another -/
def nz_hs (f : Nat → Int32) (h : Int64) : Nat → Int64
  | 0 => h
  | k + 1 => (31 : Int64) * nz_hs f h k + (f k).toInt64
theorem nz_dg1 {x y : ax_S} (hI : pz_I x y) : ∃ h, ax_lp (b_X9_digest_6 x) ((17 : Int64), (0 : Int32)) = some h ∧ ax_lp (b_X10_digest_6 y) ((17 : Int64), (0 : Int32)) = some h := by
  obtain ⟨e, e', k1, k2, rfl⟩ := z_two (f := b_X9_digest_6 x) (g := b_X10_digest_6 y) (fun a b => a = b ∧ ∃ k, k ≤ 8 ∧ a.2 = nI k) (fun e e' => e = e') (fun a => 8 - a.2.toNatClampNeg) (by
    rintro ⟨v, _⟩ _ ⟨rfl, k, hk, h1⟩
    dsimp only at h1
    subst h1
    have hkI : (nI k).toInt = (k : Int) := z_nI (by omega)
    have hkc := nI_cl (k := k) (by omega)
    have e7 : (7 : Int32).toInt = 7 := by decide
    have e8 : (8 : Int32).toInt = 8 := by decide
    by_cases hl : k = 8
    · left
      refine ⟨v, v, z_lpr ?_, z_lpr ?_, rfl⟩
      · unfold b_X9_digest_6; dsimp only; rw [if_pos (by rw [z_lt]; omega)]
      · unfold b_X10_digest_6; dsimp only; rw [if_pos (by rw [z_le]; omega)]
    · right
      obtain ⟨r, r1, r2, -⟩ := lq_count_ok x y (nI k) hI
      refine ⟨((31 : Int64) * v + r.toInt64, nI k + 1), ((31 : Int64) * v + r.toInt64, nI k + 1), z_lpl ?_, z_lpl ?_, ⟨rfl, k + 1, by omega, nI_s k⟩, ?_⟩
      · unfold b_X9_digest_6; dsimp only; rw [if_neg (by rw [z_lt]; omega), r1, Option.bind_some]
      · unfold b_X10_digest_6; dsimp only; rw [if_neg (by rw [z_le]; omega), r2, Option.bind_some]
      · dsimp only
        rw [nI_s, nI_cl (by omega), hkc]; omega)
    (a := ((17 : Int64), (0 : Int32))) (b := ((17 : Int64), (0 : Int32))) ⟨rfl, 0, by omega, rfl⟩
  exact ⟨e, k1, k2⟩
theorem nz_dg47 {x y : ax_S} (hI : pz_I x y) {r : Nat} (hr : r < (y.1 0 6).toNatClampNeg) (h : Int64) : ∃ e, ax_lp (b_X9_digest_47 (nI r) x) (h, (0 : Int32)) = some e ∧ ax_lp (b_X10_digest_44 (nI r) y) (h, (0 : Int32)) = some e := by
  have n9 := hI.2.2.2.1.2.2.2.2.2.2.2.2.1
  have n10 := hI.2.2.2.1.2.2.2.2.2.2.2.2.2.1
  have c6 := z_cl n9
  have hrI : (nI r).toInt = (r : Int) := z_nI (by omega)
  obtain ⟨e, e', k1, k2, rfl⟩ := z_two (f := b_X9_digest_47 (nI r) x) (g := b_X10_digest_44 (nI r) y) (fun a b => a = b ∧ ∃ k, k ≤ 8 ∧ a.2 = nI k) (fun e e' => e = e') (fun a => 8 - a.2.toNatClampNeg) (by
    rintro ⟨v, _⟩ _ ⟨rfl, k, hk, h1⟩
    dsimp only at h1
    subst h1
    have hkI : (nI k).toInt = (k : Int) := z_nI (by omega)
    have hkc := nI_cl (k := k) (by omega)
    have e7 : (7 : Int32).toInt = 7 := by decide
    have e8 : (8 : Int32).toInt = 8 := by decide
    by_cases hl : k = 8
    · left
      refine ⟨v, v, z_lpr ?_, z_lpr ?_, rfl⟩
      · unfold b_X9_digest_47; dsimp only; rw [if_pos (by rw [z_lt]; omega)]
      · unfold b_X10_digest_44; dsimp only; rw [if_pos (by rw [z_le]; omega)]
    · right
      obtain ⟨w, r1, r2, -⟩ := lq_about_ok x y (nI r) (nI k) hI
      have r3 : f_X10_aboutOf (nI r) (nI k) y = some w := by
        unfold f_X10_about at r2
        rw [pz_inm _ _ n9, Option.bind_some, if_pos (show 0 ≤ (nI r).toInt ∧ (nI r).toInt < (y.1 0 6).toInt by omega), if_neg pz_one] at r2
        cases hq : f_X10_aboutOf (nI r) (nI k) y with
        | none => rw [hq] at r2; exact absurd r2 (by simp)
        | some q => rw [hq, Option.bind_some] at r2; exact r2
      refine ⟨((31 : Int64) * v + w.toInt64, nI k + 1), ((31 : Int64) * v + w.toInt64, nI k + 1), z_lpl ?_, z_lpl ?_, ⟨rfl, k + 1, by omega, nI_s k⟩, ?_⟩
      · unfold b_X9_digest_47; dsimp only; rw [if_neg (by rw [z_lt]; omega), r1, Option.bind_some]
      · unfold b_X10_digest_44; dsimp only; rw [if_neg (by rw [z_le]; omega), r3, Option.bind_some]
      · dsimp only
        rw [nI_s, nI_cl (by omega), hkc]; omega)
    (a := (h, (0 : Int32))) (b := (h, (0 : Int32))) ⟨rfl, 0, by omega, rfl⟩
  exact ⟨e, k1, k2⟩
theorem nz_dg2 {x y : ax_S} (hI : pz_I x y) (h : Int64) : ∃ e, ax_lp (b_X9_digest_33 x) (h, (0 : Int32)) = some e ∧ ax_lp (b_X10_digest_33 y) (h, (0 : Int32)) = some e := by
  have n9 := hI.2.2.2.1.2.2.2.2.2.2.2.2.1
  have n10 := hI.2.2.2.1.2.2.2.2.2.2.2.2.2.1
  have s6 : x.1 2 7 = y.1 0 6 := hI.1.2.2.2.2.2.1
  have c6 := z_cl n9
  obtain ⟨e, e', k1, k2, rfl⟩ := z_two (f := b_X9_digest_33 x) (g := b_X10_digest_33 y) (fun a b => a = b ∧ ∃ k, k ≤ (y.1 0 6).toNatClampNeg ∧ a.2 = nI k) (fun e e' => e = e') (fun a => (y.1 0 6).toNatClampNeg - a.2.toNatClampNeg) (by
    rintro ⟨v, _⟩ _ ⟨rfl, k, hk, h1⟩
    dsimp only at h1
    subst h1
    have hkI : (nI k).toInt = (k : Int) := z_nI (by omega)
    have hkc := nI_cl (k := k) (by omega)
    by_cases hl : y.1 0 6 ≤ nI k
    · left
      refine ⟨v, v, z_lpr ?_, z_lpr ?_, rfl⟩
      · unfold b_X9_digest_33; dsimp only; rw [s6, if_pos hl]
      · unfold b_X10_digest_33; dsimp only; rw [if_pos hl]
    · right
      have hl' := hl
      rw [z_le, hkI] at hl'
      obtain ⟨w, r1, r2⟩ := nz_dg47 hI (r := k) (by omega) v
      refine ⟨(w, nI k + 1), (w, nI k + 1), z_lpl ?_, z_lpl ?_, ⟨rfl, k + 1, by omega, nI_s k⟩, ?_⟩
      · unfold b_X9_digest_33; dsimp only; rw [s6, if_neg hl, r1, Option.bind_some]
      · unfold b_X10_digest_33; dsimp only; rw [if_neg hl, r2, Option.bind_some]
      · dsimp only
        rw [nI_s, nI_cl (by omega), hkc]; omega)
    (a := (h, (0 : Int32))) (b := (h, (0 : Int32))) ⟨rfl, 0, by omega, rfl⟩
  exact ⟨e, k1, k2⟩
theorem nz_2T {v : Int32} {T : Nat} (h : v = nI T) (hT : T ≤ 12) : (2 : Int32) * v = nI (2 * T) := by
  rw [h, show (2 : Int32) = nI 2 from rfl]
  exact (Int32.ofNat_mul 2 T).symm
/-- spans of things, two by two -/
theorem nz_dg28 {x y : ax_S} {fl : Int32} {T : Nat} (hT : T ≤ 12) (hx : x.1 0 10 = nI T) (hy : y.1 0 1 = nI T) (hE : fl ≠ 0 → ∀ t e, t < T → e < 2 → ∃ w, f_X6_endOfThing (nI t) (nI e) x = some w ∧ f_X10_endOf (nI t) (nI e) y = some w) (h : Int64) :
    ∃ r, ax_lp (b_X9_digestSpans_28 fl x) (h, (0 : Int32)) = some r ∧ ax_lp (b_X10_digest_103 fl y) (h, (0 : Int32)) = some r := by
  have hv : ∀ i, ∃ w : Int32, i < 2 * T → ((fl = 0 → w = -300001) ∧ (fl ≠ 0 → f_X6_endOfThing (nI (i / 2)) (nI (i % 2)) x = some w ∧ f_X10_endOf (nI (i / 2)) (nI (i % 2)) y = some w)) := by
    intro i
    by_cases hi : i < 2 * T
    · by_cases hf : fl = 0
      · exact ⟨-300001, fun _ => ⟨fun _ => rfl, fun q => absurd hf q⟩⟩
      · obtain ⟨w, w1, w2⟩ := hE hf (i / 2) (i % 2) (by omega) (by omega)
        exact ⟨w, fun _ => ⟨fun q => absurd q hf, fun _ => ⟨w1, w2⟩⟩⟩
    · exact ⟨0, fun q => absurd q hi⟩
  obtain ⟨ev, hev⟩ := Classical.skolem.mp hv
  have h2T : (nI (2 * T)).toInt = ((2 * T : Nat) : Int) := z_nI (by omega)
  have hTI : (nI T).toInt = (T : Int) := z_nI (by omega)
  refine ⟨nz_hs ev h (2 * T), ?_, ?_⟩
  · refine z_for (f := b_X9_digestSpans_28 fl x) (fun i => (nz_hs ev h i, nI i)) (2 * T) (fun i hi => ?_) ?_
    · have hiI : (nI i).toInt = (i : Int) := z_nI (by omega)
      obtain ⟨g1, g2⟩ := hev i hi
      obtain ⟨d1, d2⟩ := nz_dv2 ⟨i, by omega⟩
      dsimp only at d1 d2
      unfold b_X9_digestSpans_28
      dsimp only
      rw [nz_2T hx hT, if_neg (by rw [z_le]; omega)]
      show _ = some (Sum.inl ((31 : Int64) * nz_hs ev h i + (ev i).toInt64, nI (i + 1)))
      rw [← nI_s i]
      by_cases hf : fl = 0
      · rw [if_pos hf, g1 hf]
      · rw [if_neg hf, d1, Option.bind_some, d2, Option.bind_some, (g2 hf).1, Option.bind_some]
    · unfold b_X9_digestSpans_28
      dsimp only
      rw [nz_2T hx hT, if_pos (by rw [z_le]; exact Int.le_refl _)]
  · refine z_for (f := b_X10_digest_103 fl y) (fun t => (nz_hs ev h (2 * t), nI t)) T (fun t ht => ?_) ?_
    · have htI : (nI t).toInt = (t : Int) := z_nI (by omega)
      obtain ⟨g1, g2⟩ := hev (2 * t) (by omega)
      obtain ⟨g3, g4⟩ := hev (2 * t + 1) (by omega)
      rw [show 2 * t / 2 = t by omega, show 2 * t % 2 = 0 by omega] at g2
      rw [show (2 * t + 1) / 2 = t by omega, show (2 * t + 1) % 2 = 1 by omega] at g4
      unfold b_X10_digest_103 j_X10_digest_103_133
      dsimp only
      rw [hy, if_neg (by rw [z_le]; omega)]
      show _ = some (Sum.inl ((31 : Int64) * ((31 : Int64) * nz_hs ev h (2 * t) + (ev (2 * t)).toInt64) + (ev (2 * t + 1)).toInt64, nI (t + 1)))
      rw [← nI_s t]
      by_cases hf : fl = 0
      · rw [if_pos hf, if_pos hf, g1 hf, g3 hf]
      · rw [if_neg hf, show (0 : Int32) = nI 0 from rfl, (g2 hf).2, Option.bind_some, show nI 0 = (0 : Int32) from rfl, if_neg hf, show (1 : Int32) = nI 1 from rfl, (g4 hf).2, Option.bind_some]
    · unfold b_X10_digest_103
      dsimp only
      rw [hy, if_pos (by rw [z_le]; exact Int.le_refl _)]
theorem nz_dg82 {x y : ax_S} {fl : Int32} {T : Nat} (hT : T ≤ 6) (hx : x.1 3 3 = nI T) (hy : y.1 0 2 = nI T) (hE : fl ≠ 0 → ∀ t e, t < T → e < 2 → ∃ w, f_X6_endOfClock (nI t) (nI e) x = some w ∧ f_X10_clockEnd (nI t) (nI e) y = some w) (h : Int64) :
    ∃ r, ax_lp (b_X9_digestSpans_82 fl x) (h, (0 : Int32)) = some r ∧ ax_lp (b_X10_digest_169 fl y) (h, (0 : Int32)) = some r := by
  have hv : ∀ i, ∃ w : Int32, i < 2 * T → ((fl = 0 → w = -300001) ∧ (fl ≠ 0 → f_X6_endOfClock (nI (i / 2)) (nI (i % 2)) x = some w ∧ f_X10_clockEnd (nI (i / 2)) (nI (i % 2)) y = some w)) := by
    intro i
    by_cases hi : i < 2 * T
    · by_cases hf : fl = 0
      · exact ⟨-300001, fun _ => ⟨fun _ => rfl, fun q => absurd hf q⟩⟩
      · obtain ⟨w, w1, w2⟩ := hE hf (i / 2) (i % 2) (by omega) (by omega)
        exact ⟨w, fun _ => ⟨fun q => absurd q hf, fun _ => ⟨w1, w2⟩⟩⟩
    · exact ⟨0, fun q => absurd q hi⟩
  obtain ⟨ev, hev⟩ := Classical.skolem.mp hv
  have h2T : (nI (2 * T)).toInt = ((2 * T : Nat) : Int) := z_nI (by omega)
  have hTI : (nI T).toInt = (T : Int) := z_nI (by omega)
  refine ⟨nz_hs ev h (2 * T), ?_, ?_⟩
  · refine z_for (f := b_X9_digestSpans_82 fl x) (fun i => (nz_hs ev h i, nI i)) (2 * T) (fun i hi => ?_) ?_
    · have hiI : (nI i).toInt = (i : Int) := z_nI (by omega)
      obtain ⟨g1, g2⟩ := hev i hi
      obtain ⟨d1, d2⟩ := nz_dv2 ⟨i, by omega⟩
      dsimp only at d1 d2
      unfold b_X9_digestSpans_82
      dsimp only
      rw [nz_2T hx (by omega), if_neg (by rw [z_le]; omega)]
      show _ = some (Sum.inl ((31 : Int64) * nz_hs ev h i + (ev i).toInt64, nI (i + 1)))
      rw [← nI_s i]
      by_cases hf : fl = 0
      · rw [if_pos hf, g1 hf]
      · rw [if_neg hf, d1, Option.bind_some, d2, Option.bind_some, (g2 hf).1, Option.bind_some]
    · unfold b_X9_digestSpans_82
      dsimp only
      rw [nz_2T hx (by omega), if_pos (by rw [z_le]; exact Int.le_refl _)]
  · refine z_for (f := b_X10_digest_169 fl y) (fun t => (nz_hs ev h (2 * t), nI t)) T (fun t ht => ?_) ?_
    · have htI : (nI t).toInt = (t : Int) := z_nI (by omega)
      obtain ⟨g1, g2⟩ := hev (2 * t) (by omega)
      obtain ⟨g3, g4⟩ := hev (2 * t + 1) (by omega)
      rw [show 2 * t / 2 = t by omega, show 2 * t % 2 = 0 by omega] at g2
      rw [show (2 * t + 1) / 2 = t by omega, show (2 * t + 1) % 2 = 1 by omega] at g4
      unfold b_X10_digest_169 j_X10_digest_169_199
      dsimp only
      rw [hy, if_neg (by rw [z_le]; omega)]
      show _ = some (Sum.inl ((31 : Int64) * ((31 : Int64) * nz_hs ev h (2 * t) + (ev (2 * t)).toInt64) + (ev (2 * t + 1)).toInt64, nI (t + 1)))
      rw [← nI_s t]
      by_cases hf : fl = 0
      · rw [if_pos hf, if_pos hf, g1 hf, g3 hf]
      · rw [if_neg hf, show (0 : Int32) = nI 0 from rfl, (g2 hf).2, Option.bind_some, show nI 0 = (0 : Int32) from rfl, if_neg hf, show (1 : Int32) = nI 1 from rfl, (g4 hf).2, Option.bind_some]
    · unfold b_X10_digest_169
      dsimp only
      rw [hy, if_pos (by rw [z_le]; exact Int.le_refl _)]
theorem lq_digest_ok : lq_digest pz_I := by
  intro x y hI
  have hI' := hI
  obtain ⟨hsc, har, hsh, hnu, hbk, hrw, htx⟩ := hI
  have hnu' := hnu
  obtain ⟨n1, n2, n3, n4, n5, n6, n7, n8, n9, n10, n11, n12⟩ := hnu
  have cT := z_cl n5
  have cB := z_cl n7
  have hT : y.1 0 1 = nI (y.1 0 1).toNatClampNeg := z_of n5
  have hB : y.1 0 2 = nI (y.1 0 2).toNatClampNeg := z_of n7
  have s3 : x.1 0 10 = y.1 0 1 := hsc.2.2.1
  have s5 : x.1 3 3 = y.1 0 2 := hsc.2.2.2.2.1
  obtain ⟨h1, a1, a2⟩ := nz_dg1 hI'
  obtain ⟨h2, b1, b2⟩ := nz_dg2 hI' h1
  obtain ⟨fl, x', y', q1, q2, q3, q4, q5, q6⟩ := nz_all2 hI'
  have hE : fl ≠ 0 → nz_Sol x' y (pz_K y) ∧ nz_Rm y' y (pz_K y) := by
    intro q
    rcases q6 with ⟨-, k, k'⟩ | ⟨rfl, -⟩
    · exact ⟨k, k'⟩
    · exact absurd rfl q
  have hfl : fl = 0 ∨ fl = 1 := by
    rcases q6 with ⟨q, -⟩ | ⟨q, -⟩
    · exact Or.inr q
    · exact Or.inl q
  have e01 : ∀ e : Nat, e < 2 → 0 ≤ (nI e).toInt ∧ (nI e).toInt ≤ 1 := fun e he => by rw [z_nI (by omega)]; omega
  -- what begins the spans
  obtain ⟨h3, c1, c2⟩ := nz_dg28 (x := x') (y := y') (fl := fl) (T := (y.1 0 1).toNatClampNeg) (by omega) (by rw [q3.1 0 (by omega) (by omega), s3]; exact hT) (by rw [q4.1 0 (by omega)]; exact hT) (by
    intro hf t e ht he
    obtain ⟨k, k'⟩ := hE hf
    obtain ⟨w, w1, w2, -⟩ := nz_end hnu' hbk k k' (p := nI t) (e := nI e) (by rw [z_nI (by omega)]; omega) (e01 e he)
    exact ⟨w, w1, w2⟩) ((31 : Int64) * h2 + fl.toInt64)
  obtain ⟨h4, d1, d2⟩ := nz_dg82 (x := x') (y := y') (fl := fl) (T := (y.1 0 2).toNatClampNeg) (by omega) (by rw [q3.1 3 (by omega) (by omega), s5]; exact hB) (by rw [q4.1 0 (by omega)]; exact hB) (by
    intro hf t e ht he
    obtain ⟨k, k'⟩ := hE hf
    exact nz_endC hnu' hbk k k' (p := nI t) (e := nI e) (by rw [z_nI (by omega)]; omega) (e01 e he)) h3
  obtain ⟨r, x2, y2, e1, e2, e3⟩ := nz_orders2 q5
  obtain ⟨w, x3, y3, f1, f2, f3, -⟩ := pz_fault e3
  have hC : f_X9_digest x = some ((31 : Int64) * ((31 : Int64) * h4 + r) + w.toInt64, x3) := by
    have hone : f_X9_oneIf fl = some fl := by
      unfold f_X9_oneIf
      rcases hfl with q | q
      · rw [if_pos q, q]
      · rw [if_neg (by rw [q]; decide), q]
    unfold f_X9_digest
    rw [a1, Option.bind_some, b1, Option.bind_some]
    unfold f_X9_digestSpans
    rw [pz_KC hI', Option.bind_some, q1, Option.bind_some]
    dsimp only
    rw [hone, Option.bind_some, c1, Option.bind_some, d1, Option.bind_some, Option.bind_some]
    dsimp only
    rw [e1, Option.bind_some]
    dsimp only
    rw [f1, Option.bind_some]
  have hR : f_X10_digest y = some ((31 : Int64) * ((31 : Int64) * h4 + r) + w.toInt64, y3) := by
    unfold f_X10_digest
    rw [a2, Option.bind_some, b2, Option.bind_some, q2, Option.bind_some]
    dsimp only
    rcases hfl with q | q
    · subst q
      rw [if_pos rfl, c2, Option.bind_some, d2, Option.bind_some, e2, Option.bind_some]
      dsimp only
      rw [f2, Option.bind_some]
    · subst q
      rw [if_neg pz_one, c2, Option.bind_some, d2, Option.bind_some, e2, Option.bind_some]
      dsimp only
      rw [f2, Option.bind_some]
  exact ⟨_, x3, y3, hC, hR, f3⟩

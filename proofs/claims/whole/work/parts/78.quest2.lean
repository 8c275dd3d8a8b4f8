/-! question: both sides -/
theorem nz_sureC {s : ax_S} {a b : Nat} (ha : a < 12) (hb : b < 12) : ∃ w, f_X5_isSure (nI a) (nI b) s = some w ∧ ((w = 0 ∧ z_pb (s.1 31 b) a = false ∧ z_pb (s.1 31 a) b = false) ∨ (w = 1 ∧ (z_pb (s.1 31 b) a = true ∨ z_pb (s.1 31 a) b = true))) := by
  have haI : (nI a).toInt = (a : Int) := z_nI (by omega)
  have hac := nI_cl (k := a) (by omega)
  have hbI : (nI b).toInt = (b : Int) := z_nI (by omega)
  have hbc := nI_cl (k := b) (by omega)
  unfold f_X5_isSure
  rw [z_ai (Sd := cx_C) (i := nI b) (n := 12) rfl (by omega) (by omega), Option.bind_some, z_ai (Sd := cx_C) (i := nI a) (n := 12) rfl (by omega) (by omega), Option.bind_some, hac, hbc]
  by_cases h1 : ax_iushr (s.1 31 b) (nI a) &&& 1 = 0
  · rw [if_pos h1]
    rw [z_pC _ (by omega)] at h1
    by_cases h2 : ax_iushr (s.1 31 a) (nI b) &&& 1 = 0
    · rw [if_pos h2]
      rw [z_pC _ (by omega)] at h2
      exact ⟨0, rfl, Or.inl ⟨rfl, h1, h2⟩⟩
    · rw [if_neg h2]
      rw [z_pC _ (by omega)] at h2
      refine ⟨1, rfl, Or.inr ⟨rfl, Or.inr ?_⟩⟩
      cases h : z_pb (s.1 31 a) b with
      | true => rfl
      | false => exact absurd h h2
  · rw [if_neg h1]
    rw [z_pC _ (by omega)] at h1
    refine ⟨1, rfl, Or.inr ⟨rfl, Or.inl ?_⟩⟩
    cases h : z_pb (s.1 31 b) a with
    | true => rfl
    | false => exact absurd h h1
/-- one pair, weighed on both sides -/
theorem nz_q36 {s t : ax_S} {n : Nat} {b : Nat → Int32} (hn : n ≤ 12) (h54 : s.1 5 4 = nI n) (h01 : t.1 0 1 = nI n) (hb : ∀ a, a < n → s.1 31 a = b a ∧ t.1 19 a = b a) (h34 : ∀ l g, l < g → g < n → s.1 34 (12 * l + g) = nI (z_ct (z_wa b l g) n 0)) {a : Nat} (ha : a < n) {best : Int32} {m : Nat} (hm : m ≤ 479001600) :
    ∃ e e', ax_lp (b_X5_bestPair_36 (nI (z_ct b n 0)) (nI a) s) (best, nI m, nI a + 1) = some e ∧ ax_lp (b_X10_question_32 (nI a)) (best, lN m, nI a + 1, t) = some e' ∧ (e.1 = e'.1 ∧ e'.2.2.1 = t.1 ∧ ∃ m', m' ≤ 479001600 ∧ e.2 = nI m' ∧ e'.2.1 = lN m') := by
  have hnI : (nI n).toInt = (n : Int) := z_nI (by omega)
  have haI : (nI a).toInt = (a : Int) := z_nI (by omega)
  have hac := nI_cl (k := a) (by omega)
  refine z_two (f := b_X5_bestPair_36 (nI (z_ct b n 0)) (nI a) s) (g := b_X10_question_32 (nI a)) (fun p q => p.1 = q.1 ∧ q.2.2.2.1 = t.1 ∧ (∃ m', m' ≤ 479001600 ∧ p.2.1 = nI m' ∧ q.2.1 = lN m') ∧ ∃ k, a < k ∧ k ≤ n ∧ p.2.2 = nI k ∧ q.2.2.1 = nI k)
    (fun e e' => e.1 = e'.1 ∧ e'.2.2.1 = t.1 ∧ ∃ m', m' ≤ 479001600 ∧ e.2 = nI m' ∧ e'.2.1 = lN m') (fun p => n - p.2.2.toNatClampNeg) ?_
    (a := (best, nI m, nI a + 1)) (b := (best, lN m, nI a + 1, t)) ⟨rfl, rfl, ⟨m, hm, rfl, rfl⟩, a + 1, by omega, by omega, nI_s a, nI_s a⟩
  rintro ⟨be, _, _⟩ ⟨_, _, _, u⟩ ⟨g1, g2, ⟨m', g3, g4, g5⟩, k, hk0, hk, g6, g7⟩
  dsimp only at g1 g2 g4 g5 g6 g7
  subst g1
  subst g4
  subst g5
  subst g6
  subst g7
  have hkI : (nI k).toInt = (k : Int) := z_nI (by omega)
  have hkc := nI_cl (k := k) (by omega)
  by_cases hl : nI n ≤ nI k
  · left
    refine ⟨(be, nI m'), (be, lN m', u), z_lpr ?_, z_lpr ?_, rfl, g2, m', g3, rfl, rfl⟩
    · unfold b_X5_bestPair_36
      dsimp only
      rw [h54, if_pos hl]
    · unfold b_X10_question_32
      dsimp only
      rw [show u.1 0 1 = nI n by rw [g2, h01], if_pos hl]
  right
  have hl' := hl
  rw [z_le, hkI, hnI] at hl'
  have hkn : k < n := by omega
  have ms : n - (nI k + 1).toNatClampNeg < n - (nI k).toNatClampNeg := by
    rw [nI_s, nI_cl (by omega), hkc]; omega
  obtain ⟨i1, i2⟩ := z_i12 (l := a) (g := k) (by omega) (by omega)
  obtain ⟨w, w1, w2⟩ := nz_sureC (s := s) (a := a) (b := k) (by omega) (by omega)
  rw [(hb k hkn).1, (hb a ha).1] at w2
  -- the class's step
  have hX := z_ct_le (z_wa b a k) hn 0
  have hY := z_ct_le (z_wa b k a) hn 0
  have hsum : z_ct (z_wa b a k) n 0 + z_ct (z_wa b k a) n 0 = z_ct b n 0 := z_wa_sum hn ha hkn (by omega) _ 0 rfl (by simp) (by simp)
  have hsub : nI (z_ct b n 0) - nI (z_ct (z_wa b a k) n 0) = nI (z_ct (z_wa b k a) n 0) := by
    rw [← hsum, ← nI_add]
    grind
  have hcl : b_X5_bestPair_36 (nI (z_ct b n 0)) (nI a) s (be, nI m', nI k) = (if w = 0 then (if be = (-1 : Int32) then some (.inl (((100 : Int32) * nI a) + nI k, ax_max (nI (z_ct (z_wa b a k) n 0)) (nI (z_ct (z_wa b k a) n 0)), nI k + 1)) else (if nI m' ≤ ax_max (nI (z_ct (z_wa b a k) n 0)) (nI (z_ct (z_wa b k a) n 0)) then some (.inl (be, nI m', nI k + 1)) else some (.inl (((100 : Int32) * nI a) + nI k, ax_max (nI (z_ct (z_wa b a k) n 0)) (nI (z_ct (z_wa b k a) n 0)), nI k + 1)))) else some (.inl (be, nI m', nI k + 1))) := by
    unfold b_X5_bestPair_36
    dsimp only
    rw [h54, if_neg hl, z_ai (Sd := cx_C) (n := 144) rfl (by omega) (by omega), Option.bind_some, w1, Option.bind_some, i2, h34 a k hk0 hkn, hsub]
  have rk : ax_ai cx_R u 19 (nI k) = some (b k) := by rw [z_ai (n := 12) rfl (by omega) (by omega), hkc, g2, (hb k hkn).2]
  have ra : ax_ai cx_R u 19 (nI a) = some (b a) := by rw [z_ai (n := 12) rfl (by omega) (by omega), hac, g2, (hb a ha).2]
  have u01 : u.1 0 1 = nI n := by rw [g2, h01]
  rcases w2 with ⟨rfl, c1, c2⟩ | ⟨rfl, c1⟩
  · -- not sure
    obtain ⟨u1, o1, o2⟩ := nz_with (y := u) (n := n) (b := b) hn u01 (fun a ha => by rw [g2]; exact (hb a ha).2) ha hkn
    obtain ⟨u2, p1, p2⟩ := nz_with (y := u1) (n := n) (b := b) hn (by rw [o2, u01]) (fun a ha => by rw [o2, g2]; exact (hb a ha).2) hkn ha
    have hu2 : u2.1 = t.1 := by rw [p2, o2, g2]
    change f_X10_ordersWith (nI a) (nI k) u = some (lN (z_ct (z_wa b a k) n 0), u1) at o1
    change f_X10_ordersWith (nI k) (nI a) u1 = some (lN (z_ct (z_wa b k a) n 0), u2) at p1
    rw [if_pos rfl] at hcl
    generalize z_ct (z_wa b a k) n 0 = X at hcl hX o1
    generalize z_ct (z_wa b k a) n 0 = Y at hcl hY p1
    obtain ⟨Z, hZ, hZC, hZR⟩ : ∃ Z, Z ≤ 479001600 ∧ ax_max (nI X) (nI Y) = nI Z ∧ b_X10_question_32 (nI a) (be, lN m', nI k, u) = j_X10_question_32_106 (nI a) be (lN m') (nI k) (lN Z) u2 := by
      have hr : b_X10_question_32 (nI a) (be, lN m', nI k, u) = if lg_cmp (lN X) (lN Y) ≤ 0 then j_X10_question_32_106 (nI a) be (lN m') (nI k) (lN Y) u2 else j_X10_question_32_106 (nI a) be (lN m') (nI k) (lN X) u2 := by
        unfold b_X10_question_32
        dsimp only
        rw [u01, if_neg hl, rk, Option.bind_some, if_pos ((z_pR0 _ (by omega)).mpr c1), ra, Option.bind_some, if_pos ((z_pR0 _ (by omega)).mpr c2), o1, Option.bind_some]
        dsimp only
        rw [p1, Option.bind_some]
      have e0 : (0 : Int32).toInt = 0 := by decide
      have hlt := z_cmpL (a := lN X) (b := lN Y)
      have heq := z_cmp0 (a := lN X) (b := lN Y)
      rw [lN_toInt (by omega), lN_toInt (by omega)] at hlt
      rw [lN_eq (by omega) (by omega)] at heq
      rw [z_lt, e0] at hlt
      rw [z_eq, e0] at heq
      by_cases q : X < Y
      · refine ⟨Y, hY, ?_, ?_⟩
        · unfold ax_max
          rw [if_pos (by rw [nI_ltI (by omega) (by omega)]; exact q)]
        · rw [hr, if_pos (by rw [z_le, e0]; omega)]
      · refine ⟨X, hX, ?_, ?_⟩
        · unfold ax_max
          rw [if_neg (by rw [nI_ltI (by omega) (by omega)]; exact q)]
        · by_cases q2 : X = Y
          · rw [hr, if_pos (by rw [z_le, e0]; omega), q2]
          · rw [hr, if_neg (by rw [z_le, e0]; omega)]
    rw [hZC] at hcl
    unfold j_X10_question_32_106 at hZR
    by_cases c3 : be = (-1 : Int32)
    · rw [if_pos c3] at hcl hZR
      exact ⟨_, _, z_lpl hcl, z_lpl hZR, ⟨rfl, hu2, ⟨Z, hZ, rfl, rfl⟩, k + 1, by omega, by omega, nI_s k, nI_s k⟩, ms⟩
    rw [if_neg c3] at hcl hZR
    have e0 : (0 : Int32).toInt = 0 := by decide
    have hlt := z_cmpL (a := lN Z) (b := lN m')
    rw [lN_toInt (by omega), lN_toInt (by omega), z_lt, e0] at hlt
    by_cases c4 : m' ≤ Z
    · rw [if_pos (by rw [nI_leI (by omega) (by omega)]; exact c4)] at hcl
      rw [if_pos (by rw [z_le, e0]; omega)] at hZR
      exact ⟨_, _, z_lpl hcl, z_lpl hZR, ⟨rfl, hu2, ⟨m', g3, rfl, rfl⟩, k + 1, by omega, by omega, nI_s k, nI_s k⟩, ms⟩
    · rw [if_neg (by rw [nI_leI (by omega) (by omega)]; exact c4)] at hcl
      rw [if_neg (by rw [z_le, e0]; omega)] at hZR
      exact ⟨_, _, z_lpl hcl, z_lpl hZR, ⟨rfl, hu2, ⟨Z, hZ, rfl, rfl⟩, k + 1, by omega, by omega, nI_s k, nI_s k⟩, ms⟩
  · -- sure
    rw [if_neg pz_one] at hcl
    refine ⟨_, (be, lN m', nI k + 1, u), z_lpl hcl, z_lpl ?_, ⟨rfl, g2, ⟨m', g3, rfl, rfl⟩, k + 1, by omega, by omega, nI_s k, nI_s k⟩, ms⟩
    unfold b_X10_question_32
    dsimp only
    rw [u01, if_neg hl, rk, Option.bind_some]
    by_cases d1 : (b k >>> (nI a &&& 31)) &&& 1 = 0
    · rw [if_pos d1, ra, Option.bind_some]
      rw [z_pR0 _ (by omega)] at d1
      rw [if_neg]
      rw [z_pR0 _ (by omega)]
      rcases c1 with c1 | c1
      · rw [d1] at c1; exact absurd c1 (by decide)
      · rw [c1]; decide
    · rw [if_neg d1]
theorem lq_question_ok : lq_question pz_I := by
  intro x y hI
  obtain ⟨fl, x', y', q1, q2, q3, q4⟩ := nz_lines hI
  unfold f_X9_question f_X10_question
  rw [q1, q2, Option.bind_some, Option.bind_some]
  dsimp only
  rcases q4 with ⟨rfl, h54, n, b, hn, h01, hb, -, -⟩ | rfl
  case inr =>
    rw [if_pos rfl, if_pos rfl]
    exact ⟨_, x', y', rfl, rfl, q3⟩
  rw [if_neg pz_one, if_neg pz_one]
  have h54' : x'.1 5 4 = nI n := by rw [h54, h01]
  have hnI : (nI n).toInt = (n : Int) := z_nI (by omega)
  obtain ⟨x1, a1, a2, a3⟩ := nz_waysFrom (s := x') (st := 0) hn h54' nz_2pos
  rw [z_ct_cg (b' := b) (fun a ha => (hb a ha).1)] at a1
  obtain ⟨x2, b1, b2, b3⟩ := nz_waysOn (s := x1) hn (by rw [a2.1 5 (by omega), h54'])
  obtain ⟨x3, c1, c2, c3⟩ := nz_countPairs (s := x2) hn (by rw [b2.1 5 (by omega), a2.1 5 (by omega), h54']) (fun S hS => by rw [b3 S hS, b2.1 31 (by omega)])
  have hfr : nz_fL x' x3 := nz_fL_tr (nz_fL_only (p := 32) (Or.inr (Or.inr (by omega))) a2) (nz_fL_tr (nz_fL_only (p := 33) (Or.inr (Or.inr (by omega))) b2) (nz_fL_only (p := 34) (Or.inr (Or.inr (by omega))) c2))
  have e31 : x3.1 31 = x'.1 31 := by rw [c2.1 31 (by omega), b2.1 31 (by omega), a2.1 31 (by omega)]
  have e54 : x3.1 5 4 = nI n := by rw [c2.1 5 (by omega), b2.1 5 (by omega), a2.1 5 (by omega), h54']
  have h34 : ∀ l g, l < g → g < n → x3.1 34 (12 * l + g) = nI (z_ct (z_wa b l g) n 0) := by
    intro l g h1 h2
    rw [c3 l g h1 h2, b2.1 32 (by omega), b2.1 31 (by omega), a2.1 31 (by omega), z_pairs hn (by omega) h2 a3]
    congr 1
    apply z_ct_cg
    intro a ha
    unfold z_wa
    rw [z_upd, z_upd, (hb g h2).1, (hb a ha).1]
  obtain ⟨e, e', k1, k2, k3, k4⟩ := z_two (f := b_X5_bestPair_21 (nI (z_ct b n 0)) x3) (g := b_X10_question_17) (fun p q => p.1 = q.1 ∧ q.2.2.2.1 = y'.1 ∧ (∃ m', m' ≤ 479001600 ∧ p.2.1 = nI m' ∧ q.2.1 = lN m') ∧ ∃ k, k ≤ n ∧ p.2.2 = nI k ∧ q.2.2.1 = nI k)
    (fun e e' => e = e'.1 ∧ e'.2.1 = y'.1) (fun p => n - p.2.2.toNatClampNeg) (by
    rintro ⟨be, _, _⟩ ⟨_, _, _, u⟩ ⟨g1, g2, ⟨m', g3, g4, g5⟩, k, hk, g6, g7⟩
    dsimp only at g1 g2 g4 g5 g6 g7
    subst g1
    subst g4
    subst g5
    subst g6
    subst g7
    have hkI : (nI k).toInt = (k : Int) := z_nI (by omega)
    have hkc := nI_cl (k := k) (by omega)
    have u01 : u.1 0 1 = nI n := by rw [g2, h01]
    by_cases hl : nI n ≤ nI k
    · left
      refine ⟨be, (be, u), z_lpr ?_, z_lpr ?_, rfl, g2⟩
      · unfold b_X5_bestPair_21
        dsimp only
        rw [e54, if_pos hl]
      · unfold b_X10_question_17
        dsimp only
        rw [u01, if_pos hl]
    right
    have hl' := hl
    rw [z_le, hkI, hnI] at hl'
    have ms : n - (nI k + 1).toNatClampNeg < n - (nI k).toNatClampNeg := by
      rw [nI_s, nI_cl (by omega), hkc]; omega
    obtain ⟨f, f', m1, m2, m3, m4, m5, m6, m7, m8⟩ := nz_q36 (s := x3) (t := u) (b := b) hn e54 u01 (fun a ha => by rw [e31, g2]; exact hb a ha) h34 (a := k) (by omega) (best := be) g3
    refine ⟨(f.1, f.2, nI k + 1), (f'.1, f'.2.1, nI k + 1, f'.2.2), z_lpl ?_, z_lpl ?_, ⟨m3, by dsimp only; rw [m4, g2], ⟨m5, m6, m7, m8⟩, k + 1, by omega, nI_s k, nI_s k⟩, ms⟩
    · unfold b_X5_bestPair_21
      dsimp only
      rw [e54, if_neg hl, m1, Option.bind_some]
    · unfold b_X10_question_17
      dsimp only
      rw [u01, if_neg hl, m2, Option.bind_some])
    (a := ((-1 : Int32), (0 : Int32), (0 : Int32))) (b := ((-1 : Int32), (0 : Int64), (0 : Int32), y')) ⟨rfl, rfl, ⟨0, by omega, rfl, rfl⟩, 0, by omega, rfl, rfl⟩
  refine ⟨e, x3, e'.2, ?_, ?_, pz_fr q3 (nz_fL_eC hfr) (nz_eR1 (fun k _ => by rw [k4]))⟩
  · unfold f_X5_bestPair
    rw [show (0 : Int32) = nI 0 from rfl, a1, Option.bind_some]
    dsimp only
    rw [b1, Option.bind_some, c1, Option.bind_some]
    rw [show nI 0 = (0 : Int32) from rfl, k1, Option.bind_some, Option.bind_some]
  · rw [k2, Option.bind_some, k3]

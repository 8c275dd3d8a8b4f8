/-! the net: loading -/
def nz_fr (x t : ax_S) : Prop := (∀ k, k ≠ 1 → k < 9 ∨ 18 < k → t.1 k = x.1 k) ∧ t.2 = x.2
theorem nz_fr_rf (x : ax_S) : nz_fr x x := ⟨fun _ _ _ => rfl, rfl⟩
theorem nz_fr_tr {a b c : ax_S} (h : nz_fr a b) (h' : nz_fr b c) : nz_fr a c := ⟨fun k h1 h2 => (h'.1 k h1 h2).trans (h.1 k h1 h2), h'.2.trans h.2⟩
theorem nz_fr_only {p : Nat} (h1 : 9 ≤ p) (h2 : p ≤ 18) {a b : ax_S} (h : z_only p a b) : nz_fr a b := ⟨fun k _ hk => h.1 k (by omega), h.2⟩
theorem nz_fr_eC {x t : ax_S} (h : nz_fr x t) : pz_eC x t := ⟨h.1 0 (by omega) (by omega), h.1 2 (by omega) (by omega), h.1 3 (by omega) (by omega), by rw [h.1 7 (by omega) (by omega)], fun k _ _ => h.1 k (by omega) (by omega), fun k _ _ => h.1 k (by omega) (by omega)⟩
theorem nz_frI {x y t : ax_S} (hI : pz_I x y) (h : nz_fr x t) : pz_I t y := pz_fr hI (nz_fr_eC h) (pz_eR_rf y)
theorem nz_load {x y : ax_S} (hI : pz_I x y) (B : Int64) : ∃ t, f_X6_load B x = some t ∧ nz_Ld t y B ∧ nz_fr x t := by
  have hI' := hI
  obtain ⟨hsc, har, hsh, hnu, hbk, hrw, htx⟩ := hI
  have hnu' := hnu
  obtain ⟨n1, n2, n3, n4, n5, n6, n7, n8, n9, n10, n11, n12⟩ := hnu
  obtain ⟨s1, s2, s3, s4, s5, s6, s7⟩ := hsc
  have har' := har
  obtain ⟨a1, a2, a3, -⟩ := har
  have cb := z_cl n7
  have cr := z_cl n9
  obtain ⟨t1, f1, o1, v1⟩ := nz_fill (p := 13) (n := 18) rfl (by omega) (-200000 : Int32) x
  obtain ⟨t2, f2, o2, v2⟩ := nz_fill (p := 14) (n := 18) rfl (by omega) (200000 : Int32) t1
  have fr2 : nz_fr x t2 := nz_fr_tr (nz_fr_only (by omega) (by omega) o1) (nz_fr_only (by omega) (by omega) o2)
  have key1 := z_inv (f := b_X6_load_20 B)
    (fun a => ∃ k, k ≤ (y.1 0 2).toNatClampNeg ∧ a.1 = nI k ∧ nz_fr x a.2 ∧ (∀ m, m < 18 → nz_V 13 a.2 m = (if 12 ≤ m ∧ m < 12 + k then -(y.1 2 (m - 12)).toInt else -200000) ∧ nz_V 14 a.2 m = (if 12 ≤ m ∧ m < 12 + k then -(y.1 1 (m - 12)).toInt else 200000)))
    (fun t => nz_fr x t ∧ ∀ m, m < 18 → nz_V 13 t m = nz_lo y m ∧ nz_V 14 t m = nz_hi y m)
    (fun a => (y.1 0 2).toNatClampNeg - a.1.toNatClampNeg) (by
    rintro ⟨i, t⟩ ⟨k, hk, h1, h2, h3⟩
    dsimp only at h1 h2 h3
    subst h1
    have hkI : (nI k).toInt = (k : Int) := z_nI (by omega)
    have hkc := nI_cl (k := k) (by omega)
    unfold b_X6_load_20
    dsimp only
    have e33 : t.1 3 3 = y.1 0 2 := by rw [h2.1 3 (by omega) (by omega), s5]
    rw [e33]
    by_cases hl : y.1 0 2 ≤ nI k
    · left
      rw [if_pos hl]
      rw [z_le, hkI] at hl
      have : k = (y.1 0 2).toNatClampNeg := by omega
      subst this
      exact ⟨t, rfl, h2, h3⟩
    · right
      rw [if_neg hl]
      rw [z_le, hkI] at hl
      obtain ⟨b1, b2, b3, -⟩ := hbk k (by omega)
      have h12 : ((12 : Int32) + nI k).toInt = 12 + (k : Int) := by
        rw [z_add (by simp only [Int32.reduceToInt]; omega) (by simp only [Int32.reduceToInt]; omega), hkI]
        simp only [Int32.reduceToInt]
      have h12c : ((12 : Int32) + nI k).toNatClampNeg = 12 + k := by
        have := z_cl (a := (12 : Int32) + nI k) (by omega)
        omega
      rw [z_ai (Sd := cx_C) (x := t) (a := 27) (n := 6) rfl (by omega) (by omega), Option.bind_some, hkc]
      rw [z_si (Sd := cx_C) (x := t) (a := 13) (n := 18) rfl (by omega) (by omega), Option.bind_some, h12c]
      rw [z_ai (Sd := cx_C) (a := 26) (n := 6) rfl (by omega) (by omega), Option.bind_some, hkc]
      rw [z_si (Sd := cx_C) (a := 14) (n := 18) rfl (by omega) (by omega), Option.bind_some, h12c]
      have e27 : t.1 27 k = y.1 2 k := by rw [h2.1 27 (by omega) (by omega), a2]
      have e26 : (ax_ui t 13 (12 + k) (-t.1 27 k)).1 26 k = y.1 1 k := by rw [z_ui, if_neg (by omega), h2.1 26 (by omega) (by omega), a1]
      rw [e26, e27]
      have ng1 : (-(y.1 2 k)).toInt = -(y.1 2 k).toInt := z_neg (by omega)
      have ng2 : (-(y.1 1 k)).toInt = -(y.1 1 k).toInt := z_neg (by omega)
      refine ⟨_, rfl, ⟨k + 1, by omega, nI_s k, ?_, ?_⟩, ?_⟩
      · exact nz_fr_tr h2 (nz_fr_tr (nz_fr_only (p := 13) (by omega) (by omega) (z_only_ui _ _ _ _)) (nz_fr_only (p := 14) (by omega) (by omega) (z_only_ui _ _ _ _)))
      · intro m hm
        obtain ⟨q1, q2⟩ := h3 m hm
        dsimp only
        rw [nz_V_ui]
        have e13 : nz_V 13 (ax_ui (ax_ui t 13 (12 + k) (-(y.1 2 k))) 14 (12 + k) (-(y.1 1 k))) m = nz_V 13 (ax_ui t 13 (12 + k) (-(y.1 2 k))) m := by
          show ((ax_ui (ax_ui t 13 (12 + k) (-(y.1 2 k))) 14 (12 + k) (-(y.1 1 k))).1 13 m).toInt = _
          rw [z_ui, if_neg (by omega)]; rfl
        have e14 : nz_V 14 (ax_ui t 13 (12 + k) (-(y.1 2 k))) m = nz_V 14 t m := by
          show ((ax_ui t 13 (12 + k) (-(y.1 2 k))).1 14 m).toInt = _
          rw [z_ui, if_neg (by omega)]; rfl
        rw [e13, nz_V_ui]
        dsimp only
        rw [e14]
        by_cases hm2 : m = 12 + k
        · subst hm2
          rw [if_pos rfl, if_pos rfl, if_pos ⟨by omega, by omega⟩, if_pos ⟨by omega, by omega⟩, show 12 + k - 12 = k by omega]
          exact ⟨ng1, ng2⟩
        · rw [if_neg hm2, if_neg hm2, q1, q2]
          by_cases hm3 : 12 ≤ m ∧ m < 12 + k
          · rw [if_pos hm3, if_pos hm3, if_pos ⟨hm3.1, by omega⟩, if_pos ⟨hm3.1, by omega⟩]; exact ⟨rfl, rfl⟩
          · rw [if_neg hm3, if_neg hm3, if_neg (by omega), if_neg (by omega)]; exact ⟨rfl, rfl⟩
      · dsimp only
        rw [nI_s k, nI_cl (by omega)]
        omega)
    (a := ((0 : Int32), t2)) ⟨0, Nat.zero_le _, rfl, fr2, by
      intro m hm
      rw [if_neg (by omega), if_neg (by omega)]
      constructor
      · show (t2.1 13 m).toInt = -200000
        rw [o2.1 13 (by omega), v1 m hm]; decide
      · show (t2.1 14 m).toInt = 200000
        rw [v2 m hm]; decide⟩
  obtain ⟨t3, g1, g2, g3⟩ := key1
  have key2 := z_inv (f := b_X6_load_82 B)
    (fun a => ∃ k n, k ≤ (y.1 0 6).toNatClampNeg ∧ n ≤ k ∧ a.1 = nI k ∧ a.2.1 1 6 = nI n ∧ nz_fr x a.2 ∧ (∀ m, m < 18 → nz_V 13 a.2 m = nz_lo y m ∧ nz_V 14 a.2 m = nz_hi y m) ∧
      (∀ j, j < n → 0 ≤ (a.2.1 9 j).toInt ∧ 0 ≤ (a.2.1 10 j).toInt) ∧
      (∀ P : Nat → Nat → Int → Int → Prop, (∀ j, j < n → P (a.2.1 9 j).toNatClampNeg (a.2.1 10 j).toNatClampNeg (a.2.1 11 j).toInt (a.2.1 12 j).toInt) ↔ ∀ r, r < k → pz_tb B r = true → P (nz_ln y r) (y.1 5 r).toNatClampNeg (y.1 7 r).toInt (y.1 8 r).toInt))
    (fun t => nz_Ld t y B ∧ nz_fr x t)
    (fun a => (y.1 0 6).toNatClampNeg - a.1.toNatClampNeg) (by
    rintro ⟨i, t⟩ ⟨k, n, hk, hnk, h1, h2, h3, h4, h5, h6⟩
    dsimp only at h1 h2 h3 h4 h5 h6
    subst h1
    have hkI : (nI k).toInt = (k : Int) := z_nI (by omega)
    have hkc := nI_cl (k := k) (by omega)
    have hnI : (nI n).toInt = (n : Int) := z_nI (by omega)
    have hnc := nI_cl (k := n) (by omega)
    unfold b_X6_load_82
    dsimp only
    have e27 : t.1 2 7 = y.1 0 6 := by rw [h3.1 2 (by omega) (by omega), s6]
    rw [e27]
    by_cases hl : y.1 0 6 ≤ nI k
    · left
      rw [if_pos hl]
      rw [z_le, hkI] at hl
      have : k = (y.1 0 6).toNatClampNeg := by omega
      subst this
      have hn : nz_n t = n := by unfold nz_n; rw [h2, hnc]
      refine ⟨t, rfl, ⟨?_, ?_, h4⟩, h3⟩
      · refine ⟨by rw [h2]; omega, by rw [h2]; omega, ?_⟩
        rw [hn]
        have hP := (h6 (fun a b X Y => a < 18 ∧ b < 18 ∧ (-200000 ≤ X ∧ X ≤ 200000) ∧ (-200000 ≤ Y ∧ Y ≤ 200000))).mpr (by
          intro r hr _
          have := nz_lnR hnu' hrw hr
          omega)
        intro j hj
        obtain ⟨q1, q2, q3, q4⟩ := hP j hj
        obtain ⟨p1, p2⟩ := h5 j hj
        have := z_cl p1
        have := z_cl p2
        exact ⟨⟨p1, by omega⟩, ⟨p2, by omega⟩, q3, q4⟩
      · rw [hn]; exact h6
    · right
      rw [if_neg hl]
      rw [z_le, hkI] at hl
      have hk' : k < (y.1 0 6).toNatClampNeg := by omega
      by_cases hb : lg_cmp (ax_lushr B (nI k) &&& 1) 0 = 0
      · rw [if_pos hb]
        rw [z_tC B (by omega)] at hb
        refine ⟨_, rfl, ⟨k + 1, n, by omega, by omega, nI_s k, h2, h3, h4, h5, ?_⟩, ?_⟩
        · intro P
          rw [h6 P]
          constructor
          · intro q r hr ht
            by_cases hrk : r = k
            · subst hrk; rw [hb] at ht; exact absurd ht (by decide)
            · exact q r (by omega) ht
          · intro q r hr ht
            exact q r (by omega) ht
        · dsimp only
          rw [nI_s k, hkc, nI_cl (by omega)]
          omega
      · rw [if_neg hb]
        rw [z_tC B (by omega)] at hb
        obtain ⟨t', c1, c2, c3, c4, c5, c6, c7, c8, c9, c10, c11⟩ := nz_addRow hI' (t := t) (fun k hk => h3.1 k (by omega) (by omega)) hk' hnk h2
        rw [c1, Option.bind_some]
        refine ⟨_, rfl, ⟨k + 1, n + 1, by omega, by omega, nI_s k, c5, ⟨fun k h7 h8 => by rw [c3 k h7 (by omega) (by omega) (by omega) (by omega)]; exact h3.1 k h7 h8, c2.trans h3.2⟩, ?_, ?_, ?_⟩, ?_⟩
        · unfold nz_V
          dsimp only
          rw [c3 13 (by omega) (by omega) (by omega) (by omega) (by omega), c3 14 (by omega) (by omega) (by omega) (by omega) (by omega)]
          exact h4
        · intro j hj
          dsimp only
          by_cases hjn : j = n
          · subst hjn
            refine ⟨c8, ?_⟩
            rw [c9]
            exact (hrw k (by omega)).2.2.1
          · obtain ⟨d1, d2, -⟩ := c6 j hjn
            rw [d1, d2]
            exact h5 j (by omega)
        · intro P
          dsimp only
          have h6P := h6 P
          constructor
          · intro q r hr ht
            by_cases hrk : r = k
            · subst hrk
              have := q n (by omega)
              rw [c7, c9, c10, c11] at this
              exact this
            · refine h6P.mp ?_ r (by omega) ht
              intro j hj
              have := q j (by omega)
              obtain ⟨d1, d2, d3, d4⟩ := c6 j (by omega)
              rw [d1, d2, d3, d4] at this
              exact this
          · intro q j hj
            by_cases hjn : j = n
            · subst hjn
              rw [c7, c9, c10, c11]
              exact q k (by omega) (by cases hh : pz_tb B k with
                | true => rfl
                | false => exact absurd hh hb)
            · obtain ⟨d1, d2, d3, d4⟩ := c6 j hjn
              rw [d1, d2, d3, d4]
              exact h6P.mpr (fun r hr ht => q r (by omega) ht) j (by omega)
        · dsimp only
          rw [nI_s k, hkc, nI_cl (by omega)]
          omega)
    (a := ((0 : Int32), ax_ui t3 1 6 0)) ⟨0, 0, Nat.zero_le _, Nat.le_refl _, rfl, by
        rw [z_ui, if_pos ⟨rfl, rfl⟩]; rfl, ⟨fun k h7 h8 => by
          have := (z_only_ui 1 6 0 t3).1 k h7
          rw [this]
          exact g2.1 k h7 h8, g2.2⟩, by
        unfold nz_V
        dsimp only
        rw [(z_only_ui 1 6 0 t3).1 13 (by omega), (z_only_ui 1 6 0 t3).1 14 (by omega)]
        exact g3, fun j hj => absurd hj (Nat.not_lt_zero j), fun P => ⟨fun _ r hr => absurd hr (Nat.not_lt_zero r), fun _ j hj => absurd hj (Nat.not_lt_zero j)⟩⟩
  obtain ⟨t4, u1, u2, u3⟩ := key2
  refine ⟨t4, ?_, u2, u3⟩
  unfold f_X6_load
  rw [f1, Option.bind_some, f2, Option.bind_some, g1, Option.bind_some, u1]; rfl

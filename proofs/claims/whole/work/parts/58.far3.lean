/-! the reference's net, worked -/
theorem nz_J_congr {E : Nat → Prop} {Ww : (Nat → Int) → Prop} {D0 : Nat → Nat → Int} {M : Nat} {D D' : Nat → Nat → Int} (hE : ∀ k, E k → k < 19) (hE0 : E 0) (hD : ∀ i j, i < 19 → j < 19 → D' i j = D i j) (h : nz_J E Ww D0 M D) : nz_J E Ww D0 M D' := by
  refine ⟨?_, ?_, ?_, ?_, ?_, ?_, ?_, ?_, ?_⟩
  · intro i hi; rw [hD i i hi hi]; exact h.Z i hi
  · intro i j hi hj; rw [hD i j hi hj]; exact h.N i j hi hj
  · intro i j hi hj; rw [hD i j hi hj]; exact h.U i j hi hj
  · intro k hk hEk i j hi hj
    rw [hD i j (hE i hi) (hE j hj), hD i k (hE i hi) (hE k hEk), hD k j (hE k hEk) (hE j hj)]
    exact h.T k hk hEk i j hi hj
  · intro i hi; rw [hD i 0 (hE i hi) (by omega), hD 0 i (by omega) (hE i hi)]; exact h.H i hi
  · intro h1 i j hi hj
    rw [hD i j (hE i hi) (hE j hj)]
    exact h.F h1 i j hi hj
  · intro i j hi hj
    rw [hD i j (hE i hi) (hE j hj)]
    rcases h.W i j hi hj with q | ⟨k, hk, hEk, q⟩
    · exact Or.inl q
    · refine Or.inr ⟨k, by omega, hEk, ?_⟩
      rw [hD i k (hE i hi) (hE k hEk), hD k j (hE k hEk) (hE j hj)]
      exact q
  · intro i j hi hj; rw [hD i j hi hj]; exact h.L i j hi hj
  · intro w hw i j hi hj
    rw [hD i j (hE i hi) (hE j hj)]
    exact h.B w hw i j hi hj
theorem nz_J_low19 {E : Nat → Prop} {Ww : (Nat → Int) → Prop} {D0 : Nat → Nat → Int} {M : Nat} {D : Nat → Nat → Int} (hE : ∀ k, E k → k < 19) (h : nz_J E Ww D0 M D) : ∀ i j, i < 19 → j < 19 → -800000 ≤ D i j := by
  intro i j hi hj
  by_cases hij : i = j
  · have := h.Z i hi
    rw [← hij]; omega
  · by_cases q : ¬ E i ∨ ¬ E j
    · have := h.N i j hi hj hij q
      omega
    · exact nz_J_low hE h i j (Classical.byContradiction fun z => q (Or.inl z)) (Classical.byContradiction fun z => q (Or.inr z))
/-- one row of a round -/
theorem nz_row {D : Nat → Nat → Int} {m i : Nat} (hm : m < 19) (hi : i < 19) (hZ : D m m = 0) (hlo : ∀ i j, i < 19 → j < 19 → -800000 ≤ D i j ∧ D i j ≤ 100000000) {s : ax_S} (hs : ∀ i' j', i' < 19 → j' < 19 → nz_D s i' j' = if i' < i then nz_fw D m i' j' else D i' j') :
    ∃ t, ax_lp (b_X10_works_215 (nI m) (nI i)) ((0 : Int32), s) = some t ∧ z_only 11 s t ∧ ∀ i' j', i' < 19 → j' < 19 → nz_D t i' j' = if i' < i + 1 then nz_fw D m i' j' else D i' j' := by
  have hmI : (nI m).toInt = (m : Int) := z_nI (by omega)
  have hiI : (nI i).toInt = (i : Int) := z_nI (by omega)
  refine z_inv (f := b_X10_works_215 (nI m) (nI i)) (fun a => ∃ j, j ≤ 19 ∧ a.1 = nI j ∧ z_only 11 s a.2 ∧ ∀ i' j', i' < 19 → j' < 19 → nz_D a.2 i' j' = if i' < i ∨ (i' = i ∧ j' < j) then nz_fw D m i' j' else D i' j')
    (fun t => z_only 11 s t ∧ ∀ i' j', i' < 19 → j' < 19 → nz_D t i' j' = if i' < i + 1 then nz_fw D m i' j' else D i' j') (fun a => 19 - a.1.toNatClampNeg) ?_
    (a := ((0 : Int32), s)) ⟨0, Nat.zero_le _, rfl, z_only_rf 11 s, ?_⟩
  · rintro ⟨_, t⟩ ⟨j, hj, h1, h2, h3⟩
    dsimp only at h1 h2 h3
    subst h1
    have hjI : (nI j).toInt = (j : Int) := z_nI (by omega)
    have hjc := nI_cl (k := j) (by omega)
    unfold b_X10_works_215
    dsimp only
    by_cases hl : (19 : Int32) ≤ nI j
    · left
      rw [if_pos hl]
      rw [z_le, hjI] at hl
      simp only [Int32.reduceToInt] at hl
      refine ⟨t, rfl, h2, ?_⟩
      intro i' j' hi' hj'
      rw [h3 i' j' hi' hj']
      by_cases q : i' < i ∨ (i' = i ∧ j' < j)
      · rw [if_pos q, if_pos (by omega)]
      · rw [if_neg q, if_neg (by omega)]
    · rw [if_neg hl]
      rw [z_le, hjI] at hl
      simp only [Int32.reduceToInt] at hl
      have hj19 : j < 19 := by omega
      have him : nz_D t i m = D i m := by
        rw [h3 i m hi hm]
        split
        · exact nz_fw_col hZ i
        · rfl
      have hmj : nz_D t m j = D m j := by
        rw [h3 m j hm hj19]
        split
        · exact nz_fw_row hZ j
        · rfl
      have hij : nz_D t i j = D i j := by
        rw [h3 i j hi hj19, if_neg (by omega)]
      obtain ⟨a1, a2⟩ := z_19 hiI hmI hi hm
      obtain ⟨b1, b2⟩ := z_19 hmI hjI hm hj19
      obtain ⟨c1, c2⟩ := z_19 hiI hjI hi hj19
      have r1 := z_ai (Sd := cx_R) (x := t) (a := 11) (n := 361) (i := (19 : Int32) * nI i + nI m) rfl (by omega) (by omega)
      have r2 := z_ai (Sd := cx_R) (x := t) (a := 11) (n := 361) (i := (19 : Int32) * nI m + nI j) rfl (by omega) (by omega)
      have r3 := z_ai (Sd := cx_R) (x := t) (a := 11) (n := 361) (i := (19 : Int32) * nI i + nI j) rfl (by omega) (by omega)
      rw [a2] at r1
      rw [b2] at r2
      rw [c2] at r3
      have w3 : ∀ u : Int32, ax_si cx_R t 11 ((19 : Int32) * nI i + nI j) u = some (ax_ui t 11 (19 * i + j) u) := by
        intro u
        rw [z_si (Sd := cx_R) (x := t) (a := 11) (n := 361) rfl (by omega) (by omega), c2]
      have v1 : (t.1 11 (19 * i + m)).toInt = D i m := him
      have v2 : (t.1 11 (19 * m + j)).toInt = D m j := hmj
      have v3 : (t.1 11 (19 * i + j)).toInt = D i j := hij
      have o1 := hlo i m hi hm
      have o2 := hlo m j hm hj19
      have o3 := hlo i j hi hj19
      have h8 : (100000000 : Int32).toInt = 100000000 := by decide
      rw [r1, Option.bind_some]
      by_cases hfar : (100000000 : Int32) ≤ t.1 11 (19 * i + m)
      · left
        rw [if_pos hfar]
        rw [z_le, v1, h8] at hfar
        refine ⟨t, rfl, h2, ?_⟩
        intro i' j' hi' hj'
        rw [h3 i' j' hi' hj']
        by_cases hii : i' = i
        · subst hii
          have e : nz_fw D m i' j' = D i' j' := by
            unfold nz_fw
            rw [if_neg (by omega)]
          rw [e]
          split <;> split <;> rfl
        · by_cases q : i' < i ∨ (i' = i ∧ j' < j)
          · rw [if_pos q, if_pos (by omega)]
          · rw [if_neg q, if_neg (by omega)]
      · right
        rw [if_neg hfar, r2, Option.bind_some]
        rw [z_le, v1, h8] at hfar
        have go : ∀ k0 : Int32, k0.toInt = (if D m j < 100000000 then D i m + D m j else 100000000) → ∃ a', j_X10_works_215_286 (nI m) (nI i) (nI j) k0 t = some (.inl a') ∧ (∃ j, j ≤ 19 ∧ a'.1 = nI j ∧ z_only 11 s a'.2 ∧ ∀ i' j', i' < 19 → j' < 19 → nz_D a'.2 i' j' = if i' < i ∨ (i' = i ∧ j' < j) then nz_fw D m i' j' else D i' j') ∧ 19 - a'.1.toNatClampNeg < 19 - (nI j).toNatClampNeg := by
          intro k0 hk0
          unfold j_X10_works_215_286
          rw [r3, Option.bind_some]
          have fin : ∀ u : Int32, u.toInt = nz_fw D m i j → (∃ j_1, j_1 ≤ 19 ∧ nI j + 1 = nI j_1 ∧ z_only 11 s (ax_ui t 11 (19 * i + j) u) ∧ ∀ i' j', i' < 19 → j' < 19 → nz_D (ax_ui t 11 (19 * i + j) u) i' j' = if i' < i ∨ (i' = i ∧ j' < j_1) then nz_fw D m i' j' else D i' j') := by
            intro u hu
            refine ⟨j + 1, by omega, nI_s j, z_only_tr h2 (z_only_ui _ _ _ _), ?_⟩
            intro i' j' hi' hj'
            rw [nz_D_ui hj19 i' j' hj']
            by_cases q : i' = i ∧ j' = j
            · obtain ⟨rfl, rfl⟩ := q
              rw [if_pos ⟨rfl, rfl⟩, if_pos (Or.inr ⟨rfl, by omega⟩)]
              exact hu
            · rw [if_neg q, h3 i' j' hi' hj']
              by_cases q2 : i' < i ∨ (i' = i ∧ j' < j)
              · rw [if_pos q2, if_pos (by omega)]
              · rw [if_neg q2, if_neg (by omega)]
          have ms : 19 - (nI j + 1).toNatClampNeg < 19 - (nI j).toNatClampNeg := by
            rw [nI_s j, hjc, nI_cl (by omega)]; omega
          by_cases hc : t.1 11 (19 * i + j) ≤ k0
          · rw [if_pos hc, Option.bind_some, w3, Option.bind_some]
            rw [z_le, v3, hk0] at hc
            refine ⟨_, rfl, fin _ ?_, ms⟩
            rw [v3]
            unfold nz_fw
            rw [if_neg]
            rintro ⟨g1, g2, g3⟩
            rw [if_pos g2] at hc
            omega
          · rw [if_neg hc, w3, Option.bind_some]
            rw [z_le, v3, hk0] at hc
            refine ⟨_, rfl, fin _ ?_, ms⟩
            rw [hk0]
            unfold nz_fw
            by_cases g : D m j < 100000000
            · rw [if_pos g] at hc ⊢
              rw [if_pos ⟨by omega, g, by omega⟩]
            · rw [if_neg g] at hc
              omega
        by_cases hf2 : (100000000 : Int32) ≤ t.1 11 (19 * m + j)
        · rw [if_pos hf2]
          rw [z_le, v2, h8] at hf2
          exact go _ (by rw [if_neg (by omega)]; decide)
        · rw [if_neg hf2, Option.bind_some, Option.bind_some]
          rw [z_le, v2, h8] at hf2
          refine go _ ?_
          rw [if_pos (by omega), z_add (by omega) (by omega), v1, v2]
  · intro i' j' hi' hj'
    rw [hs i' j' hi' hj']
    by_cases q : i' < i
    · rw [if_pos q, if_pos (Or.inl q)]
    · rw [if_neg q, if_neg (by omega)]
theorem nz_round {D : Nat → Nat → Int} {m : Nat} (hm : m < 19) (hZ : D m m = 0) (hlo : ∀ i j, i < 19 → j < 19 → -800000 ≤ D i j ∧ D i j ≤ 100000000) {s : ax_S} (hs : ∀ i' j', i' < 19 → j' < 19 → nz_D s i' j' = D i' j') :
    ∃ t, ax_lp (b_X10_works_205 (nI m)) ((0 : Int32), s) = some t ∧ z_only 11 s t ∧ ∀ i' j', i' < 19 → j' < 19 → nz_D t i' j' = nz_fw D m i' j' := by
  refine z_inv (f := b_X10_works_205 (nI m)) (fun a => ∃ i, i ≤ 19 ∧ a.1 = nI i ∧ z_only 11 s a.2 ∧ ∀ i' j', i' < 19 → j' < 19 → nz_D a.2 i' j' = if i' < i then nz_fw D m i' j' else D i' j')
    (fun t => z_only 11 s t ∧ ∀ i' j', i' < 19 → j' < 19 → nz_D t i' j' = nz_fw D m i' j') (fun a => 19 - a.1.toNatClampNeg) ?_
    (a := ((0 : Int32), s)) ⟨0, Nat.zero_le _, rfl, z_only_rf 11 s, ?_⟩
  · rintro ⟨_, t⟩ ⟨i, hi, h1, h2, h3⟩
    dsimp only at h1 h2 h3
    subst h1
    have hiI : (nI i).toInt = (i : Int) := z_nI (by omega)
    have hic := nI_cl (k := i) (by omega)
    unfold b_X10_works_205
    dsimp only
    by_cases hl : (19 : Int32) ≤ nI i
    · left
      rw [if_pos hl]
      rw [z_le, hiI] at hl
      simp only [Int32.reduceToInt] at hl
      refine ⟨t, rfl, h2, ?_⟩
      intro i' j' hi' hj'
      rw [h3 i' j' hi' hj', if_pos (by omega)]
    · right
      rw [if_neg hl]
      rw [z_le, hiI] at hl
      simp only [Int32.reduceToInt] at hl
      obtain ⟨t', f1, f2, f3⟩ := nz_row hm (by omega) hZ hlo h3
      rw [f1, Option.bind_some]
      refine ⟨_, rfl, ⟨i + 1, by omega, nI_s i, z_only_tr h2 f2, f3⟩, ?_⟩
      dsimp only
      rw [nI_s i, nI_cl (by omega)]
      omega
  · intro i' j' hi' hj'
    rw [if_neg (by omega)]
    exact hs i' j' hi' hj'
theorem nz_diag (m : Int32) (s : ax_S) : ∃ e, ax_lp (b_X10_works_352 m s) (0 : Int32) = some e ∧ ((e = .inl () ∧ ∀ i, i < 19 → 0 ≤ nz_D s i i) ∨ (e = .inr (0, s) ∧ ∃ i, i < 19 ∧ nz_D s i i < 0)) := by
  refine z_inv (f := b_X10_works_352 m s) (fun a => ∃ k, k ≤ 19 ∧ a = nI k ∧ ∀ i, i < k → 0 ≤ nz_D s i i) (fun e => (e = .inl () ∧ ∀ i, i < 19 → 0 ≤ nz_D s i i) ∨ (e = .inr (0, s) ∧ ∃ i, i < 19 ∧ nz_D s i i < 0)) (fun a => 19 - a.toNatClampNeg) ?_
    (a := (0 : Int32)) ⟨0, Nat.zero_le _, rfl, fun m hm => absurd hm (Nat.not_lt_zero m)⟩
  rintro _ ⟨k, hk, rfl, h1⟩
  have hkI : (nI k).toInt = (k : Int) := z_nI (by omega)
  unfold b_X10_works_352
  by_cases hl : (19 : Int32) ≤ nI k
  · left
    rw [if_pos hl]
    rw [z_le, hkI] at hl
    simp only [Int32.reduceToInt] at hl
    exact ⟨_, rfl, Or.inl ⟨rfl, fun i hi => h1 i (by omega)⟩⟩
  · rw [if_neg hl]
    rw [z_le, hkI] at hl
    simp only [Int32.reduceToInt] at hl
    have e1 : ((20 : Int32) * nI k).toInt = 20 * (k : Int) := by
      rw [z_mul (by simp only [Int32.reduceToInt]; omega) (by simp only [Int32.reduceToInt]; omega), hkI]
      simp only [Int32.reduceToInt]
    have e2 : ((20 : Int32) * nI k).toNatClampNeg = 19 * k + k := by
      have := z_cl (a := (20 : Int32) * nI k) (by omega)
      omega
    rw [z_ai (Sd := cx_R) (x := s) (a := 11) (n := 361) rfl (by omega) (by omega), Option.bind_some, e2]
    have h0 : (0 : Int32).toInt = 0 := by decide
    by_cases hc : 0 ≤ s.1 11 (19 * k + k)
    · right
      rw [if_pos hc]
      rw [z_le, h0] at hc
      refine ⟨_, rfl, ⟨k + 1, by omega, nI_s k, ?_⟩, ?_⟩
      · intro i hi
        by_cases q : i = k
        · subst q; exact hc
        · exact h1 i (by omega)
      · rw [nI_s k, nI_cl (by omega), nI_cl (by omega)]
        omega
    · left
      rw [if_neg hc]
      rw [z_le, h0] at hc
      exact ⟨_, rfl, Or.inr ⟨rfl, k, by omega, by show (s.1 11 (19 * k + k)).toInt < 0; omega⟩⟩
/-- the reference knows of each two the most -/
def nz_Rm (t y : ax_S) (B : Int64) : Prop := (∀ i j, nz_E y i → nz_E y j → (∃ v, nz_S y B v ∧ nz_w v j - nz_w v i = nz_D t i j) ∧ ∀ v, nz_S y B v → nz_w v j - nz_w v i ≤ nz_D t i j)
theorem nz_works {y : ax_S} (hnu : pz_nu y) (hbk : pz_bk y) (hrw : pz_rw y) (B : Int64) : ∃ fl t, f_X10_works B y = some (fl, t) ∧ z_only 11 y t ∧ ((fl = 1 ∧ nz_Rm t y B) ∨ (fl = 0 ∧ ∀ v, ¬ nz_S y B v)) := by
  obtain ⟨e2, e40, e76, t0, k2, k40, k76, k123, ⟨q1, q2, q3, q4, q5⟩, r1, r2, r3⟩ := nz_lay hnu hbk hrw B
  have hnu' := hnu
  obtain ⟨n1, n2, n3, n4, n5, n6, n7, n8, n9, n10, n11, n12⟩ := hnu
  have c6 := z_cl n9
  have c1 := z_cl n5
  have c2 := z_cl n7
  have E0 : nz_E y 0 := Or.inl rfl
  have hE := nz_E19 y
  have J0 : nz_J (nz_E y) (nz_W y B) (nz_D t0) 0 (nz_D t0) := by
    refine ⟨q2, q3, ?_, fun k hk => absurd hk (Nat.not_lt_zero k), ?_, fun h => absurd h (by omega), ?_, fun i j _ _ => Int.le_refl _, q5⟩
    · intro i j hi hj
      have := q4 i j hi hj
      omega
    · intro i hi
      rcases hi with h | ⟨h, h', -⟩ | ⟨h, h', -⟩
      · rw [h]
        have := q2 0 (by omega)
        omega
      · have := r1 (i - 1) (by omega)
        rw [show 1 + (i - 1) = i by omega] at this
        omega
      · have a1 := r2 (i - 13) (by omega)
        have a2 := hbk (i - 13) (by omega)
        rw [show 13 + (i - 13) = i by omega] at a1
        omega
    · intro i j hi hj
      left
      have := q4 i j (hE i hi) (hE j hj)
      omega
  have key := z_inv (f := b_X10_works_196) (fun a => ∃ M, M ≤ 19 ∧ a.1 = nI M ∧ z_only 11 y a.2 ∧ nz_J (nz_E y) (nz_W y B) (nz_D t0) M (nz_D a.2))
    (fun e => ∃ fl t, (Sum.elim (fun e196 => some (((1 : Int32), e196))) (fun r => some (r)) e : Option (Int32 × ax_S)) = some (fl, t) ∧ z_only 11 y t ∧ ((fl = 1 ∧ nz_J (nz_E y) (nz_W y B) (nz_D t0) 19 (nz_D t)) ∨ (fl = 0 ∧ ∀ v, ¬ nz_S y B v)))
    (fun a => 19 - a.1.toNatClampNeg) (by
    rintro ⟨_, t⟩ ⟨M, hM, h1, h2, h3⟩
    dsimp only at h1 h2 h3
    subst h1
    have hMI : (nI M).toInt = (M : Int) := z_nI (by omega)
    unfold b_X10_works_196
    dsimp only
    by_cases hl : (19 : Int32) ≤ nI M
    · left
      rw [if_pos hl]
      rw [z_le, hMI] at hl
      simp only [Int32.reduceToInt] at hl
      obtain rfl : M = 19 := by omega
      exact ⟨_, rfl, 1, t, rfl, h2, Or.inl ⟨rfl, h3⟩⟩
    · rw [if_neg hl]
      rw [z_le, hMI] at hl
      simp only [Int32.reduceToInt] at hl
      obtain ⟨t', f1, f2, f3⟩ := nz_round (D := nz_D t) (m := M) (s := t) (by omega) (h3.Z M (by omega)) (fun i j hi hj => ⟨nz_J_low19 hE h3 i j hi hj, h3.U i j hi hj⟩) (fun _ _ _ _ => rfl)
      obtain ⟨e, g1, g2⟩ := nz_diag (nI M) t'
      rw [f1, Option.bind_some, g1, Option.bind_some]
      rcases g2 with ⟨rfl, g2⟩ | ⟨rfl, i, g2, g3⟩
      · right
        refine ⟨_, rfl, ⟨M + 1, by omega, nI_s M, z_only_tr h2 f2, ?_⟩, ?_⟩
        · refine nz_J_congr hE E0 f3 (nz_J_step (by omega) hE E0 h3 ?_)
          intro i hi
          rw [← f3 i i hi hi]
          exact g2 i hi
        · dsimp only
          rw [nI_s M, nI_cl (by omega), nI_cl (by omega)]
          omega
      · left
        refine ⟨_, rfl, 0, t', rfl, z_only_tr h2 f2, Or.inr ⟨rfl, ?_⟩⟩
        intro v hv
        rw [f3 i i g2 g2] at g3
        by_cases hi : nz_E y i
        · have := nz_fw_B (by omega) hE h3 (nz_w v) ⟨v, hv, rfl⟩ i i hi hi
          omega
        · rcases nz_fw_or (nz_D t) M i i with z | z
          · rw [z, h3.Z i g2] at g3; omega
          · by_cases hiM : i = M
            · rw [z, hiM, h3.Z M (by omega)] at g3; omega
            · have a1 := h3.N i M g2 (by omega) hiM (Or.inl hi)
              have a2 := h3.N M i (by omega) g2 (fun z => hiM z.symm) (Or.inr hi)
              rw [z, a1, a2] at g3
              omega)
    (a := ((0 : Int32), t0)) ⟨0, Nat.zero_le _, rfl, q1, J0⟩
  obtain ⟨e, u1, fl, t, u2, u3, u4⟩ := key
  refine ⟨fl, t, ?_, u3, ?_⟩
  · unfold f_X10_works
    rw [k2, Option.bind_some, k40, Option.bind_some, k76, Option.bind_some, k123, Option.bind_some, u1, Option.bind_some, u2]
  · rcases u4 with ⟨u4, u5⟩ | u4
    · left
      refine ⟨u4, ?_⟩
      intro i j hi hj
      refine ⟨⟨fun m => @ite Int (nz_E y (1 + m)) (Classical.propDecidable _) (nz_D t i (1 + m) - nz_D t i 0) 0, ?_, ?_⟩, fun v hv => u5.B _ ⟨v, hv, rfl⟩ i j hi hj⟩
      · refine ⟨?_, ?_⟩
        · intro m hm
          dsimp only
          by_cases hEm : nz_E y (1 + m)
          · rw [if_pos hEm]
            have a1 := u5.T 0 (by omega) E0 i (1 + m) hi hEm
            have a2 := u5.T (1 + m) (hE _ hEm) hEm i 0 hi E0
            have a3 := u5.L 0 (1 + m) (by omega) (by omega)
            have a4 := u5.L (1 + m) 0 (by omega) (by omega)
            rcases hEm with h | ⟨h, h', h''⟩ | ⟨h, h', -⟩
            · omega
            · have b1 := r1 m (by omega)
              unfold nz_lo nz_hi
              rw [if_neg (by omega), if_neg (by omega)]
              omega
            · have b1 := r2 (m - 12) (by omega)
              rw [show 13 + (m - 12) = 1 + m by omega] at b1
              unfold nz_lo nz_hi
              rw [if_pos ⟨by omega, by omega⟩, if_pos ⟨by omega, by omega⟩]
              omega
          · rw [if_neg hEm]
            unfold nz_lo nz_hi
            have : ¬ (12 ≤ m ∧ m < 12 + (y.1 0 2).toNatClampNeg) := by
              intro q
              apply hEm
              unfold nz_E
              omega
            rw [if_neg this, if_neg this]
            omega
        · intro r hr ht
          obtain ⟨l, g1, g2, g3, g4, g5, g6, g7⟩ := nz_leansR hnu' hrw u3 hr
          dsimp only
          rw [if_pos g3, if_pos g4]
          have a0 := r3 r hr ht
          have a1 := u5.T _ (hE _ g3) g3 i _ hi g4
          have a2 := u5.T _ (hE _ g4) g4 i _ hi g3
          have a3 := u5.L _ _ (hE _ g3) (hE _ g4)
          have a4 := u5.L _ _ (hE _ g4) (hE _ g3)
          omega
      · have hw : ∀ k, nz_E y k → nz_w (fun m => @ite Int (nz_E y (1 + m)) (Classical.propDecidable _) (nz_D t i (1 + m) - nz_D t i 0) 0) k = nz_D t i k - nz_D t i 0 := by
          intro k hk
          unfold nz_w
          by_cases h0 : k = 0
          · rw [if_pos h0, h0]; omega
          · rw [if_neg h0]
            dsimp only
            rw [show 1 + (k - 1) = k by omega, if_pos hk]
        rw [hw i hi, hw j hj, u5.Z i (hE i hi)]
        omega
    · exact Or.inr u4

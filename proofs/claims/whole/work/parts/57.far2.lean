/-! the reference's net, laid -/
def nz_D (s : ax_S) (i j : Nat) : Int := (s.1 11 (19 * i + j)).toInt
theorem nz_D_ui {s : ax_S} {i j : Nat} {v : Int32} (hj : j < 19) (i' j' : Nat) (hj' : j' < 19) : nz_D (ax_ui s 11 (19 * i + j) v) i' j' = if i' = i ∧ j' = j then v.toInt else nz_D s i' j' := by
  show ((ax_ui s 11 (19 * i + j) v).1 11 (19 * i' + j')).toInt = _
  rw [z_ui]
  by_cases h : i' = i ∧ j' = j
  · rw [if_pos h, if_pos ⟨rfl, by rw [h.1, h.2]⟩]
  · rw [if_neg h, if_neg (by omega)]; rfl
theorem z_19 {a b : Int32} {i j : Nat} (ha : a.toInt = (i : Int)) (hb : b.toInt = (j : Int)) (hi : i < 19) (hj : j < 19) : ((19 : Int32) * a + b).toInt = 19 * (i : Int) + j ∧ ((19 : Int32) * a + b).toNatClampNeg = 19 * i + j := by
  have h1 : ((19 : Int32) * a).toInt = 19 * a.toInt := by
    rw [z_mul (by simp only [Int32.reduceToInt]; omega) (by simp only [Int32.reduceToInt]; omega)]
    simp only [Int32.reduceToInt]
  have h2 : ((19 : Int32) * a + b).toInt = 19 * (i : Int) + j := by
    rw [z_add (by omega) (by omega), h1, ha, hb]
  refine ⟨h2, ?_⟩
  have := z_cl (a := (19 : Int32) * a + b) (by omega)
  omega
def nz_E (y : ax_S) (k : Nat) : Prop := k = 0 ∨ (1 ≤ k ∧ k ≤ (y.1 0 1).toNatClampNeg ∧ k ≤ 12) ∨ (13 ≤ k ∧ k < 13 + (y.1 0 2).toNatClampNeg ∧ k < 19)
theorem nz_E19 (y : ax_S) (k : Nat) (h : nz_E y k) : k < 19 := by
  unfold nz_E at h
  omega
def nz_w (v : Nat → Int) (k : Nat) : Int := if k = 0 then 0 else v (k - 1)
def nz_W (y : ax_S) (B : Int64) (w : Nat → Int) : Prop := ∃ v, nz_S y B v ∧ w = nz_w v
theorem nz_w0 (v : Nat → Int) : nz_w v 0 = 0 := rfl
theorem nz_ws (v : Nat → Int) (m : Nat) : nz_w v (1 + m) = v m := by
  unfold nz_w
  rw [if_neg (by omega), show 1 + m - 1 = m by omega]
/-- the net as it is being laid -/
def nz_Q (y : ax_S) (B : Int64) (s : ax_S) : Prop := z_only 11 y s ∧ (∀ i, i < 19 → nz_D s i i = 0) ∧ (∀ i j, i < 19 → j < 19 → i ≠ j → ¬ nz_E y i ∨ ¬ nz_E y j → nz_D s i j = 100000000) ∧ (∀ i j, i < 19 → j < 19 → nz_D s i j = 100000000 ∨ (-200000 ≤ nz_D s i j ∧ nz_D s i j ≤ 200000)) ∧ (∀ w, nz_W y B w → ∀ i j, nz_E y i → nz_E y j → w j - w i ≤ nz_D s i j)
theorem nz_atMost {y : ax_S} {B : Int64} {s : ax_S} (hQ : nz_Q y B s) {a b v : Int32} {i j : Nat} (ha : a.toInt = (i : Int)) (hb : b.toInt = (j : Int)) (hi : nz_E y i) (hj : nz_E y j) (hij : i ≠ j) (hv : -200000 ≤ v.toInt ∧ v.toInt ≤ 200000) (hub : ∀ w, nz_W y B w → w j - w i ≤ v.toInt) :
    ∃ t, f_X10_atMost a b v s = some t ∧ nz_Q y B t ∧ (∀ i' j', i' < 19 → j' < 19 → nz_D t i' j' ≤ nz_D s i' j') ∧ nz_D t i j ≤ v.toInt := by
  have hi19 := nz_E19 y i hi
  have hj19 := nz_E19 y j hj
  obtain ⟨e1, e2⟩ := z_19 ha hb hi19 hj19
  obtain ⟨q1, q2, q3, q4, q5⟩ := hQ
  have hai := z_ai (Sd := cx_R) (x := s) (a := 11) (n := 361) (i := (19 : Int32) * a + b) rfl (by omega) (by omega)
  rw [e2] at hai
  have hsi : ∀ u : Int32, ax_si cx_R s 11 ((19 : Int32) * a + b) u = some (ax_ui s 11 (19 * i + j) u) := by
    intro u
    rw [z_si (Sd := cx_R) (x := s) (a := 11) (n := 361) rfl (by omega) (by omega), e2]
  unfold f_X10_atMost
  rw [hai, Option.bind_some]
  have hD : nz_D s i j = (s.1 11 (19 * i + j)).toInt := rfl
  have go : ∀ u : Int32, (u.toInt = nz_D s i j ∨ u.toInt = v.toInt) → u.toInt ≤ nz_D s i j → u.toInt ≤ v.toInt → nz_Q y B (ax_ui s 11 (19 * i + j) u) ∧ (∀ i' j', i' < 19 → j' < 19 → nz_D (ax_ui s 11 (19 * i + j) u) i' j' ≤ nz_D s i' j') ∧ nz_D (ax_ui s 11 (19 * i + j) u) i j ≤ v.toInt := by
    intro u hu1 hu2 hu3
    refine ⟨⟨z_only_tr q1 (z_only_ui _ _ _ _), ?_, ?_, ?_, ?_⟩, ?_, ?_⟩
    · intro k hk
      rw [nz_D_ui hj19 k k hk, if_neg (by omega)]
      exact q2 k hk
    · intro i' j' hi' hj' hne hn
      rw [nz_D_ui hj19 i' j' hj', if_neg]
      · exact q3 i' j' hi' hj' hne hn
      · rintro ⟨rfl, rfl⟩
        rcases hn with z | z
        · exact z hi
        · exact z hj
    · intro i' j' hi' hj'
      rw [nz_D_ui hj19 i' j' hj']
      have := q4 i' j' hi' hj'
      split
      · rename_i hh
        obtain ⟨rfl, rfl⟩ := hh
        omega
      · exact this
    · intro w hw i' j' hi' hj'
      rw [nz_D_ui hj19 i' j' (nz_E19 y j' hj')]
      split
      · rename_i hh
        obtain ⟨rfl, rfl⟩ := hh
        have := q5 w hw i' j' hi' hj'
        have := hub w hw
        omega
      · exact q5 w hw i' j' hi' hj'
    · intro i' j' hi' hj'
      rw [nz_D_ui hj19 i' j' hj']
      split
      · rename_i hh
        obtain ⟨rfl, rfl⟩ := hh
        exact hu2
      · exact Int.le_refl _
    · rw [nz_D_ui hj19 i j hj19, if_pos ⟨rfl, rfl⟩]
      exact hu3
  by_cases hc : s.1 11 (19 * i + j) ≤ v
  · rw [if_pos hc, Option.bind_some, hsi, Option.bind_some]
    rw [z_le] at hc
    exact ⟨_, rfl, go _ (Or.inl rfl) (Int.le_refl _) hc⟩
  · rw [if_neg hc, hsi, Option.bind_some]
    rw [z_le] at hc
    exact ⟨_, rfl, go _ (Or.inr rfl) (by omega) (Int.le_refl _)⟩
theorem nz_leansR {y : ax_S} (hnu : pz_nu y) (hrw : pz_rw y) {s : ax_S} (hs : z_only 11 y s) {r : Nat} (hr : r < (y.1 0 6).toNatClampNeg) : ∃ l, f_X10_leansOn (nI r) s = some l ∧ l.toInt = ((1 + nz_ln y r : Nat) : Int) ∧ nz_E y (1 + nz_ln y r) ∧ nz_E y (1 + (y.1 5 r).toNatClampNeg) ∧ nz_ln y r ≠ (y.1 5 r).toNatClampNeg ∧ 0 ≤ (y.1 5 r).toInt ∧ (y.1 5 r).toInt < 12 := by
  obtain ⟨n1, n2, n3, n4, n5, n6, n7, n8, n9, n10, n11, n12⟩ := hnu
  have c6 := z_cl n9
  have c1 := z_cl n5
  have c2 := z_cl n7
  have hrI : (nI r).toInt = (r : Int) := z_nI (by omega)
  have hrc := nI_cl (k := r) (by omega)
  obtain ⟨b1, b2, b3, b4, b5, -⟩ := hrw r (by omega)
  have cb := z_cl b1
  have ct := z_cl b3
  unfold f_X10_leansOn
  rw [z_ai (Sd := cx_R) (x := s) (a := 6) (n := 40) rfl (by omega) (by omega), Option.bind_some, hrc, hs.1 6 (by omega)]
  by_cases hz : y.1 6 r = (-1 : Int32)
  · rw [if_pos hz, z_ai (Sd := cx_R) (x := s) (a := 4) (n := 40) rfl (by omega) (by omega), Option.bind_some, hrc, hs.1 4 (by omega)]
    have e : nz_ln y r = 12 + (y.1 4 r).toNatClampNeg := by unfold nz_ln; rw [if_pos hz]
    refine ⟨_, rfl, ?_, ?_, ?_, ?_, b3, by omega⟩
    · rw [z_add (by simp only [Int32.reduceToInt]; omega) (by simp only [Int32.reduceToInt]; omega), e]
      simp only [Int32.reduceToInt]
      omega
    · rw [e]; unfold nz_E; omega
    · unfold nz_E; omega
    · rw [e]; omega
  · rw [if_neg hz, Option.bind_some]
    have e : nz_ln y r = (y.1 6 r).toNatClampNeg := by unfold nz_ln; rw [if_neg hz]
    have hq : 0 ≤ (y.1 6 r).toInt ∧ (y.1 6 r).toInt < (y.1 0 1).toInt ∧ (y.1 6 r).toInt ≠ (y.1 5 r).toInt := by
      rcases b5 with ⟨q, -⟩ | ⟨q, q2, q3, -⟩
      · exact absurd (by rw [z_eq, q]; decide) hz
      · exact ⟨q, q2, q3⟩
    have co := z_cl hq.1
    refine ⟨_, rfl, ?_, ?_, ?_, ?_, b3, by omega⟩
    · rw [z_add (by simp only [Int32.reduceToInt]; omega) (by simp only [Int32.reduceToInt]; omega), e]
      simp only [Int32.reduceToInt]
      omega
    · rw [e]; unfold nz_E; omega
    · unfold nz_E; omega
    · rw [e]; omega
/-- laid, as far as days and clocks and so many rows go -/
def nz_QF (y : ax_S) (B : Int64) (s : ax_S) (T C R : Nat) : Prop := nz_Q y B s ∧ (∀ m, m < T → nz_D s 0 (1 + m) ≤ 200000 ∧ nz_D s (1 + m) 0 ≤ 200000) ∧ (∀ b, b < C → nz_D s 0 (13 + b) ≤ -(y.1 1 b).toInt ∧ nz_D s (13 + b) 0 ≤ (y.1 2 b).toInt) ∧ (∀ r, r < R → pz_tb B r = true → nz_D s (1 + nz_ln y r) (1 + (y.1 5 r).toNatClampNeg) ≤ (y.1 8 r).toInt ∧ nz_D s (1 + (y.1 5 r).toNatClampNeg) (1 + nz_ln y r) ≤ -(y.1 7 r).toInt)
theorem nz_QF_le {y : ax_S} {B : Int64} {s t : ax_S} {T C R : Nat} (hnu : pz_nu y) (hrw : pz_rw y) (hT : T ≤ 12) (hC : C ≤ 6) (hR : R ≤ (y.1 0 6).toNatClampNeg) (h : nz_QF y B s T C R) (hQ : nz_Q y B t) (hle : ∀ i' j', i' < 19 → j' < 19 → nz_D t i' j' ≤ nz_D s i' j') : nz_QF y B t T C R := by
  obtain ⟨-, h1, h2, h3⟩ := h
  refine ⟨hQ, ?_, ?_, ?_⟩
  · intro m hm
    have a1 := h1 m hm
    have a2 := hle 0 (1 + m) (by omega) (by omega)
    have a3 := hle (1 + m) 0 (by omega) (by omega)
    omega
  · intro m hm
    have a1 := h2 m hm
    have a2 := hle 0 (13 + m) (by omega) (by omega)
    have a3 := hle (13 + m) 0 (by omega) (by omega)
    omega
  · intro r hr ht
    have a1 := h3 r hr ht
    have a0 := nz_lnR hnu hrw (r := r) (by omega)
    have a2 := hle (1 + nz_ln y r) (1 + (y.1 5 r).toNatClampNeg) (by omega) (by omega)
    have a3 := hle (1 + (y.1 5 r).toNatClampNeg) (1 + nz_ln y r) (by omega) (by omega)
    omega
theorem nz_lay {y : ax_S} (hnu : pz_nu y) (hbk : pz_bk y) (hrw : pz_rw y) (B : Int64) : ∃ e2 e40 e76 t, ax_lp (b_X10_works_2 B) ((0 : Int32), y) = some e2 ∧ ax_lp (b_X10_works_40 B) ((0 : Int32), e2) = some e40 ∧ ax_lp (b_X10_works_76 B) ((0 : Int32), e40) = some e76 ∧ ax_lp (b_X10_works_123 B) ((0 : Int32), e76) = some t ∧ nz_QF y B t (y.1 0 1).toNatClampNeg (y.1 0 2).toNatClampNeg (y.1 0 6).toNatClampNeg := by
  have hnu' := hnu
  obtain ⟨n1, n2, n3, n4, n5, n6, n7, n8, n9, n10, n11, n12⟩ := hnu
  have c6 := z_cl n9
  have c1 := z_cl n5
  have c2 := z_cl n7
  have E0 : nz_E y 0 := Or.inl rfl
  have key1 := z_inv (f := b_X10_works_2 B) (fun a => ∃ k, k ≤ 361 ∧ a.1 = nI k ∧ z_only 11 y a.2 ∧ ∀ q, q < k → a.2.1 11 q = if q / 19 = q % 19 then 0 else 100000000)
    (fun t => nz_QF y B t 0 0 0) (fun a => 361 - a.1.toNatClampNeg) (by
    rintro ⟨i, t⟩ ⟨k, hk, h1, h2, h3⟩
    dsimp only at h1 h2 h3
    subst h1
    have hkI : (nI k).toInt = (k : Int) := z_nI (by omega)
    have hkc := nI_cl (k := k) (by omega)
    unfold b_X10_works_2
    dsimp only
    by_cases hl : (361 : Int32) ≤ nI k
    · left
      rw [if_pos hl]
      rw [z_le, hkI] at hl
      simp only [Int32.reduceToInt] at hl
      have hd : ∀ i j, i < 19 → j < 19 → nz_D t i j = if i = j then 0 else 100000000 := by
        intro i j hi hj
        show (t.1 11 (19 * i + j)).toInt = _
        rw [h3 _ (by omega)]
        by_cases hij : i = j
        · rw [if_pos hij, if_pos (by omega)]; rfl
        · rw [if_neg hij, if_neg (by omega)]; rfl
      refine ⟨t, rfl, ⟨h2, ?_, ?_, ?_, ?_⟩, fun m hm => absurd hm (Nat.not_lt_zero m), fun m hm => absurd hm (Nat.not_lt_zero m), fun m hm => absurd hm (Nat.not_lt_zero m)⟩
      · intro i hi; rw [hd i i hi hi, if_pos rfl]
      · intro i j hi hj hij _; rw [hd i j hi hj, if_neg hij]
      · intro i j hi hj; rw [hd i j hi hj]; split <;> omega
      · rintro w ⟨v, hv, rfl⟩ i j hi hj
        rw [hd i j (nz_E19 y i hi) (nz_E19 y j hj)]
        by_cases hij : i = j
        · rw [if_pos hij, hij]; omega
        · rw [if_neg hij]
          have hb : ∀ k, k < 19 → -200000 ≤ nz_w v k ∧ nz_w v k ≤ 200000 := by
            intro k hk
            unfold nz_w
            by_cases h0 : k = 0
            · rw [if_pos h0]; omega
            · rw [if_neg h0]
              have a1 := hv.1 (k - 1) (by omega)
              have a2 := nz_lohi hnu' hbk (k - 1)
              omega
          have := hb i (nz_E19 y i hi)
          have := hb j (nz_E19 y j hj)
          omega
    · right
      rw [if_neg hl]
      rw [z_le, hkI] at hl
      simp only [Int32.reduceToInt] at hl
      have h19 : (19 : Int32).toInt = 19 := by decide
      have hdv := z_div (a := nI k) (b := 19) (by omega) (by omega)
      obtain ⟨v, e1, e2⟩ := z_irem (a := nI k) (b := 19) (by omega) (by omega)
      rw [hkI, h19] at hdv e2
      rw [z_idiv (by omega), Option.bind_some, e1, Option.bind_some]
      have hw : (nI k / 19 = v) ↔ k / 19 = k % 19 := by
        rw [z_eq, hdv, e2]; omega
      have step : ∀ u : Int32, u = (if k / 19 = k % 19 then 0 else 100000000) → (∃ k_1, k_1 ≤ 361 ∧ nI k + 1 = nI k_1 ∧ z_only 11 y (ax_ui t 11 k u) ∧ ∀ q, q < k_1 → (ax_ui t 11 k u).1 11 q = if q / 19 = q % 19 then 0 else 100000000) := by
        intro u hu
        refine ⟨k + 1, by omega, nI_s k, z_only_tr h2 (z_only_ui _ _ _ _), ?_⟩
        intro q hq
        rw [z_ui]
        by_cases hqk : q = k
        · rw [if_pos ⟨rfl, hqk⟩, hu, hqk]
        · rw [if_neg (fun z => hqk z.2)]
          exact h3 q (by omega)
      have ms : 361 - (nI k + 1).toNatClampNeg < 361 - k := by
        rw [nI_s k, nI_cl (by omega)]; omega
      by_cases hc : nI k / 19 = v
      · rw [if_pos hc, z_si (Sd := cx_R) (x := t) (a := 11) (n := 361) rfl (by omega) (by omega), Option.bind_some, hkc]
        rw [hw] at hc
        exact ⟨_, rfl, step 0 (by rw [if_pos hc]), ms⟩
      · rw [if_neg hc, z_si (Sd := cx_R) (x := t) (a := 11) (n := 361) rfl (by omega) (by omega), Option.bind_some, hkc]
        rw [hw] at hc
        exact ⟨_, rfl, step 100000000 (by rw [if_neg hc]), ms⟩)
    (a := ((0 : Int32), y)) ⟨0, Nat.zero_le _, rfl, z_only_rf 11 y, fun m hm => absurd hm (Nat.not_lt_zero m)⟩
  obtain ⟨e2, k2, Q2⟩ := key1
  have key2 := z_inv (f := b_X10_works_40 B) (fun a => ∃ k, k ≤ (y.1 0 1).toNatClampNeg ∧ a.1 = nI k ∧ nz_QF y B a.2 k 0 0)
    (fun t => nz_QF y B t (y.1 0 1).toNatClampNeg 0 0) (fun a => (y.1 0 1).toNatClampNeg - a.1.toNatClampNeg) (by
    rintro ⟨i, t⟩ ⟨k, hk, h1, h2⟩
    dsimp only at h1 h2
    subst h1
    have hkI : (nI k).toInt = (k : Int) := z_nI (by omega)
    have hkc := nI_cl (k := k) (by omega)
    unfold b_X10_works_40
    dsimp only
    have e01 : t.1 0 1 = y.1 0 1 := by rw [h2.1.1.1 0 (by omega)]
    rw [e01]
    by_cases hl : y.1 0 1 ≤ nI k
    · left
      rw [if_pos hl]
      rw [z_le, hkI] at hl
      have : k = (y.1 0 1).toNatClampNeg := by omega
      subst this
      exact ⟨t, rfl, h2⟩
    · right
      rw [if_neg hl]
      rw [z_le, hkI] at hl
      have h1k : ((1 : Int32) + nI k).toInt = ((1 + k : Nat) : Int) := by
        rw [z_add (by simp only [Int32.reduceToInt]; omega) (by simp only [Int32.reduceToInt]; omega), hkI]
        simp only [Int32.reduceToInt]
        omega
      have Ek : nz_E y (1 + k) := by unfold nz_E; omega
      have hub : ∀ w, nz_W y B w → -200000 ≤ w (1 + k) ∧ w (1 + k) ≤ 200000 ∧ w 0 = 0 := by
        rintro w ⟨v, hv, rfl⟩
        rw [nz_ws, nz_w0]
        have a1 := hv.1 k (by omega)
        have a2 := nz_lohi hnu' hbk k
        omega
      obtain ⟨t1, f1, q1, l1, d1⟩ := nz_atMost h2.1 (a := 0) (b := (1 : Int32) + nI k) (v := 200000) (i := 0) (j := 1 + k) rfl h1k E0 Ek (by omega) (by decide) (by
        intro w hw
        have := hub w hw
        show _ ≤ (200000 : Int)
        omega)
      obtain ⟨t2, f2, q2, l2, d2⟩ := nz_atMost q1 (a := (1 : Int32) + nI k) (b := 0) (v := 200000) (i := 1 + k) (j := 0) h1k rfl Ek E0 (by omega) (by decide) (by
        intro w hw
        have := hub w hw
        show _ ≤ (200000 : Int)
        omega)
      have d1' : nz_D t1 0 (1 + k) ≤ 200000 := d1
      have d2' : nz_D t2 (1 + k) 0 ≤ 200000 := d2
      rw [f1, Option.bind_some, f2, Option.bind_some]
      have hqf := nz_QF_le hnu' hrw (by omega) (by omega) (by omega) (nz_QF_le hnu' hrw (by omega) (by omega) (by omega) h2 q1 l1) q2 l2
      refine ⟨_, rfl, ⟨k + 1, by omega, nI_s k, hqf.1, ?_, hqf.2.2.1, hqf.2.2.2⟩, ?_⟩
      · intro m hm
        by_cases hmk : m = k
        · subst hmk
          have := l2 0 (1 + m) (by omega) (by omega)
          dsimp only
          omega
        · exact hqf.2.1 m (by omega)
      · dsimp only
        rw [nI_s k, nI_cl (by omega)]
        omega)
    (a := ((0 : Int32), e2)) ⟨0, Nat.zero_le _, rfl, Q2⟩
  obtain ⟨e40, k40, Q40⟩ := key2
  have key3 := z_inv (f := b_X10_works_76 B) (fun a => ∃ k, k ≤ (y.1 0 2).toNatClampNeg ∧ a.1 = nI k ∧ nz_QF y B a.2 (y.1 0 1).toNatClampNeg k 0)
    (fun t => nz_QF y B t (y.1 0 1).toNatClampNeg (y.1 0 2).toNatClampNeg 0) (fun a => (y.1 0 2).toNatClampNeg - a.1.toNatClampNeg) (by
    rintro ⟨i, t⟩ ⟨k, hk, h1, h2⟩
    dsimp only at h1 h2
    subst h1
    have hkI : (nI k).toInt = (k : Int) := z_nI (by omega)
    have hkc := nI_cl (k := k) (by omega)
    unfold b_X10_works_76
    dsimp only
    have e01 : t.1 0 2 = y.1 0 2 := by rw [h2.1.1.1 0 (by omega)]
    rw [e01]
    by_cases hl : y.1 0 2 ≤ nI k
    · left
      rw [if_pos hl]
      rw [z_le, hkI] at hl
      have : k = (y.1 0 2).toNatClampNeg := by omega
      subst this
      exact ⟨t, rfl, h2⟩
    · right
      rw [if_neg hl]
      rw [z_le, hkI] at hl
      obtain ⟨b1, b2, b3, -⟩ := hbk k (by omega)
      have h1k : ((13 : Int32) + nI k).toInt = ((13 + k : Nat) : Int) := by
        rw [z_add (by simp only [Int32.reduceToInt]; omega) (by simp only [Int32.reduceToInt]; omega), hkI]
        simp only [Int32.reduceToInt]
        omega
      have Ek : nz_E y (13 + k) := by unfold nz_E; omega
      have hub : ∀ w, nz_W y B w → -(y.1 2 k).toInt ≤ w (13 + k) ∧ w (13 + k) ≤ -(y.1 1 k).toInt ∧ w 0 = 0 := by
        rintro w ⟨v, hv, rfl⟩
        rw [show 13 + k = 1 + (12 + k) by omega, nz_ws, nz_w0]
        have a1 := hv.1 (12 + k) (by omega)
        unfold nz_lo nz_hi at a1
        rw [if_pos ⟨by omega, by omega⟩, if_pos ⟨by omega, by omega⟩, show 12 + k - 12 = k by omega] at a1
        omega
      rw [z_ai (Sd := cx_R) (x := t) (a := 1) (n := 6) rfl (by omega) (by omega), Option.bind_some, hkc, h2.1.1.1 1 (by omega)]
      have ng : (-(y.1 1 k)).toInt = -(y.1 1 k).toInt := z_neg (by omega)
      obtain ⟨t1, f1, q1, l1, d1⟩ := nz_atMost h2.1 (a := 0) (b := (13 : Int32) + nI k) (v := -(y.1 1 k)) (i := 0) (j := 13 + k) rfl h1k E0 Ek (by omega) (by omega) (by
        intro w hw
        have := hub w hw
        omega)
      rw [f1, Option.bind_some, z_ai (Sd := cx_R) (x := t1) (a := 2) (n := 6) rfl (by omega) (by omega), Option.bind_some, hkc, q1.1.1 2 (by omega)]
      obtain ⟨t2, f2, q2, l2, d2⟩ := nz_atMost q1 (a := (13 : Int32) + nI k) (b := 0) (v := y.1 2 k) (i := 13 + k) (j := 0) h1k rfl Ek E0 (by omega) (by omega) (by
        intro w hw
        have := hub w hw
        omega)
      rw [f2, Option.bind_some]
      have hqf := nz_QF_le hnu' hrw (by omega) (by omega) (by omega) (nz_QF_le hnu' hrw (by omega) (by omega) (by omega) h2 q1 l1) q2 l2
      refine ⟨_, rfl, ⟨k + 1, by omega, nI_s k, hqf.1, hqf.2.1, ?_, hqf.2.2.2⟩, ?_⟩
      · intro m hm
        by_cases hmk : m = k
        · subst hmk
          have := l2 0 (13 + m) (by omega) (by omega)
          dsimp only
          omega
        · exact hqf.2.2.1 m (by omega)
      · dsimp only
        rw [nI_s k, nI_cl (by omega)]
        omega)
    (a := ((0 : Int32), e40)) ⟨0, Nat.zero_le _, rfl, Q40⟩
  obtain ⟨e76, k76, Q76⟩ := key3
  have key4 := z_inv (f := b_X10_works_123 B) (fun a => ∃ k, k ≤ (y.1 0 6).toNatClampNeg ∧ a.1 = nI k ∧ nz_QF y B a.2 (y.1 0 1).toNatClampNeg (y.1 0 2).toNatClampNeg k)
    (fun t => nz_QF y B t (y.1 0 1).toNatClampNeg (y.1 0 2).toNatClampNeg (y.1 0 6).toNatClampNeg) (fun a => (y.1 0 6).toNatClampNeg - a.1.toNatClampNeg) (by
    rintro ⟨i, t⟩ ⟨k, hk, h1, h2⟩
    dsimp only at h1 h2
    subst h1
    have hkI : (nI k).toInt = (k : Int) := z_nI (by omega)
    have hkc := nI_cl (k := k) (by omega)
    unfold b_X10_works_123
    dsimp only
    have e01 : t.1 0 6 = y.1 0 6 := by rw [h2.1.1.1 0 (by omega)]
    rw [e01]
    by_cases hl : y.1 0 6 ≤ nI k
    · left
      rw [if_pos hl]
      rw [z_le, hkI] at hl
      have : k = (y.1 0 6).toNatClampNeg := by omega
      subst this
      exact ⟨t, rfl, h2⟩
    · right
      rw [if_neg hl]
      rw [z_le, hkI] at hl
      have hk' : k < (y.1 0 6).toNatClampNeg := by omega
      have ms : (y.1 0 6).toNatClampNeg - (nI k + 1).toNatClampNeg < (y.1 0 6).toNatClampNeg - k := by
        rw [nI_s k, nI_cl (by omega)]; omega
      by_cases hb : lg_cmp (ax_lshr B (nI k) &&& 1) 1 = 0
      case neg =>
        rw [if_neg hb]
        rw [z_tR B (by omega)] at hb
        refine ⟨_, rfl, ⟨k + 1, by omega, nI_s k, h2.1, h2.2.1, h2.2.2.1, ?_⟩, by rw [hkc]; exact ms⟩
        intro r hr ht
        by_cases hrk : r = k
        · subst hrk; exact absurd ht hb
        · exact h2.2.2.2 r (by omega) ht
      rw [if_pos hb]
      rw [z_tR B (by omega)] at hb
      obtain ⟨l, g1, g2, g3, g4, g5, g6, g7⟩ := nz_leansR hnu' hrw h2.1.1 hk'
      obtain ⟨-, -, r3, r4, r5⟩ := nz_lnR hnu' hrw hk'
      have ct := z_cl g6
      rw [g1, Option.bind_some, z_ai (Sd := cx_R) (x := t) (a := 5) (n := 40) rfl (by omega) (by omega), Option.bind_some, hkc, z_ai (Sd := cx_R) (x := t) (a := 8) (n := 40) rfl (by omega) (by omega), Option.bind_some, hkc, h2.1.1.1 5 (by omega), h2.1.1.1 8 (by omega)]
      have h1k : ((1 : Int32) + y.1 5 k).toInt = ((1 + (y.1 5 k).toNatClampNeg : Nat) : Int) := by
        rw [z_add (by simp only [Int32.reduceToInt]; omega) (by simp only [Int32.reduceToInt]; omega)]
        simp only [Int32.reduceToInt]
        omega
      have hub : ∀ w, nz_W y B w → (y.1 7 k).toInt ≤ w (1 + (y.1 5 k).toNatClampNeg) - w (1 + nz_ln y k) ∧ w (1 + (y.1 5 k).toNatClampNeg) - w (1 + nz_ln y k) ≤ (y.1 8 k).toInt := by
        rintro w ⟨v, hv, rfl⟩
        rw [nz_ws, nz_ws]
        exact hv.2 k hk' hb
      obtain ⟨t1, f1, q1, l1, d1⟩ := nz_atMost h2.1 (a := l) (b := (1 : Int32) + y.1 5 k) (v := y.1 8 k) g2 h1k g3 g4 (by omega) (by omega) (fun w hw => (hub w hw).2)
      rw [f1, Option.bind_some, z_ai (Sd := cx_R) (x := t1) (a := 5) (n := 40) rfl (by omega) (by omega), Option.bind_some, hkc]
      obtain ⟨l', g1', g2', -⟩ := nz_leansR hnu' hrw q1.1 hk'
      rw [g1', Option.bind_some, z_ai (Sd := cx_R) (x := t1) (a := 7) (n := 40) rfl (by omega) (by omega), Option.bind_some, hkc, q1.1.1 5 (by omega), q1.1.1 7 (by omega)]
      have ng : (-(y.1 7 k)).toInt = -(y.1 7 k).toInt := z_neg (by omega)
      obtain ⟨t2, f2, q2, l2, d2⟩ := nz_atMost q1 (a := (1 : Int32) + y.1 5 k) (b := l') (v := -(y.1 7 k)) h1k g2' g4 g3 (by omega) (by omega) (fun w hw => by
        have := (hub w hw).1
        omega)
      rw [f2, Option.bind_some]
      have hqf := nz_QF_le hnu' hrw (by omega) (by omega) (by omega) (nz_QF_le hnu' hrw (by omega) (by omega) (by omega) h2 q1 l1) q2 l2
      refine ⟨_, rfl, ⟨k + 1, by omega, nI_s k, hqf.1, hqf.2.1, hqf.2.2.1, ?_⟩, ms⟩
      intro r hr ht
      by_cases hrk : r = k
      · subst hrk
        have := nz_lnR hnu' hrw hk'
        have := l2 (1 + nz_ln y r) (1 + (y.1 5 r).toNatClampNeg) (by omega) (by omega)
        dsimp only
        omega
      · exact hqf.2.2.2 r (by omega) ht)
    (a := ((0 : Int32), e76)) ⟨0, Nat.zero_le _, rfl, Q76⟩
  obtain ⟨t, k123, Q123⟩ := key4
  exact ⟨e2, e40, e76, t, k2, k40, k76, k123, Q123⟩

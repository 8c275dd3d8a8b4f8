/-! the net: loaded, held, solved -/
theorem nI_cl {k : Nat} (h : k < 2147483648) : (nI k).toNatClampNeg = k := by
  have h1 := z_nI h
  have := z_cl (a := nI k) (by omega)
  omega
theorem nz_fill {p n : Nat} (hp : ax_len cx_C 1 p = some n) (hn : n < 1000000) (v : Int32) (s : ax_S) : ∃ t, f_J7_fill_53178 p v s = some t ∧ z_only p s t ∧ ∀ m, m < n → t.1 p m = v := by
  have hln : ax_ln cx_C p = some (nI n) := by
    unfold ax_ln
    rw [hp]; rfl
  have key := z_inv (f := b_J7_fill_53178_5 p v (nI n)) (fun a => ∃ k, k ≤ n ∧ a.1 = nI k ∧ z_only p s a.2 ∧ ∀ m, m < k → a.2.1 p m = v) (fun t => z_only p s t ∧ ∀ m, m < n → t.1 p m = v) (fun a => n - a.1.toNatClampNeg) (by
    rintro ⟨i, t⟩ ⟨k, hk, h1, h2, h3⟩
    dsimp only at h1 h2 h3
    subst h1
    have hkI : (nI k).toInt = (k : Int) := z_nI (by omega)
    have hnI : (nI n).toInt = (n : Int) := z_nI (by omega)
    unfold b_J7_fill_53178_5
    dsimp only
    by_cases hl : nI n ≤ nI k
    · left
      rw [if_pos hl]
      rw [z_le, hkI, hnI] at hl
      exact ⟨t, rfl, h2, fun m hm => h3 m (by omega)⟩
    · right
      rw [if_neg hl]
      rw [z_le, hkI, hnI] at hl
      rw [z_si (x := t) hp (by omega) (by omega), Option.bind_some]
      refine ⟨_, rfl, ⟨k + 1, by omega, nI_s k, z_only_tr h2 (z_only_ui _ _ _ _), ?_⟩, ?_⟩
      · intro m hm
        dsimp only
        rw [nI_cl (by omega), z_ui]
        by_cases q : m = k
        · rw [if_pos ⟨rfl, q⟩]
        · rw [if_neg (fun z => q z.2)]
          exact h3 m (by omega)
      · dsimp only
        rw [nI_s k, nI_cl (by omega), nI_cl (by omega)]
        omega)
    (a := ((0 : Int32), s)) ⟨0, Nat.zero_le _, rfl, z_only_rf p s, fun m hm => absurd hm (Nat.not_lt_zero m)⟩
  obtain ⟨t, h1, h2, h3⟩ := key
  refine ⟨t, ?_, h2, h3⟩
  unfold f_J7_fill_53178
  rw [hln, Option.bind_some, h1]; rfl
theorem nz_cp {p q : Nat} (hp : ax_len cx_C 1 p = some 18) (hq : ax_len cx_C 1 q = some 18) (s : ax_S) : ∃ t, ax_cp cx_C s p 0 q 0 18 = some t ∧ z_only q s t ∧ ∀ m, m < 18 → t.1 q m = s.1 p m := by
  refine ⟨ax_wi s q (va_cpy (s.1 p) (s.1 q) 0 0 18), ?_, ?_, ?_⟩
  · unfold ax_cp
    rw [hp, hq]
    rfl
  · exact ⟨fun k hk => by simp [ax_wi, hk], rfl⟩
  · intro m hm
    have : (ax_wi s q (va_cpy (s.1 p) (s.1 q) 0 0 18)).1 q = va_cpy (s.1 p) (s.1 q) 0 0 18 := by simp [ax_wi]
    rw [this]
    unfold va_cpy
    rw [if_pos ⟨Nat.zero_le m, by omega⟩]
    simp
/-- what days and clocks the rows of a set allow -/
def nz_ln (y : ax_S) (r : Nat) : Nat := if y.1 6 r = -1 then 12 + (y.1 4 r).toNatClampNeg else (y.1 6 r).toNatClampNeg
def nz_lo (y : ax_S) (m : Nat) : Int := if 12 ≤ m ∧ m < 12 + (y.1 0 2).toNatClampNeg then -(y.1 2 (m - 12)).toInt else -200000
def nz_hi (y : ax_S) (m : Nat) : Int := if 12 ≤ m ∧ m < 12 + (y.1 0 2).toNatClampNeg then -(y.1 1 (m - 12)).toInt else 200000
def nz_R (y : ax_S) (B : Int64) (v : Nat → Int) : Prop := ∀ r : Nat, r < (y.1 0 6).toNatClampNeg → pz_tb B r = true → (y.1 7 r).toInt ≤ v (y.1 5 r).toNatClampNeg - v (nz_ln y r) ∧ v (y.1 5 r).toNatClampNeg - v (nz_ln y r) ≤ (y.1 8 r).toInt
def nz_S (y : ax_S) (B : Int64) (v : Nat → Int) : Prop := (∀ m, m < 18 → nz_lo y m ≤ v m ∧ v m ≤ nz_hi y m) ∧ nz_R y B v
theorem nz_lohi {y : ax_S} (hnu : pz_nu y) (hbk : pz_bk y) (m : Nat) : -200000 ≤ nz_lo y m ∧ nz_lo y m ≤ nz_hi y m ∧ nz_hi y m ≤ 200000 := by
  unfold nz_lo nz_hi
  by_cases h : 12 ≤ m ∧ m < 12 + (y.1 0 2).toNatClampNeg
  · rw [if_pos h, if_pos h]
    have h1 := z_cl (a := y.1 0 2) (by obtain ⟨-, -, -, -, -, -, q, -⟩ := hnu; exact q)
    have := hbk (m - 12) (by omega)
    omega
  · rw [if_neg h, if_neg h]; omega
theorem nz_lnR {y : ax_S} (hnu : pz_nu y) (hrw : pz_rw y) {r : Nat} (hr : r < (y.1 0 6).toNatClampNeg) : nz_ln y r < 18 ∧ (y.1 5 r).toNatClampNeg < 12 ∧ (-200000 ≤ (y.1 7 r).toInt ∧ (y.1 7 r).toInt ≤ (y.1 8 r).toInt ∧ (y.1 8 r).toInt ≤ 200000) := by
  obtain ⟨n1, n2, n3, n4, n5, n6, n7, n8, n9, n10, n11, n12⟩ := hnu
  have c6 := z_cl n9
  obtain ⟨a1, a2, a3, a4, a5, -⟩ := hrw r (by omega)
  have c5 := z_cl a3
  have c4 := z_cl a1
  unfold nz_ln
  rcases a5 with ⟨q1, q2⟩ | ⟨q1, q2, q3, q4⟩
  · rw [if_pos (by rw [z_eq, q1]; decide)]
    omega
  · have c := z_cl q1
    rw [if_neg (by rw [z_eq]; intro q; rw [q] at q1; exact absurd q1 (by decide))]
    omega
/-- the net holds a set's rows -/
def nz_Ld (x y : ax_S) (B : Int64) : Prop := nz_N x ∧ (∀ P : Nat → Nat → Int → Int → Prop, (∀ j, j < nz_n x → P (x.1 9 j).toNatClampNeg (x.1 10 j).toNatClampNeg (x.1 11 j).toInt (x.1 12 j).toInt) ↔ ∀ r, r < (y.1 0 6).toNatClampNeg → pz_tb B r = true → P (nz_ln y r) (y.1 5 r).toNatClampNeg (y.1 7 r).toInt (y.1 8 r).toInt) ∧ (∀ m, m < 18 → nz_V 13 x m = nz_lo y m ∧ nz_V 14 x m = nz_hi y m)
theorem nz_Ld_only {p : Nat} (hp : 15 ≤ p) {x t y : ax_S} {B : Int64} (h : z_only p x t) (hL : nz_Ld x y B) : nz_Ld t y B := by
  obtain ⟨l1, l2, l3⟩ := hL
  refine ⟨nz_N_only hp h l1, ?_, ?_⟩
  · rw [nz_n_only hp h, h.1 9 (by omega), h.1 10 (by omega), h.1 11 (by omega), h.1 12 (by omega)]
    exact l2
  · unfold nz_V
    rw [h.1 13 (by omega), h.1 14 (by omega)]
    exact l3
theorem nz_pot_rows (x : ax_S) (up : Int32) (u : Nat → Int) : nz_pot (nz_G x up) (2 * nz_n x) u ↔ ∀ j, j < nz_n x → (u (x.1 10 j).toNatClampNeg ≤ u (x.1 9 j).toNatClampNeg + (if up = 0 then -(x.1 11 j).toInt else (x.1 12 j).toInt)) ∧ (u (x.1 9 j).toNatClampNeg ≤ u (x.1 10 j).toNatClampNeg + (if up = 0 then (x.1 12 j).toInt else -(x.1 11 j).toInt)) := by
  constructor
  · intro h j hj
    have h0 := h (2 * j) (by omega)
    have h1 := h (2 * j + 1) (by omega)
    rw [nz_G0] at h0
    rw [nz_G1] at h1
    exact ⟨h0, h1⟩
  · intro h e he
    obtain ⟨h0, h1⟩ := h (e / 2) (by omega)
    by_cases hev : e % 2 = 0
    · have : e = 2 * (e / 2) := by omega
      rw [this, nz_G0]
      exact h0
    · have : e = 2 * (e / 2) + 1 := by omega
      rw [this, nz_G1]
      exact h1
theorem nz_pot1 {x y : ax_S} {B : Int64} (hL : nz_Ld x y B) (v : Nat → Int) : nz_pot (nz_G x 1) (2 * nz_n x) v ↔ nz_R y B v := by
  have h := hL.2.1 (fun a b X Y => X ≤ v b - v a ∧ v b - v a ≤ Y)
  rw [nz_pot_rows]
  unfold nz_R
  rw [← h]
  constructor
  · intro q j hj
    have := q j hj
    rw [if_neg (by decide), if_neg (by decide)] at this
    omega
  · intro q j hj
    have := q j hj
    rw [if_neg (by decide), if_neg (by decide)]
    omega
theorem nz_pot0 {x y : ax_S} {B : Int64} (hL : nz_Ld x y B) (v : Nat → Int) : nz_pot (nz_G x 0) (2 * nz_n x) (fun m => -v m) ↔ nz_R y B v := by
  have h := hL.2.1 (fun a b X Y => X ≤ v b - v a ∧ v b - v a ≤ Y)
  rw [nz_pot_rows]
  unfold nz_R
  rw [← h]
  constructor
  · intro q j hj
    have := q j hj
    rw [if_pos rfl, if_pos rfl] at this
    omega
  · intro q j hj
    have := q j hj
    rw [if_pos rfl, if_pos rfl]
    omega
/-- one row more in the net -/
theorem nz_addRow {x y : ax_S} (hI : pz_I x y) {t : ax_S} (ht : ∀ k, 19 ≤ k → t.1 k = x.1 k) {r n : Nat} (hr : r < (y.1 0 6).toNatClampNeg) (hn : n ≤ r) (hs : t.1 1 6 = nI n) :
    ∃ t', f_X6_addRow (nI r) t = some t' ∧ t'.2 = t.2 ∧ (∀ k, k ≠ 1 → k ≠ 9 → k ≠ 10 → k ≠ 11 → k ≠ 12 → t'.1 k = t.1 k) ∧ (∀ j, j ≠ 6 → t'.1 1 j = t.1 1 j) ∧ t'.1 1 6 = nI (n + 1) ∧
      (∀ j, j ≠ n → t'.1 9 j = t.1 9 j ∧ t'.1 10 j = t.1 10 j ∧ t'.1 11 j = t.1 11 j ∧ t'.1 12 j = t.1 12 j) ∧
      (t'.1 9 n).toNatClampNeg = nz_ln y r ∧ 0 ≤ (t'.1 9 n).toInt ∧ t'.1 10 n = y.1 5 r ∧ t'.1 11 n = y.1 7 r ∧ t'.1 12 n = y.1 8 r := by
  obtain ⟨hsc, har, hsh, hnu, hbk, hrw, htx⟩ := hI
  obtain ⟨a1, a2, a3, a4, a5, a6, a7, a8, a9, a10, -⟩ := har
  have hnu' := hnu
  obtain ⟨n1, n2, n3, n4, n5, n6, n7, n8, n9, n10, n11, n12⟩ := hnu
  have c6 := z_cl n9
  have hr40 : r < 40 := by omega
  have hrI : (nI r).toInt = (r : Int) := z_nI (by omega)
  have hnI : (nI n).toInt = (n : Int) := z_nI (by omega)
  have hrc := nI_cl (k := r) (by omega)
  have hnc := nI_cl (k := n) (by omega)
  have hrow := hrw r (by omega)
  obtain ⟨b1, b2, b3, b4, b5, -⟩ := hrow
  have go : ∀ v : Int32, v.toNatClampNeg = nz_ln y r → 0 ≤ v.toInt → ∃ t', j_X6_addRow_39 (nI r) v (t.1 1 6) t = some t' ∧ t'.2 = t.2 ∧ (∀ k, k ≠ 1 → k ≠ 9 → k ≠ 10 → k ≠ 11 → k ≠ 12 → t'.1 k = t.1 k) ∧ (∀ j, j ≠ 6 → t'.1 1 j = t.1 1 j) ∧ t'.1 1 6 = nI (n + 1) ∧
      (∀ j, j ≠ n → t'.1 9 j = t.1 9 j ∧ t'.1 10 j = t.1 10 j ∧ t'.1 11 j = t.1 11 j ∧ t'.1 12 j = t.1 12 j) ∧
      (t'.1 9 n).toNatClampNeg = nz_ln y r ∧ 0 ≤ (t'.1 9 n).toInt ∧ t'.1 10 n = y.1 5 r ∧ t'.1 11 n = y.1 7 r ∧ t'.1 12 n = y.1 8 r := by
    intro v hv hv0
    refine ⟨ax_ui (ax_ui (ax_ui (ax_ui (ax_ui t 9 n v) 10 n (y.1 5 r)) 11 n (y.1 7 r)) 12 n (y.1 8 r)) 1 6 (nI (n + 1)), ?_, rfl, ?_, ?_, ?_, ?_, ?_, ?_, ?_, ?_, ?_⟩
    · unfold j_X6_addRow_39
      rw [hs, z_si (Sd := cx_C) (x := t) (a := 9) (n := 40) rfl (by omega) (by omega), Option.bind_some, hnc]
      rw [z_ai (Sd := cx_C) (a := 20) (n := 40) rfl (by omega) (by omega), Option.bind_some, hrc]
      have e20 : (ax_ui t 9 n v).1 20 r = y.1 5 r := by rw [z_ui, if_neg (by omega), ht 20 (by omega), a5]
      have e1 : (ax_ui t 9 n v).1 1 6 = nI n := by rw [z_ui, if_neg (by omega), hs]
      rw [e20, e1, z_si (Sd := cx_C) (a := 10) (n := 40) rfl (by omega) (by omega), Option.bind_some, hnc]
      rw [z_ai (Sd := cx_C) (a := 22) (n := 40) rfl (by omega) (by omega), Option.bind_some, hrc]
      have e22 : (ax_ui (ax_ui t 9 n v) 10 n (y.1 5 r)).1 22 r = y.1 7 r := by rw [z_ui, if_neg (by omega), z_ui, if_neg (by omega), ht 22 (by omega), a7]
      have e2 : (ax_ui (ax_ui t 9 n v) 10 n (y.1 5 r)).1 1 6 = nI n := by rw [z_ui, if_neg (by omega), e1]
      rw [e22, e2, z_si (Sd := cx_C) (a := 11) (n := 40) rfl (by omega) (by omega), Option.bind_some, hnc]
      rw [z_ai (Sd := cx_C) (a := 23) (n := 40) rfl (by omega) (by omega), Option.bind_some, hrc]
      have e23 : (ax_ui (ax_ui (ax_ui t 9 n v) 10 n (y.1 5 r)) 11 n (y.1 7 r)).1 23 r = y.1 8 r := by rw [z_ui, if_neg (by omega), z_ui, if_neg (by omega), z_ui, if_neg (by omega), ht 23 (by omega), a8]
      have e3 : (ax_ui (ax_ui (ax_ui t 9 n v) 10 n (y.1 5 r)) 11 n (y.1 7 r)).1 1 6 = nI n := by rw [z_ui, if_neg (by omega), e2]
      rw [e23, e3, z_si (Sd := cx_C) (a := 12) (n := 40) rfl (by omega) (by omega), Option.bind_some, hnc]
      have e4 : (ax_ui (ax_ui (ax_ui (ax_ui t 9 n v) 10 n (y.1 5 r)) 11 n (y.1 7 r)) 12 n (y.1 8 r)).1 1 6 = nI n := by rw [z_ui, if_neg (by omega), e3]
      rw [e4, nI_s]
    · intro k k1 k9 k10 k11 k12
      funext j
      rw [z_ui, if_neg (by omega), z_ui, if_neg (by omega), z_ui, if_neg (by omega), z_ui, if_neg (by omega), z_ui, if_neg (by omega)]
    · intro j hj
      rw [z_ui, if_neg (by omega), z_ui, if_neg (by omega), z_ui, if_neg (by omega), z_ui, if_neg (by omega), z_ui, if_neg (by omega)]
    · rw [z_ui, if_pos ⟨rfl, rfl⟩]
    · intro j hj
      simp only [z_ui]
      refine ⟨?_, ?_, ?_, ?_⟩ <;> simp [hj]
    · simp only [z_ui]; simpa using hv
    · simp only [z_ui]; simpa using hv0
    · simp only [z_ui]; simp
    · simp only [z_ui]; simp
    · simp only [z_ui]; simp
  unfold f_X6_addRow
  rw [z_ai (Sd := cx_C) (x := t) (a := 21) (n := 40) rfl (by omega) (by omega), Option.bind_some, hrc]
  have e21 : t.1 21 r = y.1 6 r := by rw [ht 21 (by omega), a6]
  have e19 : t.1 19 r = y.1 4 r := by rw [ht 19 (by omega), a4]
  rw [e21]
  by_cases hz : y.1 6 r = (-1 : Int32)
  · rw [if_pos hz, z_ai (Sd := cx_C) (x := t) (a := 19) (n := 40) rfl (by omega) (by omega), Option.bind_some, hrc, e19]
    have h12 : ((12 : Int32) + y.1 4 r).toInt = 12 + (y.1 4 r).toInt := z_add (by simp only [Int32.reduceToInt]; omega) (by simp only [Int32.reduceToInt]; omega)
    apply go
    · unfold nz_ln
      rw [if_pos hz]
      have := z_cl (a := (12 : Int32) + y.1 4 r) (by omega)
      have := z_cl b1
      omega
    · omega
  · rw [if_neg hz]
    apply go
    · unfold nz_ln
      rw [if_neg hz]
    · rcases b5 with ⟨q, -⟩ | ⟨q, -⟩
      · exact absurd (by rw [z_eq, q]; decide) hz
      · exact q

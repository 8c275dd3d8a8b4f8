/-! doubts: what both sides count and gather -/
theorem z_on_mono (p : Nat → Bool) {a b : Nat} (h : a ≤ b) : z_on p a ≤ z_on p b := by
  obtain ⟨d, rfl⟩ : ∃ d, b = a + d := ⟨b - a, by omega⟩
  rw [z_on_add]
  omega
theorem z_on_s1 {p : Nat → Bool} {r : Nat} (h : p r = true) : z_on p (r + 1) = z_on p r + 1 := by
  show z_on p r + (if p r = true then 1 else 0) = _
  rw [if_pos h]
theorem z_on_s0 {p : Nat → Bool} {r : Nat} (h : ¬ p r = true) : z_on p (r + 1) = z_on p r := by
  show z_on p r + (if p r = true then 1 else 0) = _
  rw [if_neg h, Nat.add_zero]
theorem z_on_surj (p : Nat → Bool) : ∀ n i, i < z_on p n → ∃ r, r < n ∧ p r = true ∧ z_on p r = i := by
  intro n
  induction n with
  | zero => intro i h; exact absurd h (Nat.not_lt_zero i)
  | succ n ih =>
    intro i h
    by_cases q : i < z_on p n
    · obtain ⟨r, h1, h2, h3⟩ := ih i q
      exact ⟨r, by omega, h2, h3⟩
    · by_cases hp : p n = true
      · rw [z_on_s1 hp] at h
        exact ⟨n, by omega, hp, by omega⟩
      · rw [z_on_s0 hp] at h
        omega
theorem z_on_inj {p : Nat → Bool} {r r' : Nat} (h : p r = true) (h' : p r' = true) (e : z_on p r = z_on p r') : r = r' := by
  rcases Nat.lt_trichotomy r r' with q | q | q
  · have := z_on_mono p (show r + 1 ≤ r' by omega)
    rw [z_on_s1 h] at this
    omega
  · exact q
  · have := z_on_mono p (show r' + 1 ≤ r by omega)
    rw [z_on_s1 h'] at this
    omega
theorem z_cand (p : Nat → Bool) (n : Nat) : ∃ c : Nat → Nat, ∀ i, i < z_on p n → c i < n ∧ p (c i) = true ∧ z_on p (c i) = i := by
  have : ∀ i, ∃ r, i < z_on p n → r < n ∧ p r = true ∧ z_on p r = i := by
    intro i
    by_cases h : i < z_on p n
    · obtain ⟨r, q⟩ := z_on_surj p n i h
      exact ⟨r, fun _ => q⟩
    · exact ⟨0, fun q => absurd q h⟩
  exact Classical.skolem.mp this
theorem z_ibc2 : ∀ a : Fin 64, ∀ b : Fin 64, f_J6_bitCount_0f7a4 (nI (64 * a.1 + b.1)) = some (nI (z_on (64 * a.1 + b.1).testBit 12)) := by
  unfold f_J6_bitCount_0f7a4
  decide +kernel
theorem z_ibc {S : Nat} (h : S < 4096) : f_J6_bitCount_0f7a4 (nI S) = some (nI (z_on S.testBit 12)) := by
  have e := z_ibc2 ⟨S / 64, by omega⟩ ⟨S % 64, by omega⟩
  dsimp only at e
  rw [show 64 * (S / 64) + S % 64 = S by omega] at e
  exact e
theorem z_ones {S : Nat} : f_X10_ones (nI S) = some (nI (z_on S.testBit 12)) := by
  have key : ax_lp (b_X10_ones_4 (nI S)) ((0 : Int32), (0 : Int32)) = some (nI (z_on S.testBit 12)) := by
    refine z_for (f := b_X10_ones_4 (nI S)) (fun k => (nI (z_on S.testBit k), nI k)) 12 (fun k hk => ?_) ?_
    · have hkI : (nI k).toInt = (k : Int) := z_nI (by omega)
      have e12 : (12 : Int32).toInt = 12 := by decide
      unfold b_X10_ones_4
      dsimp only
      rw [if_neg (by rw [z_le, e12]; omega)]
      show _ = some (Sum.inl (nI (z_on S.testBit k + (if S.testBit k = true then 1 else 0)), nI (k + 1)))
      rw [← nI_s k]
      by_cases h : S.testBit k = true
      · rw [if_pos h, (z_pR1 (nI S) (by omega)).mpr (by rw [z_pb_nI' (by omega)]; exact h), nI_s]
      · have h' : S.testBit k = false := by
          cases q : S.testBit k with
          | false => rfl
          | true => exact absurd q h
        rw [if_neg h, (z_pR0 (nI S) (by omega)).mpr (by rw [z_pb_nI' (by omega)]; exact h'), z_nI0]; rfl
    · unfold b_X10_ones_4
      dsimp only
      rw [if_pos (by decide)]
  unfold f_X10_ones
  rw [key, Option.bind_some]
/-- the rows of picks, as bits -/
def nz_rb (c : Nat → Nat) (S : Nat) : Nat → Int64
  | 0 => 0
  | k + 1 => if S.testBit k = true then nz_rb c S k ||| ax_lshl 1 (nI (c k)) else nz_rb c S k
theorem nz_rb_tb {c : Nat → Nat} {S : Nat} {i : Nat} (hS : S.testBit i = true) : ∀ N, i < N → (∀ j, j < N → c j < 40) → pz_tb (nz_rb c S N) (c i) = true := by
  intro N
  induction N with
  | zero => intro h; omega
  | succ N ih =>
    intro hi hc
    rw [nz_rb]
    by_cases q : i = N
    · subst q
      rw [if_pos hS, z_tb_or, z_tb_one (by have := hc i (by omega); omega)]
      simp
    · have := ih (by omega) (fun j hj => hc j (by omega))
      split
      · rw [z_tb_or, this]; rfl
      · exact this
theorem nz_rb_ne {c : Nat → Nat} {S N : Nat} (h0 : S ≠ 0) (hS : S < 2 ^ N) (hc : ∀ j, j < N → c j < 40) : nz_rb c S N ≠ 0 := by
  have hex : ∃ i, S.testBit i = true := by
    apply Classical.byContradiction
    intro q
    apply h0
    apply Nat.eq_of_testBit_eq
    intro i
    rw [Nat.zero_testBit]
    cases h : S.testBit i with
    | false => rfl
    | true => exact absurd ⟨i, h⟩ q
  obtain ⟨i, hi⟩ := hex
  have hiN : i < N := by
    apply Classical.byContradiction
    intro q
    rw [Nat.testBit_lt_two_pow (Nat.lt_of_lt_of_le hS (Nat.pow_le_pow_right (by decide) (by omega)))] at hi
    exact absurd hi (by decide)
  intro q
  have := nz_rb_tb hi N hiN hc
  rw [q, z_tb_zero] at this
  exact absurd this (by decide)
theorem nz_rowsC {x : ax_S} {N S : Nat} {c : Nat → Nat} (hN : N ≤ 12) (h41 : x.1 4 1 = nI N) (h29 : ∀ i, i < N → x.1 29 i = nI (c i)) : f_X3_rowsOf (nI S) x = some (nz_rb c S N) := by
  have hNI : (nI N).toInt = (N : Int) := z_nI (by omega)
  have key : ax_lp (b_X3_rowsOf_5 (nI S) x) ((0 : Int64), (0 : Int32)) = some (nz_rb c S N) := by
    refine z_for (f := b_X3_rowsOf_5 (nI S) x) (fun k => (nz_rb c S k, nI k)) N (fun k hk => ?_) ?_
    · have hkI : (nI k).toInt = (k : Int) := z_nI (by omega)
      have hkc := nI_cl (k := k) (by omega)
      unfold b_X3_rowsOf_5
      dsimp only
      rw [h41, if_neg (by rw [z_le]; omega), nz_rb, ← nI_s k]
      by_cases h : S.testBit k = true
      · rw [if_neg (by rw [z_pC _ (by omega), z_pb_nI' (by omega), h]; decide), if_pos h, z_ai (Sd := cx_C) (n := 12) rfl (by omega) (by omega), Option.bind_some, hkc, h29 k hk]
      · have h' : S.testBit k = false := by
          cases q : S.testBit k with
          | false => rfl
          | true => exact absurd q h
        rw [if_pos (by rw [z_pC _ (by omega), z_pb_nI' (by omega)]; exact h'), if_neg h]
    · unfold b_X3_rowsOf_5
      dsimp only
      rw [h41, if_pos (by rw [z_le]; exact Int.le_refl _)]
  unfold f_X3_rowsOf
  rw [key, Option.bind_some]
theorem nz_bitsR {y : ax_S} {N S : Nat} {c : Nat → Nat} (hN : N ≤ 12) (h25 : y.1 0 25 = nI N) (h17 : ∀ i, i < N → y.1 17 i = nI (c i)) : f_X10_bitsOf (nI S) y = some (nz_rb c S N) := by
  have hNI : (nI N).toInt = (N : Int) := z_nI (by omega)
  have key : ax_lp (b_X10_bitsOf_5 (nI S) y) ((0 : Int64), (0 : Int32)) = some (nz_rb c S N) := by
    refine z_for (f := b_X10_bitsOf_5 (nI S) y) (fun k => (nz_rb c S k, nI k)) N (fun k hk => ?_) ?_
    · have hkI : (nI k).toInt = (k : Int) := z_nI (by omega)
      have hkc := nI_cl (k := k) (by omega)
      unfold b_X10_bitsOf_5
      dsimp only
      rw [h25, if_neg (by rw [z_le]; omega), nz_rb, ← nI_s k]
      by_cases h : S.testBit k = true
      · rw [if_pos ((z_pR1 (nI S) (by omega)).mpr (by rw [z_pb_nI' (by omega)]; exact h)), if_pos h, z_ai (Sd := cx_R) (n := 12) rfl (by omega) (by omega), Option.bind_some, hkc, h17 k hk]
      · rw [if_neg (by rw [z_pR1 _ (by omega), z_pb_nI' (by omega)]; exact h), if_neg h, Int64.or_zero]
    · unfold b_X10_bitsOf_5
      dsimp only
      rw [h25, if_pos (by rw [z_le]; exact Int.le_refl _)]
  unfold f_X10_bitsOf
  rw [key, Option.bind_some]
/-- trust together -/
def nz_tr (y : ax_S) (c : Nat → Nat) (S : Nat) : Nat → Int32
  | 0 => 0
  | k + 1 => if S.testBit k = true then nz_tr y c S k + y.1 3 (y.1 4 (c k)).toNatClampNeg else nz_tr y c S k
theorem nz_trC {x y : ax_S} (hI : pz_I x y) {N S : Nat} {c : Nat → Nat} (hN : N ≤ 12) (h41 : x.1 4 1 = nI N) (h29 : ∀ i, i < N → x.1 29 i = nI (c i)) (hc : ∀ i, i < N → c i < (y.1 0 6).toNatClampNeg) : f_X3_trustOf (nI S) x = some (nz_tr y c S N) := by
  obtain ⟨hsc, har, hsh, hnu, hbk, hrw, htx⟩ := hI
  have hnu' := hnu
  obtain ⟨n1, n2, n3, n4, n5, n6, n7, n8, n9, n10, n11, n12⟩ := hnu
  obtain ⟨a1, a2, a3, a4, -⟩ := id har
  have c6 := z_cl n9
  have hNI : (nI N).toInt = (N : Int) := z_nI (by omega)
  have key : ax_lp (b_X3_trustOf_5 (nI S) x) ((0 : Int32), (0 : Int32)) = some (nz_tr y c S N) := by
    refine z_for (f := b_X3_trustOf_5 (nI S) x) (fun k => (nz_tr y c S k, nI k)) N (fun k hk => ?_) ?_
    · have hkI : (nI k).toInt = (k : Int) := z_nI (by omega)
      have hkc := nI_cl (k := k) (by omega)
      have hck := hc k hk
      have hcI : (nI (c k)).toInt = (c k : Int) := z_nI (by omega)
      have hcc := nI_cl (k := c k) (by omega)
      obtain ⟨r1, -⟩ := nz_row1 hnu' hrw hck
      unfold b_X3_trustOf_5
      dsimp only
      rw [h41, if_neg (by rw [z_le]; omega), nz_tr, ← nI_s k]
      by_cases h : S.testBit k = true
      · rw [if_neg (by rw [z_pC _ (by omega), z_pb_nI' (by omega), h]; decide), if_pos h, z_ai (Sd := cx_C) (a := 29) (n := 12) rfl (by omega) (by omega), Option.bind_some, hkc, h29 k hk, z_ai (Sd := cx_C) (a := 19) (n := 40) rfl (by omega) (by omega), Option.bind_some, hcc, a4, z_ai (Sd := cx_C) (a := 28) (n := 6) rfl (by omega) (by omega), Option.bind_some, a3]
      · have h' : S.testBit k = false := by
          cases q : S.testBit k with
          | false => rfl
          | true => exact absurd q h
        rw [if_pos (by rw [z_pC _ (by omega), z_pb_nI' (by omega)]; exact h'), if_neg h]
    · unfold b_X3_trustOf_5
      dsimp only
      rw [h41, if_pos (by rw [z_le]; exact Int.le_refl _)]
  unfold f_X3_trustOf
  rw [key, Option.bind_some]
theorem nz_trR {y : ax_S} (hnu : pz_nu y) (hrw : pz_rw y) {N S : Nat} {c : Nat → Nat} (hN : N ≤ 12) (h25 : y.1 0 25 = nI N) (h17 : ∀ i, i < N → y.1 17 i = nI (c i)) (hc : ∀ i, i < N → c i < (y.1 0 6).toNatClampNeg) : f_X10_trustOfSet (nI S) y = some (nz_tr y c S N) := by
  have hnu' := hnu
  obtain ⟨n1, n2, n3, n4, n5, n6, n7, n8, n9, n10, n11, n12⟩ := hnu
  have c6 := z_cl n9
  have hNI : (nI N).toInt = (N : Int) := z_nI (by omega)
  have key : ax_lp (b_X10_trustOfSet_4 (nI S) y) ((0 : Int32), (0 : Int32)) = some (nz_tr y c S N) := by
    refine z_for (f := b_X10_trustOfSet_4 (nI S) y) (fun k => (nz_tr y c S k, nI k)) N (fun k hk => ?_) ?_
    · have hkI : (nI k).toInt = (k : Int) := z_nI (by omega)
      have hkc := nI_cl (k := k) (by omega)
      have hck := hc k hk
      have hcI : (nI (c k)).toInt = (c k : Int) := z_nI (by omega)
      have hcc := nI_cl (k := c k) (by omega)
      obtain ⟨r1, -⟩ := nz_row1 hnu' hrw hck
      unfold b_X10_trustOfSet_4
      dsimp only
      rw [h25, if_neg (by rw [z_le]; omega), nz_tr, ← nI_s k]
      by_cases h : S.testBit k = true
      · rw [if_pos ((z_pR1 (nI S) (by omega)).mpr (by rw [z_pb_nI' (by omega)]; exact h)), if_pos h, z_ai (Sd := cx_R) (a := 17) (n := 12) rfl (by omega) (by omega), Option.bind_some, hkc, h17 k hk, z_ai (Sd := cx_R) (a := 4) (n := 40) rfl (by omega) (by omega), Option.bind_some, hcc, z_ai (Sd := cx_R) (a := 3) (n := 6) rfl (by omega) (by omega), Option.bind_some]
      · rw [if_neg (by rw [z_pR1 _ (by omega), z_pb_nI' (by omega)]; exact h), if_neg h, Int32.add_zero]
    · unfold b_X10_trustOfSet_4
      dsimp only
      rw [h25, if_pos (by rw [z_le]; exact Int.le_refl _)]
  unfold f_X10_trustOfSet
  rw [key, Option.bind_some]
/-- blame, on each side -/
theorem nz_blC {x : ax_S} {N S : Nat} {c : Nat → Nat} (hN : N ≤ 12) (h41 : x.1 4 1 = nI N) (h29 : ∀ i, i < N → x.1 29 i = nI (c i)) (hc : ∀ i, i < N → c i < 40) (hinj : ∀ i j, i < N → j < N → c i = c j → i = j) : ∃ e, f_X3_blameAll (nI S) x = some e ∧ z_only 30 x e ∧ ∀ i, i < N → e.1 30 (c i) = if S.testBit i = true then x.1 30 (c i) + 1 else x.1 30 (c i) := by
  have hNI : (nI N).toInt = (N : Int) := z_nI (by omega)
  obtain ⟨e, k1, k2, k3⟩ := z_inv (f := b_X3_blameAll_2 (nI S)) (fun q => ∃ k, k ≤ N ∧ q.1 = nI k ∧ z_only 30 x q.2 ∧ ∀ i, i < N → q.2.1 30 (c i) = if i < k ∧ S.testBit i = true then x.1 30 (c i) + 1 else x.1 30 (c i))
    (fun e => z_only 30 x e ∧ ∀ i, i < N → e.1 30 (c i) = if S.testBit i = true then x.1 30 (c i) + 1 else x.1 30 (c i)) (fun q => N - q.1.toNatClampNeg) (by
    rintro ⟨_, u⟩ ⟨k, hk, g1, g2, g3⟩
    dsimp only at g1 g2 g3
    subst g1
    have hkI : (nI k).toInt = (k : Int) := z_nI (by omega)
    have hkc := nI_cl (k := k) (by omega)
    unfold b_X3_blameAll_2
    dsimp only
    rw [show u.1 4 1 = nI N by rw [g2.1 4 (by omega), h41]]
    by_cases hl : nI N ≤ nI k
    · left
      rw [if_pos hl]
      rw [z_le, hkI, hNI] at hl
      obtain rfl : k = N := by omega
      refine ⟨_, rfl, g2, fun i hi => ?_⟩
      rw [g3 i hi]
      by_cases z : S.testBit i = true
      · rw [if_pos z, if_pos ⟨hi, z⟩]
      · rw [if_neg z, if_neg (fun w => z w.2)]
    right
    rw [if_neg hl]
    rw [z_le, hkI, hNI] at hl
    have ms : N - (nI k + 1).toNatClampNeg < N - (nI k).toNatClampNeg := by
      rw [nI_s, nI_cl (by omega), hkc]; omega
    by_cases h : S.testBit k = true
    · have hck := hc k (by omega)
      have hcI : (nI (c k)).toInt = (c k : Int) := z_nI (by omega)
      have hcc := nI_cl (k := c k) (by omega)
      rw [if_neg (by rw [z_pC _ (by omega), z_pb_nI' (by omega), h]; decide), z_ai (Sd := cx_C) (a := 29) (n := 12) rfl (by omega) (by omega), Option.bind_some, hkc, g2.1 29 (by omega), h29 k (by omega), z_ai (Sd := cx_C) (a := 30) (n := 40) rfl (by omega) (by omega), Option.bind_some, z_si (Sd := cx_C) (n := 40) rfl (by omega) (by omega), Option.bind_some, hcc]
      refine ⟨_, rfl, ⟨k + 1, by omega, nI_s k, z_only_tr g2 (z_only_ui 30 _ _ _), ?_⟩, by first | exact ms | (rw [hkc] at ms; exact ms)⟩
      intro i hi
      show (ax_ui u 30 (c k) _).1 30 (c i) = _
      rw [z_ui]
      by_cases q : i = k
      · subst q
        rw [if_pos ⟨rfl, rfl⟩, g3 i hi, if_neg (fun w => by omega), if_pos ⟨by omega, h⟩]
      · rw [if_neg (fun w => q (hinj i k hi (by omega) w.2)), g3 i hi]
        by_cases z : i < k ∧ S.testBit i = true
        · rw [if_pos z, if_pos ⟨by omega, z.2⟩]
        · rw [if_neg z, if_neg (fun w => z ⟨by omega, w.2⟩)]
    · have h' : S.testBit k = false := by
        cases q : S.testBit k with
        | false => rfl
        | true => exact absurd q h
      rw [if_pos (by rw [z_pC _ (by omega), z_pb_nI' (by omega)]; exact h')]
      refine ⟨_, rfl, ⟨k + 1, by omega, nI_s k, g2, ?_⟩, by first | exact ms | (rw [hkc] at ms; exact ms)⟩
      intro i hi
      show u.1 30 (c i) = _
      rw [g3 i hi]
      by_cases z : i < k ∧ S.testBit i = true
      · rw [if_pos z, if_pos ⟨by omega, z.2⟩]
      · rw [if_neg z, if_neg (fun w => z ⟨by
          have : i ≠ k := fun q => by rw [q] at w; exact h w.2
          omega, w.2⟩)])
    (a := ((0 : Int32), x)) ⟨0, Nat.zero_le _, rfl, z_only_rf 30 x, fun i _ => by rw [if_neg (fun w => by omega)]⟩
  refine ⟨e, ?_, k2, k3⟩
  unfold f_X3_blameAll
  rw [k1, Option.bind_some]
theorem nz_blR {y : ax_S} {N S : Nat} (hN : N ≤ 12) (h25 : y.1 0 25 = nI N) (l1 : Int64) (l3 l4 l5 : Int32) : ∃ e, ax_lp (b_X10_doubtsNow_186 l1 l3 l4 l5 (nI S)) ((0 : Int32), y) = some e ∧ z_only 18 y e ∧ ∀ i, i < N → e.1 18 i = if S.testBit i = true then y.1 18 i + 1 else y.1 18 i := by
  have hNI : (nI N).toInt = (N : Int) := z_nI (by omega)
  exact z_inv (f := b_X10_doubtsNow_186 l1 l3 l4 l5 (nI S)) (fun q => ∃ k, k ≤ N ∧ q.1 = nI k ∧ z_only 18 y q.2 ∧ ∀ i, i < N → q.2.1 18 i = if i < k ∧ S.testBit i = true then y.1 18 i + 1 else y.1 18 i)
    (fun e => z_only 18 y e ∧ ∀ i, i < N → e.1 18 i = if S.testBit i = true then y.1 18 i + 1 else y.1 18 i) (fun q => N - q.1.toNatClampNeg) (by
    rintro ⟨_, u⟩ ⟨k, hk, g1, g2, g3⟩
    dsimp only at g1 g2 g3
    subst g1
    have hkI : (nI k).toInt = (k : Int) := z_nI (by omega)
    have hkc := nI_cl (k := k) (by omega)
    unfold b_X10_doubtsNow_186
    dsimp only
    rw [show u.1 0 25 = nI N by rw [g2.1 0 (by omega), h25]]
    by_cases hl : nI N ≤ nI k
    · left
      rw [if_pos hl]
      rw [z_le, hkI, hNI] at hl
      obtain rfl : k = N := by omega
      refine ⟨_, rfl, g2, fun i hi => ?_⟩
      rw [g3 i hi]
      by_cases z : S.testBit i = true
      · rw [if_pos z, if_pos ⟨hi, z⟩]
      · rw [if_neg z, if_neg (fun w => z w.2)]
    right
    rw [if_neg hl]
    rw [z_le, hkI, hNI] at hl
    have ms : N - (nI k + 1).toNatClampNeg < N - (nI k).toNatClampNeg := by
      rw [nI_s, nI_cl (by omega), hkc]; omega
    rw [z_ai (Sd := cx_R) (n := 12) rfl (by omega) (by omega), Option.bind_some, z_si (Sd := cx_R) (n := 12) rfl (by omega) (by omega), Option.bind_some, hkc]
    refine ⟨_, rfl, ⟨k + 1, by omega, nI_s k, z_only_tr g2 (z_only_ui 18 _ _ _), ?_⟩, by first | exact ms | (rw [hkc] at ms; exact ms)⟩
    intro i hi
    show (ax_ui u 18 k _).1 18 i = _
    rw [z_ui]
    by_cases q : i = k
    · subst q
      rw [if_pos ⟨rfl, rfl⟩, g3 i hi, if_neg (fun w => by omega)]
      by_cases h : S.testBit i = true
      · rw [if_pos ⟨by omega, h⟩, (z_pR1 (nI S) (by omega)).mpr (by rw [z_pb_nI' (by omega)]; exact h)]
      · have h' : S.testBit i = false := by
          cases q : S.testBit i with
          | false => rfl
          | true => exact absurd q h
        rw [if_neg (fun w => h w.2), (z_pR0 (nI S) (by omega)).mpr (by rw [z_pb_nI' (by omega)]; exact h'), Int32.add_zero]
    · rw [if_neg (fun w => q w.2), g3 i hi]
      by_cases z : i < k ∧ S.testBit i = true
      · rw [if_pos z, if_pos ⟨by omega, z.2⟩]
      · rw [if_neg z, if_neg (fun w => z ⟨by omega, w.2⟩)])
    (a := ((0 : Int32), y)) ⟨0, Nat.zero_le _, rfl, z_only_rf 18 y, fun i _ => by rw [if_neg (fun w => by omega)]⟩
/-- candidates, on each side -/
theorem nz_candC {x : ax_S} {K : Int64} (h12 : z_on (pz_tb K) 40 ≤ 12) (h41 : x.1 4 1 = 0) : ∃ e, ax_lp (b_X3_search_3 K) ((0 : Int32), x) = some e ∧ (∀ k, k ≠ 4 → k ≠ 29 → e.1 k = x.1 k) ∧ (∀ j, j ≠ 1 → e.1 4 j = x.1 4 j) ∧ e.2 = x.2 ∧ e.1 4 1 = nI (z_on (pz_tb K) 40) ∧ ∀ r, r < 40 → pz_tb K r = true → e.1 29 (z_on (pz_tb K) r) = nI r := by
  exact z_inv (f := b_X3_search_3 K) (fun q => ∃ r, r ≤ 40 ∧ q.1 = nI r ∧ (∀ k, k ≠ 4 → k ≠ 29 → q.2.1 k = x.1 k) ∧ (∀ j, j ≠ 1 → q.2.1 4 j = x.1 4 j) ∧ q.2.2 = x.2 ∧ q.2.1 4 1 = nI (z_on (pz_tb K) r) ∧ ∀ r', r' < r → pz_tb K r' = true → q.2.1 29 (z_on (pz_tb K) r') = nI r')
    (fun e => (∀ k, k ≠ 4 → k ≠ 29 → e.1 k = x.1 k) ∧ (∀ j, j ≠ 1 → e.1 4 j = x.1 4 j) ∧ e.2 = x.2 ∧ e.1 4 1 = nI (z_on (pz_tb K) 40) ∧ ∀ r, r < 40 → pz_tb K r = true → e.1 29 (z_on (pz_tb K) r) = nI r) (fun q => 40 - q.1.toNatClampNeg) (by
    rintro ⟨_, u⟩ ⟨r, hr, g1, g2, g3, g4, g5, g6⟩
    dsimp only at g1 g2 g3 g4 g5 g6
    subst g1
    have hrI : (nI r).toInt = (r : Int) := z_nI (by omega)
    have hrc := nI_cl (k := r) (by omega)
    have e40 : (40 : Int32).toInt = 40 := by decide
    have e12 : (12 : Int32).toInt = 12 := by decide
    unfold b_X3_search_3
    dsimp only
    by_cases hl : (40 : Int32) ≤ nI r
    · left
      rw [if_pos hl]
      rw [z_le, hrI, e40] at hl
      obtain rfl : r = 40 := by omega
      exact ⟨_, rfl, g2, g3, g4, g5, g6⟩
    right
    rw [if_neg hl]
    rw [z_le, hrI, e40] at hl
    have ms : 40 - (nI r + 1).toNatClampNeg < 40 - (nI r).toNatClampNeg := by
      rw [nI_s, nI_cl (by omega), hrc]; omega
    by_cases hb : lg_cmp (ax_lushr K (nI r) &&& 1) 0 = 0
    · rw [if_pos hb]
      rw [z_tC K (by omega)] at hb
      have hb' : ¬ pz_tb K r = true := by rw [hb]; decide
      refine ⟨_, rfl, ⟨r + 1, by omega, nI_s r, g2, g3, g4, ?_, ?_⟩, by first | exact ms | (rw [hrc] at ms; exact ms)⟩
      · rw [z_on_s0 hb']; exact g5
      · intro r' h1 h2
        have : r' ≠ r := fun q => by rw [q] at h2; exact hb' h2
        exact g6 r' (by omega) h2
    · rw [if_neg hb]
      rw [z_tC K (by omega)] at hb
      have hb' : pz_tb K r = true := by
        cases q : pz_tb K r with
        | true => rfl
        | false => exact absurd q hb
      have hm := z_on_mono (pz_tb K) (show r + 1 ≤ 40 by omega)
      rw [z_on_s1 hb'] at hm
      have hzI : (nI (z_on (pz_tb K) r)).toInt = (z_on (pz_tb K) r : Int) := z_nI (by omega)
      have hzc := nI_cl (k := z_on (pz_tb K) r) (by omega)
      rw [g5, if_neg (by rw [z_le, hzI, e12]; omega), z_si (Sd := cx_C) (n := 12) rfl (by omega) (by omega), Option.bind_some, hzc]
      refine ⟨_, rfl, ⟨r + 1, by omega, nI_s r, ?_, ?_, g4, ?_, ?_⟩, by first | exact ms | (rw [hrc] at ms; exact ms)⟩
      · intro k h1 h2
        rw [← g2 k h1 h2]
        funext j
        simp only [z_ui]
        simp [h1, h2]
      · intro j hj
        rw [← g3 j hj]
        simp only [z_ui]
        simp [hj]
      · simp only [z_ui]
        simp
        rw [g5, z_on_s1 hb', nI_s]
      · intro r' h1 h2
        simp only [z_ui]
        by_cases q : r' = r
        · subst q
          simp
        · have : z_on (pz_tb K) r' ≠ z_on (pz_tb K) r := fun w => q (z_on_inj h2 hb' w)
          simp [this]
          exact g6 r' (by omega) h2)
    (a := ((0 : Int32), x)) ⟨0, by omega, rfl, fun _ _ _ => rfl, fun _ _ => rfl, rfl, h41, fun r' h _ => absurd h (Nat.not_lt_zero r')⟩
theorem nz_candR {y : ax_S} {K : Int64} {R : Nat} (hR : R ≤ 40) (h06 : y.1 0 6 = nI R) (h25 : y.1 0 25 = 0) : ∃ e, ax_lp (b_X10_doubtsNow_12 K) ((0 : Int32), y) = some e ∧
    ((z_on (pz_tb K) R ≤ 12 ∧ ∃ s, e = .inl s ∧ (∀ k, k ≠ 0 → k ≠ 17 → k ≠ 18 → s.1 k = y.1 k) ∧ (∀ j, j ≠ 25 → s.1 0 j = y.1 0 j) ∧ s.2 = y.2 ∧ s.1 0 25 = nI (z_on (pz_tb K) R) ∧ (∀ r, r < R → pz_tb K r = true → s.1 17 (z_on (pz_tb K) r) = nI r) ∧ ∀ i, i < z_on (pz_tb K) R → s.1 18 i = 0) ∨
     (12 < z_on (pz_tb K) R ∧ ∃ s, e = .inr (-4, s) ∧ (∀ k, k ≠ 0 → k ≠ 17 → k ≠ 18 → s.1 k = y.1 k) ∧ (∀ j, j ≠ 25 → s.1 0 j = y.1 0 j))) := by
  have hRI : (nI R).toInt = (R : Int) := z_nI (by omega)
  exact z_inv (f := b_X10_doubtsNow_12 K) (fun q => ∃ r, r ≤ R ∧ q.1 = nI r ∧ z_on (pz_tb K) r ≤ 12 ∧ (∀ k, k ≠ 0 → k ≠ 17 → k ≠ 18 → q.2.1 k = y.1 k) ∧ (∀ j, j ≠ 25 → q.2.1 0 j = y.1 0 j) ∧ q.2.2 = y.2 ∧ q.2.1 0 25 = nI (z_on (pz_tb K) r) ∧ (∀ r', r' < r → pz_tb K r' = true → q.2.1 17 (z_on (pz_tb K) r') = nI r') ∧ ∀ i, i < z_on (pz_tb K) r → q.2.1 18 i = 0)
    (fun e => (z_on (pz_tb K) R ≤ 12 ∧ ∃ s, e = .inl s ∧ (∀ k, k ≠ 0 → k ≠ 17 → k ≠ 18 → s.1 k = y.1 k) ∧ (∀ j, j ≠ 25 → s.1 0 j = y.1 0 j) ∧ s.2 = y.2 ∧ s.1 0 25 = nI (z_on (pz_tb K) R) ∧ (∀ r, r < R → pz_tb K r = true → s.1 17 (z_on (pz_tb K) r) = nI r) ∧ ∀ i, i < z_on (pz_tb K) R → s.1 18 i = 0) ∨
     (12 < z_on (pz_tb K) R ∧ ∃ s, e = .inr (-4, s) ∧ (∀ k, k ≠ 0 → k ≠ 17 → k ≠ 18 → s.1 k = y.1 k) ∧ (∀ j, j ≠ 25 → s.1 0 j = y.1 0 j))) (fun q => R - q.1.toNatClampNeg) (by
    rintro ⟨_, u⟩ ⟨r, hr, g1, g0, g2, g3, g4, g5, g6, g7⟩
    dsimp only at g1 g2 g3 g4 g5 g6 g7
    subst g1
    have hrI : (nI r).toInt = (r : Int) := z_nI (by omega)
    have hrc := nI_cl (k := r) (by omega)
    have e12 : (12 : Int32).toInt = 12 := by decide
    unfold b_X10_doubtsNow_12
    dsimp only
    rw [show u.1 0 6 = nI R by rw [g3 6 (by omega), h06]]
    by_cases hl : nI R ≤ nI r
    · left
      rw [if_pos hl]
      rw [z_le, hrI, hRI] at hl
      obtain rfl : r = R := by omega
      exact ⟨_, rfl, Or.inl ⟨g0, _, rfl, g2, g3, g4, g5, g6, g7⟩⟩
    rw [if_neg hl]
    rw [z_le, hrI, hRI] at hl
    have ms : R - (nI r + 1).toNatClampNeg < R - (nI r).toNatClampNeg := by
      rw [nI_s, nI_cl (by omega), hrc]; omega
    by_cases hb : lg_cmp (ax_lshr K (nI r) &&& 1) 1 = 0
    · rw [if_pos hb]
      rw [z_tR K (by omega)] at hb
      have hzI : (nI (z_on (pz_tb K) r)).toInt = (z_on (pz_tb K) r : Int) := z_nI (by omega)
      have hzc := nI_cl (k := z_on (pz_tb K) r) (by omega)
      have hm := z_on_mono (pz_tb K) (show r + 1 ≤ R by omega)
      rw [z_on_s1 hb] at hm
      rw [g5]
      by_cases hf : nI (z_on (pz_tb K) r) = (12 : Int32)
      · left
        rw [if_pos hf]
        rw [z_eq, hzI, e12] at hf
        exact ⟨_, rfl, Or.inr ⟨by omega, _, rfl, g2, g3⟩⟩
      · right
        rw [if_neg hf]
        rw [z_eq, hzI, e12] at hf
        have e25 : (ax_ui u 17 (z_on (pz_tb K) r) (nI r)).1 0 25 = nI (z_on (pz_tb K) r) := by
          rw [(z_only_ui 17 _ _ u).1 0 (by omega), g5]
        rw [z_si (Sd := cx_R) (n := 12) rfl (by omega) (by omega), Option.bind_some, hzc, e25, z_si (Sd := cx_R) (n := 12) rfl (by omega) (by omega), Option.bind_some, hzc]
        refine ⟨_, rfl, ⟨r + 1, by omega, nI_s r, ?_, ?_, ?_, g4, ?_, ?_, ?_⟩, by first | exact ms | (rw [hrc] at ms; exact ms)⟩
        · rw [z_on_s1 hb]; omega
        · intro k h1 h2 h3
          rw [← g2 k h1 h2 h3]
          funext j
          simp only [z_ui]
          simp [h1, h2, h3]
        · intro j hj
          rw [← g3 j hj]
          simp only [z_ui]
          simp [hj]
        · simp only [z_ui]
          simp
          rw [g5, z_on_s1 hb, nI_s]
        · intro r' h1 h2
          simp only [z_ui]
          by_cases q : r' = r
          · subst q
            simp
          · have : z_on (pz_tb K) r' ≠ z_on (pz_tb K) r := fun w => q (z_on_inj h2 hb w)
            simp [this]
            exact g6 r' (by omega) h2
        · intro i hi
          rw [z_on_s1 hb] at hi
          simp only [z_ui]
          by_cases q : i = z_on (pz_tb K) r
          · simp [q]
          · simp [q]
            exact g7 i (by omega)
    · right
      rw [if_neg hb]
      rw [z_tR K (by omega)] at hb
      refine ⟨_, rfl, ⟨r + 1, by omega, nI_s r, ?_, g2, g3, g4, ?_, ?_, ?_⟩, by first | exact ms | (rw [hrc] at ms; exact ms)⟩
      · rw [z_on_s0 hb]; exact g0
      · rw [z_on_s0 hb]; exact g5
      · intro r' h1 h2
        have : r' ≠ r := fun q => by rw [q] at h2; exact hb h2
        exact g6 r' (by omega) h2
      · rw [z_on_s0 hb]; exact g7)
    (a := ((0 : Int32), y)) ⟨0, by omega, rfl, Nat.zero_le _, fun _ _ _ _ => rfl, fun _ _ => rfl, rfl, h25, fun r' h _ => absurd h (Nat.not_lt_zero r'), fun i h => absurd h (Nat.not_lt_zero i)⟩

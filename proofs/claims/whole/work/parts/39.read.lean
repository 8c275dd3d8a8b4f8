theorem pz_item {x y : ax_S} (hI : pz_I x y) {p q : Int32} (hp : 0 ≤ p.toInt ∧ p.toInt < 4) (hq : 0 ≤ q.toInt ∧ q.toInt < 40) : f_X8_item p q x = some (y.1 25 (40 * p.toNatClampNeg + q.toNatClampNeg)) := by
  obtain ⟨hsc, har, hsh, hnu, hbk, hrw, htx⟩ := id hI
  obtain ⟨a1, a2, a3, a4, a5, a6, a7, a8, a9, a10, a11, a12, a13⟩ := id har
  have c0 := z_cl hp.1
  have c1 := z_cl hq.1
  have e2 := z_40 hp hq
  have h0 : (0 : Int) ≤ (40 * p + q).toInt := by omega
  have e3 := z_cl h0
  have e5 : (40 * p + q).toNatClampNeg = 40 * p.toNatClampNeg + q.toNatClampNeg := by omega
  have e4 := z_ai (Sd := cx_C) (x := x) (a := 39) (n := 160) (i := 40 * p + q) rfl h0 (by omega)
  unfold f_X8_item
  rw [Int32.mul_comm, e4, Option.bind_some, e5, a13]
theorem pz_read_go {p : Int32} (hp : 0 ≤ p.toInt ∧ p.toInt < 4) (w : Nat) (hw : w ≤ 8) (S : Int) (hS1 : (5 * w : Int) ≤ S) (hS2 : S < 5 * w + 5) : ∀ (m n : Nat) (x y : ax_S), n + m = w → pz_I x y → (y.1 24 p.toNatClampNeg).toInt = S → ∃ r x' y',
    (ax_lp (b_X9_read_41 p (nI w)) (nI n, x)).bind (Sum.elim (fun e => some (nI w, e)) (fun r => some r)) = some (r, x') ∧
    (ax_lp (b_X10_read_32 p) (nI n, 40 * p + nI (5 * n), y)).bind (Sum.elim (fun e => some (e.1, e.2)) (fun r => some r)) = some (r, y') ∧ pz_I x' y' := by
  intro m
  induction m with
  | zero =>
    intro n x y hn hI hS
    obtain rfl : n = w := by omega
    have c0 := z_cl hp.1
    have en := z_nI (n := n) (by omega)
    have e5 := z_nI (n := 5 * n) (by omega)
    have e24 := z_ai (Sd := cx_R) (x := y) (a := 24) (n := 4) (i := p) rfl hp.1 (by omega)
    have g : (40 * p).toInt = 40 * p.toInt := by
      rw [z_mul] <;> simp only [Int32.reduceToInt] <;> omega
    have g1 : (40 * p + y.1 24 p.toNatClampNeg).toInt = 40 * p.toInt + S := by
      rw [z_add (by rw [g, hS]; omega) (by rw [g, hS]; omega), g, hS]
    have g2 : (40 * p + nI (5 * n)).toInt = 40 * p.toInt + 5 * n := by
      rw [z_add (by rw [g, e5]; omega) (by rw [g, e5]; omega), g, e5]; omega
    have g3 : (40 * p + nI (5 * n) + 4).toInt = 40 * p.toInt + 5 * n + 4 := by
      rw [z_add (by rw [g2]; simp only [Int32.reduceToInt]; omega) (by rw [g2]; simp only [Int32.reduceToInt]; omega), g2]; rfl
    refine ⟨nI n, x, y, ?_, ?_, hI⟩
    · have : b_X9_read_41 p (nI n) (nI n, x) = some (.inr (.inl x)) := by
        unfold b_X9_read_41
        dsimp only
        rw [if_pos (by rw [z_le]; omega)]
      rw [z_lp, this]
      rfl
    · have : b_X10_read_32 p (nI n, 40 * p + nI (5 * n), y) = some (.inr (.inl (nI n, y))) := by
        unfold b_X10_read_32
        dsimp only
        rw [e24, Option.bind_some, if_pos (by rw [z_le, g1, g3]; omega)]
      rw [z_lp, this]
      rfl
  | succ m ih =>
    intro n x y hn hI hS
    have c0 := z_cl hp.1
    have en := z_nI (n := n) (by omega)
    have ew := z_nI (n := w) (by omega)
    have e5 := z_nI (n := 5 * n) (by omega)
    have e24 := z_ai (Sd := cx_R) (x := y) (a := 24) (n := 4) (i := p) rfl hp.1 (by omega)
    have g : (40 * p).toInt = 40 * p.toInt := by
      rw [z_mul] <;> simp only [Int32.reduceToInt] <;> omega
    have g1 : (40 * p + y.1 24 p.toNatClampNeg).toInt = 40 * p.toInt + S := by
      rw [z_add (by rw [g, hS]; omega) (by rw [g, hS]; omega), g, hS]
    have g2 : (40 * p + nI (5 * n)).toInt = 40 * p.toInt + 5 * n := by
      rw [z_add (by rw [g, e5]; omega) (by rw [g, e5]; omega), g, e5]; omega
    have ga : ∀ (k : Int32), 0 ≤ k.toInt → k.toInt ≤ 5 → (40 * p + nI (5 * n) + k).toInt = 40 * p.toInt + 5 * n + k.toInt := fun k h1 h2 => by
      rw [z_add (by rw [g2]; omega) (by rw [g2]; omega), g2]
    have gm : (nI n * 5).toInt = 5 * n := by
      rw [z_mul] <;> simp only [Int32.reduceToInt, en] <;> omega
    have gb : ∀ (k : Int32), 0 ≤ k.toInt → k.toInt ≤ 5 → (nI n * 5 + k).toInt = 5 * n + k.toInt := fun k h1 h2 => by
      rw [z_add (by rw [gm]; omega) (by rw [gm]; omega), gm]
    -- what both read
    have rC : ∀ (k : Int32), 0 ≤ k.toInt → k.toInt ≤ 4 → f_X8_item p (nI n * 5 + k) x = some (y.1 25 (40 * p.toNatClampNeg + 5 * n + k.toNatClampNeg)) := fun k h1 h2 => by
      have q1 := gb k h1 (by omega)
      have q2 := z_cl (a := nI n * 5 + k) (by omega)
      have q3 := z_cl h1
      rw [pz_item hI hp ⟨by omega, by omega⟩]
      refine congrArg (fun z => some (y.1 25 z)) ?_
      omega
    have rC0 : f_X8_item p (nI n * 5) x = some (y.1 25 (40 * p.toNatClampNeg + 5 * n)) := by
      have q2 := z_cl (a := nI n * 5) (by omega)
      rw [pz_item hI hp ⟨by omega, by omega⟩]
      refine congrArg (fun z => some (y.1 25 z)) ?_
      omega
    have rR : ∀ (k : Int32), 0 ≤ k.toInt → k.toInt ≤ 4 → ax_ai cx_R y 25 (40 * p + nI (5 * n) + k) = some (y.1 25 (40 * p.toNatClampNeg + 5 * n + k.toNatClampNeg)) := fun k h1 h2 => by
      have q1 := ga k h1 (by omega)
      have q2 := z_cl (a := 40 * p + nI (5 * n) + k) (by omega)
      have q3 := z_cl h1
      rw [z_ai (Sd := cx_R) (x := y) (a := 25) (n := 160) rfl (by omega) (by omega)]
      refine congrArg (fun z => some (y.1 25 z)) ?_
      omega
    have rR0 : ax_ai cx_R y 25 (40 * p + nI (5 * n)) = some (y.1 25 (40 * p.toNatClampNeg + 5 * n)) := by
      have q2 := z_cl (a := 40 * p + nI (5 * n)) (by omega)
      rw [z_ai (Sd := cx_R) (x := y) (a := 25) (n := 160) rfl (by omega) (by omega)]
      refine congrArg (fun z => some (y.1 25 z)) ?_
      omega
    have g3 := ga 4 (by decide) (by decide)
    rw [show (4 : Int32).toInt = 4 from by decide] at g3
    have nx : 40 * p + nI (5 * n) + 5 = 40 * p + nI (5 * (n + 1)) := by
      have q := ga 5 (by decide) (by decide)
      rw [show (5 : Int32).toInt = 5 from by decide] at q
      have q6 := z_nI (n := 5 * (n + 1)) (by omega)
      rw [z_eq, q, z_add (by rw [g, q6]; omega) (by rw [g, q6]; omega), g, q6]
      omega
    have key : ∃ r x' y', f_X9_tellFromSheet p (nI n * 5) x = some (r, x') ∧ b_X10_read_32 p (nI n, 40 * p + nI (5 * n), y) = (if 0 ≤ r then some (.inl (nI n + 1, 40 * p + nI (5 * n) + 5, y')) else some (.inr (.inr (nI n, y')))) ∧ pz_I x' y' ∧ y'.1 24 = y.1 24 := by
      by_cases h2 : y.1 25 (40 * p.toNatClampNeg + 5 * n + (2 : Int32).toNatClampNeg) = -1
      · obtain ⟨r, x', y', e1, e2, e3, -, e4⟩ := pz_on hI (y.1 25 (40 * p.toNatClampNeg + 5 * n)) (y.1 25 (40 * p.toNatClampNeg + 5 * n + (1 : Int32).toNatClampNeg)) (y.1 25 (40 * p.toNatClampNeg + 5 * n + (3 : Int32).toNatClampNeg)) (y.1 25 (40 * p.toNatClampNeg + 5 * n + (4 : Int32).toNatClampNeg))
        refine ⟨r, x', y', ?_, ?_, e3, e4⟩
        · unfold f_X9_tellFromSheet
          rw [rC0, rC 1 (by decide) (by decide), rC 2 (by decide) (by decide), rC 3 (by decide) (by decide), rC 4 (by decide) (by decide)]
          simp only [Option.bind_some]
          rw [if_pos h2, e1, Option.bind_some]
        · unfold b_X10_read_32
          dsimp only
          rw [e24, Option.bind_some, if_neg (by rw [z_le, g1, g3]; omega), rR0, rR 1 (by decide) (by decide), rR 2 (by decide) (by decide), rR 3 (by decide) (by decide), rR 4 (by decide) (by decide)]
          simp only [Option.bind_some]
          rw [if_pos h2, e2, Option.bind_some]
          rfl
      · obtain ⟨r, x', y', e1, e2, e3, -, e4⟩ := pz_apart hI (y.1 25 (40 * p.toNatClampNeg + 5 * n)) (y.1 25 (40 * p.toNatClampNeg + 5 * n + (1 : Int32).toNatClampNeg)) (y.1 25 (40 * p.toNatClampNeg + 5 * n + (2 : Int32).toNatClampNeg)) (y.1 25 (40 * p.toNatClampNeg + 5 * n + (3 : Int32).toNatClampNeg)) (y.1 25 (40 * p.toNatClampNeg + 5 * n + (4 : Int32).toNatClampNeg))
        refine ⟨r, x', y', ?_, ?_, e3, e4⟩
        · unfold f_X9_tellFromSheet
          rw [rC0, rC 1 (by decide) (by decide), rC 2 (by decide) (by decide), rC 3 (by decide) (by decide), rC 4 (by decide) (by decide)]
          simp only [Option.bind_some]
          rw [if_neg h2, e1, Option.bind_some]
        · unfold b_X10_read_32
          dsimp only
          rw [e24, Option.bind_some, if_neg (by rw [z_le, g1, g3]; omega), rR0, rR 1 (by decide) (by decide), rR 2 (by decide) (by decide), rR 3 (by decide) (by decide), rR 4 (by decide) (by decide)]
          simp only [Option.bind_some]
          rw [if_neg h2, e2, Option.bind_some]
          rfl
    obtain ⟨r, x', y', k1, k2, k3, k4⟩ := key
    have kc : b_X9_read_41 p (nI w) (nI n, x) = (if 0 ≤ r then some (.inl (nI n + 1, x')) else some (.inr (.inr (nI n, x')))) := by
      unfold b_X9_read_41
      dsimp only
      rw [if_neg (by rw [z_le]; omega), k1, Option.bind_some]
    rw [z_lp (b_X9_read_41 p (nI w)), z_lp (b_X10_read_32 p), kc, k2]
    by_cases hr : 0 ≤ r
    · rw [if_pos hr, if_pos hr, nI_s, nx]
      exact ih (n + 1) x' y' (by omega) k3 (by rw [k4]; exact hS)
    · rw [if_neg hr, if_neg hr]
      exact ⟨nI n, x', y', rfl, rfl, k3⟩
theorem lq_read_ok : lq_read pz_I := by
  intro x y p hI
  obtain ⟨hsc, har, hsh, hnu, hbk, hrw, htx⟩ := id hI
  obtain ⟨a1, a2, a3, a4, a5, a6, a7, a8, a9, a10, a11, a12, a13⟩ := id har
  have hC := pz_isSheetC p
  have hR := pz_isSheetR p
  by_cases h : 0 ≤ p.toInt ∧ p.toInt < 4
  case neg =>
    rw [if_neg h] at hC hR
    exact ⟨-2, x, y, by simp [f_X9_read, hC], by simp [f_X10_read, hR], hI⟩
  rw [if_pos h] at hC hR
  have hL := pz_lostC hI p h
  have c0 := z_cl h.1
  have eR := z_ab (Sd := cx_R) (x := y) (a := 22) (n := 4) (i := p) rfl h.1 (by omega)
  by_cases h1 : y.1 22 p.toNatClampNeg = 0
  · rw [if_pos h1] at hL
    exact ⟨-10 - 1, _, _, by simp [f_X9_read, hC, hL, f_X9_found], by simp [f_X10_read, hR, eR, h1, f_X10_meets], pz_find hI 1⟩
  rw [if_neg h1] at hL
  have e38 := z_ai (Sd := cx_C) (x := x) (a := 38) (n := 4) (i := p) rfl h.1 (by omega)
  obtain ⟨-, u, v⟩ := hsh p.toNatClampNeg (by omega)
  have hdiv : y.1 24 p.toNatClampNeg / 5 = nI ((y.1 24 p.toNatClampNeg).toInt / 5).toNat := by
    rw [z_eq, z_nI (by omega), Int32.toInt_div_of_ne_right _ _ (by decide)]
    rw [show (5 : Int32).toInt = 5 from by decide, Int.tdiv_eq_ediv_of_nonneg u]
    omega
  obtain ⟨r, x', y', k1, k2, k3⟩ := pz_read_go h ((y.1 24 p.toNatClampNeg).toInt / 5).toNat (by omega) (y.1 24 p.toNatClampNeg).toInt (by omega) (by omega) _ 0 x y (Nat.zero_add _) hI rfl
  refine ⟨r, x', y', ?_, ?_, k3⟩
  · unfold f_X9_read
    rw [hC, Option.bind_some, if_neg pz_one, hL, Option.bind_some, if_pos rfl, e38, Option.bind_some, a12, ax_idiv, if_neg (by decide), Option.bind_some, hdiv]
    exact k1
  · unfold f_X10_read
    rw [hR, Option.bind_some, if_neg pz_one, eR, Option.bind_some, if_neg h1]
    rw [show (40 : Int32) * p + nI (5 * 0) = 40 * p from by rw [show nI (5 * 0) = 0 from rfl, Int32.add_zero]] at k2
    exact k2

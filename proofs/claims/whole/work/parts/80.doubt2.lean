/-! doubts: set by set, both sides -/
def nz_DR (N : Nat) (c : Nat → Nat) (x y : ax_S) : Prop := pz_I x y ∧ x.1 4 1 = nI N ∧ y.1 0 25 = nI N ∧ (∀ i, i < N → x.1 29 i = nI (c i) ∧ y.1 17 i = nI (c i) ∧ x.1 30 (c i) = y.1 18 i) ∧ x.2 4 3 = y.2 0 27
theorem z_ulv {s : ax_S} {k j : Nat} {v : Int64} : (ax_ul s k j v).2 k j = v := by
  show (if k = k ∧ j = j then v else s.2 k j) = v
  rw [if_pos ⟨rfl, rfl⟩]
def nz_fd (x : ax_S) (least found : Int32) : Prop := (found = 0 ∧ x.2 4 3 = 0) ∨ (found = 1 ∧ x.2 4 3 ≠ 0 ∧ x.1 4 4 = least)
theorem nz_DR_can {N : Nat} {c : Nat → Nat} {x y x' y' : ax_S} (h : nz_DR N c x y) (hx : nz_fr x x') (hy : z_only 11 y y') (hI : pz_I x' y') : nz_DR N c x' y' := by
  obtain ⟨h1, h2, h3, h4, h5⟩ := h
  refine ⟨hI, ?_, ?_, ?_, ?_⟩
  · rw [hx.1 4 (by omega) (by omega)]; exact h2
  · rw [hy.1 0 (by omega)]; exact h3
  · rw [hx.1 29 (by omega) (by omega), hx.1 30 (by omega) (by omega), hy.1 17 (by omega), hy.1 18 (by omega)]; exact h4
  · rw [hx.2, hy.2]; exact h5
theorem nz_eC4 {x x' : ax_S} (h : ∀ k, k ≠ 4 → k ≠ 29 → k ≠ 30 → x'.1 k = x.1 k) : pz_eC x x' := ⟨h 0 (by omega) (by omega) (by omega), h 2 (by omega) (by omega) (by omega), h 3 (by omega) (by omega) (by omega), by rw [h 7 (by omega) (by omega) (by omega)], fun k _ _ => h k (by omega) (by omega) (by omega), fun k _ _ => h k (by omega) (by omega) (by omega)⟩
theorem nz_eR0 {y y' : ax_S} (h : ∀ k, k ≠ 0 → k ≠ 17 → k ≠ 18 → y'.1 k = y.1 k) (h0 : ∀ j, j ≠ 25 → y'.1 0 j = y.1 0 j) : pz_eR y y' := ⟨⟨h0 0 (by omega), h0 1 (by omega), h0 2 (by omega), h0 6 (by omega), h0 14 (by omega), h0 30 (by omega), h0 41 (by omega)⟩, fun k _ _ => h k (by omega) (by omega) (by omega), fun k _ _ => h k (by omega) (by omega) (by omega)⟩
/-- blamed together -/
theorem nz_bl2 {N S : Nat} {c : Nat → Nat} {x y : ax_S} (hN : N ≤ 12) (hc : ∀ i, i < N → c i < 40) (hinj : ∀ i j, i < N → j < N → c i = c j → i = j) (h : nz_DR N c x y) (l1 : Int64) (l3 l4 l5 : Int32) : ∃ x' y', f_X3_blameAll (nI S) x = some x' ∧ ax_lp (b_X10_doubtsNow_186 l1 l3 l4 l5 (nI S)) ((0 : Int32), y) = some y' ∧ nz_DR N c x' y' ∧ x'.2 = x.2 ∧ x'.1 4 = x.1 4 ∧ x'.1 2 = x.1 2 := by
  obtain ⟨h1, h2, h3, h4, h5⟩ := h
  obtain ⟨x', a1, a2, a3⟩ := nz_blC (S := S) hN h2 (fun i hi => (h4 i hi).1) hc hinj
  obtain ⟨y', b1, b2, b3⟩ := nz_blR (S := S) hN h3 l1 l3 l4 l5
  refine ⟨x', y', a1, b1, ⟨?_, ?_, ?_, ?_, ?_⟩, a2.2, a2.1 4 (by omega), a2.1 2 (by omega)⟩
  · exact pz_fr h1 (nz_eC4 (fun k _ _ h3 => a2.1 k h3)) (nz_eR0 (fun k _ _ h3 => b2.1 k h3) (fun j _ => by rw [b2.1 0 (by omega)]))
  · rw [a2.1 4 (by omega)]; exact h2
  · rw [b2.1 0 (by omega)]; exact h3
  · intro i hi
    obtain ⟨q1, q2, q3⟩ := h4 i hi
    rw [a2.1 29 (by omega), b2.1 17 (by omega), a3 i hi, b3 i hi, q3]
    exact ⟨q1, q2, rfl⟩
  · rw [a2.2, b2.2]; exact h5
/-- all sets of one size -/
theorem nz_try {N : Nat} {c : Nat → Nat} {R : Nat} (hN : N ≤ 12) (hR : R ≤ 40) (hc : ∀ i, i < N → c i < R) (hinj : ∀ i j, i < N → j < N → c i = c j → i = j) (K : Int64) {n : Nat} (hn1 : 1 ≤ n) (hn : n ≤ 12) {x y : ax_S} (hD : nz_DR N c x y) (h06 : y.1 0 6 = nI R) {least found : Int32} (hf : nz_fd x least found) :
    ∃ x' e, f_X3_tryAllOfSize K (nI n) x = some x' ∧ ax_lp (b_X10_doubtsNow_108 K (nI n)) (least, found, (0 : Int32), y) = some e ∧ nz_DR N c x' e.2.2 ∧ e.2.2.1 0 6 = nI R ∧ nz_fd x' e.1 e.2.1 := by
  have h2 := z_2le ⟨N, by omega⟩
  have h2a : 1 ≤ 2 ^ N := h2.1
  have h2n : 2 ^ N ≤ 4096 := h2.2
  have hpI : (nI (2 ^ N)).toInt = ((2 ^ N : Nat) : Int) := z_nI (by omega)
  have hsh : ((1 : Int32) <<< (nI N &&& 31)) = nI (2 ^ N) := z_2n ⟨N, by omega⟩
  have hnn : ∀ S : Nat, (nI (z_on S.testBit 12) = nI n ↔ z_on S.testBit 12 = n) := fun S => nI_eq (by have := z_on_le S.testBit 12; omega) (by omega)
  -- the empty set is passed over
  have h0 : b_X10_doubtsNow_108 K (nI n) (least, found, (0 : Int32), y) = some (.inl (least, found, nI 1, y)) := by
    unfold b_X10_doubtsNow_108
    dsimp only
    rw [hD.2.2.1, hsh, if_neg (by rw [z_le, hpI, show (0 : Int32).toInt = 0 from by decide]; omega), show (0 : Int32) = nI 0 from rfl, z_ones, Option.bind_some, if_neg (by
      rw [hnn 0]
      have : z_on (Nat.testBit 0) 12 = 0 := by decide
      omega)]
    rfl
  rw [z_lpl h0]
  have key := z_two (f := b_X3_tryAllOfSize_3 K (nI n)) (g := b_X10_doubtsNow_108 K (nI n)) (fun a b => nz_DR N c a.2 b.2.2.2 ∧ b.2.2.2.1 0 6 = nI R ∧ nz_fd a.2 b.1 b.2.1 ∧ ∃ S, 1 ≤ S ∧ S ≤ 2 ^ N ∧ a.1 = nI S ∧ b.2.2.1 = nI S)
    (fun e e' => nz_DR N c e e'.2.2 ∧ e'.2.2.1 0 6 = nI R ∧ nz_fd e e'.1 e'.2.1) (fun a => 2 ^ N - a.1.toNatClampNeg) (by
    rintro ⟨_, x⟩ ⟨le, fo, _, y⟩ ⟨hD, h06, hf, S, hS1, hS2, g1, g2⟩
    dsimp only at hD h06 hf g1 g2
    subst g1
    subst g2
    have hSI : (nI S).toInt = (S : Int) := z_nI (by omega)
    have hSc := nI_cl (k := S) (by omega)
    obtain ⟨d1, d2, d3, d4, d5⟩ := id hD
    by_cases hl : nI (2 ^ N) ≤ nI S
    · left
      refine ⟨x, (le, fo, y), z_lpr ?_, z_lpr ?_, hD, h06, hf⟩
      · unfold b_X3_tryAllOfSize_3
        dsimp only
        rw [d2, hsh, if_pos hl]
      · unfold b_X10_doubtsNow_108
        dsimp only
        rw [d3, hsh, if_pos hl]
    right
    have hl' := hl
    rw [z_le, hSI, hpI] at hl'
    have ms : 2 ^ N - (nI S + 1).toNatClampNeg < 2 ^ N - (nI S).toNatClampNeg := by
      rw [nI_s, nI_cl (by omega), hSc]; omega
    by_cases hp : z_on S.testBit 12 = n
    case neg =>
      refine ⟨(nI S + 1, x), (le, fo, nI S + 1, y), z_lpl ?_, z_lpl ?_, ⟨hD, h06, hf, S + 1, by omega, by omega, nI_s S, nI_s S⟩, ms⟩
      · unfold b_X3_tryAllOfSize_3
        dsimp only
        rw [d2, hsh, if_neg hl, z_ibc (by omega), Option.bind_some, if_neg (by rw [hnn S]; exact hp)]
      · unfold b_X10_doubtsNow_108
        dsimp only
        rw [d3, hsh, if_neg hl, z_ones, Option.bind_some, if_neg (by rw [hnn S]; exact hp)]
    obtain ⟨fl, x1, y1, q1, q2, q3, q4, q5, -⟩ := nz_can2 d1 (K &&& (nz_rb c S N ^^^ (-1 : Int64)))
    have hD1 := nz_DR_can hD q3 q4 q5
    have h061 : y1.1 0 6 = nI R := by rw [q4.1 0 (by omega), h06]
    have hf1 : nz_fd x1 le fo := by
      unfold nz_fd
      rw [q3.2, q3.1 4 (by omega) (by omega)]
      exact hf
    have hcl : b_X3_tryAllOfSize_3 K (nI n) (nI S, x) = (if fl = 0 then some (.inl ((nI S + 1), x1)) else (f_X3_trustOf (nI S) x1).bind (fun q54 => (f_X3_keep (nz_rb c S N) q54 x1).bind (fun q57 => (f_X3_blameAll (nI S) q57).bind (fun q63 => some (.inl ((nI S + 1), q63)))))) := by
      unfold b_X3_tryAllOfSize_3
      dsimp only
      rw [d2, hsh, if_neg hl, z_ibc (by omega), Option.bind_some, if_pos (by rw [hnn S]; exact hp), nz_rowsC hN d2 (fun i hi => (d4 i hi).1), Option.bind_some, q1, Option.bind_some]
    have hre : b_X10_doubtsNow_108 K (nI n) (le, fo, nI S, y) = (if fl = 0 then some (.inl (le, fo, (nI S + 1), y1)) else (f_X10_trustOfSet (nI S) y1).bind (fun q151 => (if fo = 0 then j_X10_doubtsNow_108_167 K (nI n) (nI S) q151 y1 else (if le ≤ q151 then (ax_lp (b_X10_doubtsNow_186 K le (1 : Int32) (nI n) (nI S)) ((0 : Int32), y1)).bind (fun e186 => some (.inl (le, (1 : Int32), (nI S + 1), e186))) else j_X10_doubtsNow_108_167 K (nI n) (nI S) q151 y1)))) := by
      unfold b_X10_doubtsNow_108
      dsimp only
      rw [d3, hsh, if_neg hl, z_ones, Option.bind_some, if_pos (by rw [hnn S]; exact hp), nz_bitsR hN d3 (fun i hi => (d4 i hi).2.1), Option.bind_some, q2, Option.bind_some]
    by_cases hfl : fl = 0
    · rw [if_pos hfl] at hcl hre
      exact ⟨_, _, z_lpl hcl, z_lpl hre, ⟨hD1, h061, hf1, S + 1, by omega, by omega, nI_s S, nI_s S⟩, ms⟩
    rw [if_neg hfl] at hcl hre
    obtain ⟨e1, e2, e3, e4, e5⟩ := id hD1
    obtain ⟨_, _, _, f4, _, f6, _⟩ := id e1
    have hRc : (y1.1 0 6).toNatClampNeg = R := by rw [h061]; exact nI_cl (by omega)
    rw [nz_trC e1 hN e2 (fun i hi => (e4 i hi).1) (fun i hi => by rw [hRc]; exact hc i hi), Option.bind_some] at hcl
    rw [nz_trR f4 f6 hN e3 (fun i hi => (e4 i hi).2.1) (fun i hi => by rw [hRc]; exact hc i hi), Option.bind_some] at hre
    generalize nz_tr y1 c S N = tr at hcl hre
    have hc40 : ∀ i, i < N → c i < 40 := fun i hi => by have := hc i hi; omega
    have hne : nz_rb c S N ≠ 0 := nz_rb_ne (by omega) (by omega) hc40
    -- kept
    have store : f_X3_keep (nz_rb c S N) tr x1 = some (ax_ui (ax_ul x1 4 3 (nz_rb c S N)) 4 4 tr) → b_X10_doubtsNow_108 K (nI n) (le, fo, nI S, y) = j_X10_doubtsNow_108_167 K (nI n) (nI S) tr y1 → ∃ a' b', ax_lp (b_X3_tryAllOfSize_3 K (nI n)) (nI S, x) = ax_lp (b_X3_tryAllOfSize_3 K (nI n)) a' ∧ ax_lp (b_X10_doubtsNow_108 K (nI n)) (le, fo, nI S, y) = ax_lp (b_X10_doubtsNow_108 K (nI n)) b' ∧ (nz_DR N c a'.2 b'.2.2.2 ∧ b'.2.2.2.1 0 6 = nI R ∧ nz_fd a'.2 b'.1 b'.2.1 ∧ ∃ S, 1 ≤ S ∧ S ≤ 2 ^ N ∧ a'.1 = nI S ∧ b'.2.2.1 = nI S) ∧ 2 ^ N - a'.1.toNatClampNeg < 2 ^ N - (nI S).toNatClampNeg := by
      intro k1 k2
      have hD2 : nz_DR N c (ax_ui (ax_ul x1 4 3 (nz_rb c S N)) 4 4 tr) (ax_ul y1 0 27 (nz_rb c S N)) := by
        refine ⟨?_, ?_, e3, ?_, ?_⟩
        · refine pz_fr e1 (nz_eC4 (fun k h1 _ _ => ?_)) (nz_eR0 (fun k _ _ _ => rfl) (fun j _ => rfl))
          rw [(z_only_ui 4 4 tr _).1 k h1]; rfl
        · rw [z_ui, if_neg (fun q => by omega)]; exact e2
        · intro i hi
          have := e4 i hi
          rw [(z_only_ui 4 4 tr _).1 29 (by omega), (z_only_ui 4 4 tr _).1 30 (by omega)]
          exact this
        · rw [z_ui2, z_ulv, z_ulv]
      obtain ⟨x3, y3, m1, m2, m3, m4, m5, m6⟩ := nz_bl2 (S := S) hN hc40 hinj hD2 K tr 1 (nI n)
      rw [k1, Option.bind_some, m1, Option.bind_some] at hcl
      unfold j_X10_doubtsNow_108_167 at k2
      rw [nz_bitsR hN e3 (fun i hi => (e4 i hi).2.1), Option.bind_some, m2, Option.bind_some] at k2
      refine ⟨_, _, z_lpl hcl, z_lpl k2, ⟨m3, ?_, ?_, S + 1, by omega, by omega, nI_s S, nI_s S⟩, ms⟩
      · have := m3.1.1.2.2.2.2.2.1
        have hx27 : x3.1 2 7 = x1.1 2 7 := by first | (rw [m6]; done) | (rw [m6]; rfl)
        have h27 : x1.1 2 7 = y1.1 0 6 := e1.1.2.2.2.2.2.1
        dsimp only
        rw [← this, hx27, h27, h061]
      · refine Or.inr ⟨rfl, ?_, ?_⟩
        · show x3.2 4 3 ≠ 0
          rw [m4, z_ui2, z_ulv]
          exact hne
        · show x3.1 4 4 = tr
          rw [m5, z_ui, if_pos ⟨rfl, rfl⟩]
    rcases hf1 with ⟨p1, p2⟩ | ⟨p1, p2, p3⟩
    · rw [if_pos p1] at hre
      refine store ?_ hre
      unfold f_X3_keep
      rw [if_pos (z_cmp0.mpr p2)]
    · rw [if_neg (by rw [p1]; decide)] at hre
      by_cases hlt : le ≤ tr
      · rw [if_pos hlt] at hre
        obtain ⟨x3, y3, m1, m2, m3, m4, m5, m6⟩ := nz_bl2 (S := S) hN hc40 hinj hD1 K le 1 (nI n)
        have k1 : f_X3_keep (nz_rb c S N) tr x1 = some x1 := by
          unfold f_X3_keep
          rw [if_neg (fun q => p2 (z_cmp0.mp q)), p3, if_pos hlt]
        rw [k1, Option.bind_some, m1, Option.bind_some] at hcl
        rw [m2, Option.bind_some] at hre
        refine ⟨_, _, z_lpl hcl, z_lpl hre, ⟨m3, ?_, ?_, S + 1, by omega, by omega, nI_s S, nI_s S⟩, ms⟩
        · have := m3.1.1.2.2.2.2.2.1
          have hx27 : x3.1 2 7 = x1.1 2 7 := by first | (rw [m6]; done) | (rw [m6]; rfl)
          have h27 : x1.1 2 7 = y1.1 0 6 := e1.1.2.2.2.2.2.1
          dsimp only
          rw [← this, hx27, h27, h061]
        · refine Or.inr ⟨rfl, ?_, ?_⟩
          · show x3.2 4 3 ≠ 0
            rw [m4]; exact p2
          · show x3.1 4 4 = le
            rw [m5]; exact p3
      · rw [if_neg hlt] at hre
        refine store ?_ hre
        unfold f_X3_keep
        rw [if_neg (fun q => p2 (z_cmp0.mp q)), p3, if_neg hlt])
    (a := ((1 : Int32), x)) (b := (least, found, nI 1, y)) ⟨hD, h06, hf, 1, by omega, h2a, rfl, rfl⟩
  obtain ⟨e, e', k1, k2, k3⟩ := key
  refine ⟨e, e', ?_, k2, k3⟩
  unfold f_X3_tryAllOfSize
  rw [k1, Option.bind_some]
/-- size after size -/
theorem nz_sizes {N : Nat} {c : Nat → Nat} {R : Nat} (hN : N ≤ 12) (hR : R ≤ 40) (hc : ∀ i, i < N → c i < R) (hinj : ∀ i j, i < N → j < N → c i = c j → i = j) (K : Int64) {x y : ax_S} (hD : nz_DR N c x y) (h06 : y.1 0 6 = nI R) (h0 : x.2 4 3 = 0) :
    ∃ x' y', ax_lp (b_X3_search_60 K) ((1 : Int32), x) = some x' ∧ ax_lp (b_X10_doubtsNow_91 K) ((0 : Int32), (0 : Int32), (1 : Int32), y) = some y' ∧ nz_DR N c x' y' := by
  have hNI : (nI N).toInt = (N : Int) := z_nI (by omega)
  refine z_two (f := b_X3_search_60 K) (g := b_X10_doubtsNow_91 K) (fun a b => nz_DR N c a.2 b.2.2.2 ∧ b.2.2.2.1 0 6 = nI R ∧ nz_fd a.2 b.1 b.2.1 ∧ ∃ n, 1 ≤ n ∧ n ≤ N + 1 ∧ a.1 = nI n ∧ b.2.2.1 = nI n)
    (fun e e' => nz_DR N c e e') (fun a => N + 1 - a.1.toNatClampNeg) ?_ (a := ((1 : Int32), x)) (b := ((0 : Int32), (0 : Int32), (1 : Int32), y)) ⟨hD, h06, Or.inl ⟨rfl, h0⟩, 1, by omega, by omega, rfl, rfl⟩
  rintro ⟨_, x⟩ ⟨le, fo, _, y⟩ ⟨hD, h06, hf, n, hn1, hn2, g1, g2⟩
  dsimp only at hD h06 hf g1 g2
  subst g1
  subst g2
  have hnI : (nI n).toInt = (n : Int) := z_nI (by omega)
  have hnc := nI_cl (k := n) (by omega)
  by_cases hl : nI N < nI n
  · left
    refine ⟨x, y, z_lpr ?_, z_lpr ?_, hD⟩
    · unfold b_X3_search_60
      dsimp only
      rw [hD.2.1, if_pos hl]
    · unfold b_X10_doubtsNow_91
      dsimp only
      rw [hD.2.2.1, if_pos hl]
  have hl' := hl
  rw [z_lt, hnI, hNI] at hl'
  have ms : N + 1 - (nI n + 1).toNatClampNeg < N + 1 - (nI n).toNatClampNeg := by
    rw [nI_s, nI_cl (by omega), hnc]; omega
  rcases id hf with ⟨p1, p2⟩ | ⟨p1, p2, -⟩
  · right
    obtain ⟨x', e, k1, k2, k3, k4, k5⟩ := nz_try hN hR hc hinj K hn1 (by omega) hD h06 hf
    refine ⟨(nI n + 1, x'), (e.1, e.2.1, nI n + 1, e.2.2), z_lpl ?_, z_lpl ?_, ⟨k3, k4, k5, n + 1, by omega, by omega, nI_s n, nI_s n⟩, ms⟩
    · unfold b_X3_search_60
      dsimp only
      rw [hD.2.1, if_neg hl, if_pos (z_cmp0.mpr p2), k1, Option.bind_some]
    · unfold b_X10_doubtsNow_91
      dsimp only
      rw [hD.2.2.1, if_neg hl, if_pos p1, k2, Option.bind_some]
  · left
    refine ⟨x, y, z_lpr ?_, z_lpr ?_, hD⟩
    · unfold b_X3_search_60
      dsimp only
      rw [hD.2.1, if_neg hl, if_neg (fun q => p2 (z_cmp0.mp q))]
    · unfold b_X10_doubtsNow_91
      dsimp only
      rw [hD.2.2.1, if_neg hl, if_neg (by rw [p1]; decide)]

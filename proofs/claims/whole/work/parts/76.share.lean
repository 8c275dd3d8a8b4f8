/-! orders, first, share -/
theorem nz_eR1 {y e : ax_S} (h : ∀ k, k ≠ 19 → e.1 k = y.1 k) : pz_eR y e := ⟨⟨by rw [h 0 (by omega)], by rw [h 0 (by omega)], by rw [h 0 (by omega)], by rw [h 0 (by omega)], by rw [h 0 (by omega)], by rw [h 0 (by omega)], by rw [h 0 (by omega)]⟩, fun k _ _ => h k (by omega), fun k _ _ => h k (by omega)⟩
theorem nz_ways2 {x y : ax_S} (hI : pz_I x y) {n st : Nat} {b : Nat → Int32} (hn : n ≤ 12) (h54 : x.1 5 4 = nI n) (h01 : y.1 0 1 = nI n) (hb : ∀ a, a < n → x.1 31 a = b a ∧ y.1 19 a = b a) (hst : st < 2 ^ n) :
    ∃ x' y', f_X5_waysFrom (nI st) x = some (nI (z_ct b n st), x') ∧ f_X10_ordersBut (nI st) y = some (lN (z_ct b n st), y') ∧ pz_I x' y' ∧ z_only 32 x x' ∧ y'.1 = y.1 ∧ z_fw (x.1 31) n st (x'.1 32) (2 ^ n - 1) := by
  obtain ⟨e, a1, a2, a3⟩ := nz_waysFrom (s := x) hn h54 hst
  obtain ⟨e', b1, b2⟩ := nz_ordersBut (s := y) hn h01 hst
  rw [z_ct_cg (b' := b) (fun a ha => (hb a ha).1)] at a1
  rw [z_ct_cg (b' := b) (fun a ha => (hb a ha).2)] at b1
  exact ⟨e, e', a1, b1, pz_fr hI (nz_fL_eC (nz_fL_only (Or.inr (Or.inr (by omega))) a2)) (nz_eR1 (fun k _ => by rw [b2])), a2, b2, a3⟩
theorem nz_lay10 {x y : ax_S} (hI : pz_I x y) {fl : Int32} {x' : ax_S} (h : f_X9_layLines x = some (fl, x')) : x'.1 0 10 = x.1 0 10 := by
  obtain ⟨hsc, har, hsh, hnu, hbk, hrw, htx⟩ := id hI
  obtain ⟨fl', x1, y1, q1, q2, q3, q4, q5, q6⟩ := nz_all2 hI
  have s3 : x.1 0 10 = y.1 0 1 := hsc.2.2.1
  unfold f_X9_layLines at h
  rw [pz_KC hI, Option.bind_some, q1, Option.bind_some] at h
  dsimp only at h
  rcases q6 with ⟨rfl, hS, hR⟩ | ⟨rfl, -⟩
  · rw [if_neg pz_one] at h
    obtain ⟨t, e, a1, a2, a3, a4, a5⟩ := nz_layLines (x := x) hnu hbk hS hR (by rw [q3.1 0 (by omega) (by omega), s3])
    rw [a1, Option.bind_some, a2, Option.bind_some] at h
    cases h
    rw [a3 0 (by omega) (by omega) (by omega) (by omega), q3.1 0 (by omega) (by omega)]
  · rw [if_pos rfl] at h
    cases h
    rw [q3.1 0 (by omega) (by omega)]
theorem nz_2pos {n : Nat} : 0 < 2 ^ n := Nat.pow_pos (by decide)
theorem nz_orders2 {x y : ax_S} (hI : pz_I x y) : ∃ r x' y', f_X9_orders x = some (r, x') ∧ f_X10_ordersNow y = some (r, y') ∧ pz_I x' y' := by
  obtain ⟨fl, x', y', q1, q2, q3, q4⟩ := nz_lines hI
  unfold f_X9_orders f_X10_ordersNow
  rw [q1, q2, Option.bind_some, Option.bind_some]
  dsimp only
  rcases q4 with ⟨rfl, h54, n, b, hn, h01, hb, -, -⟩ | rfl
  · rw [if_neg pz_one, if_neg pz_one]
    obtain ⟨e, e', a1, b1, c1, -⟩ := nz_ways2 q3 hn (by rw [h54, h01]) h01 hb (st := 0) nz_2pos
    rw [show (0 : Int32) = nI 0 from rfl, a1, b1, Option.bind_some, Option.bind_some]
    refine ⟨lN (z_ct b n 0), e, e', ?_, rfl, c1⟩
    dsimp only
    rw [nI_l (by have := z_ct_le b hn 0; omega)]
  · rw [if_pos rfl, if_pos rfl, pz_asL3, Option.bind_some]
    exact ⟨_, x', y', rfl, rfl, q3⟩
theorem lq_orders_ok : lq_orders pz_I := by
  intro x y hI
  obtain ⟨r, x', y', h1, h2, h3⟩ := nz_orders2 hI
  refine ⟨r, x', y', h1, ?_, h3⟩
  unfold f_X10_orders
  rw [h2, Option.bind_some]
theorem lq_first_ok : lq_first pz_I := by
  intro x y p hI
  have hI' := hI
  obtain ⟨hsc, har, hsh, hnu, hbk, hrw, htx⟩ := hI
  obtain ⟨n1, n2, n3, n4, n5, n6, n7, n8, n9, n10, n11, n12⟩ := hnu
  have s3 : x.1 0 10 = y.1 0 1 := hsc.2.2.1
  unfold f_X9_first f_X10_first
  rw [pz_isThingC, pz_isThingR _ _ n5, s3, pz_asL2, pz_asL3]
  simp only [Option.bind_some, pz_if0]
  by_cases hp : 0 ≤ p.toInt ∧ p.toInt < (y.1 0 1).toInt
  case neg => rw [if_neg hp, if_neg hp]; exact ⟨_, _, _, rfl, rfl, hI'⟩
  rw [if_pos hp, if_pos hp]
  have cp := z_cl hp.1
  obtain ⟨fl, x', y', q1, q2, q3, q4⟩ := nz_lines hI'
  rw [q1, q2, Option.bind_some, Option.bind_some]
  dsimp only
  rcases q4 with ⟨rfl, h54, n, b, hn, h01, hb, -, -⟩ | rfl
  case inr =>
    rw [if_pos rfl, if_pos rfl]
    exact ⟨_, x', y', rfl, rfl, q3⟩
  rw [if_neg pz_one, if_neg pz_one]
  have hyy : y'.1 0 1 = y.1 0 1 := by
    have a := q3.1.2.2.1
    have hx : x'.1 0 10 = x.1 0 10 := nz_lay10 hI' q1
    rw [← a, hx, s3]
  have hpn : p.toNatClampNeg < n := by
    rw [← hyy, h01, z_nI (by omega)] at hp
    omega
  rw [z_ai (Sd := cx_C) (a := 31) (n := 12) rfl hp.1 (by omega), Option.bind_some, z_ai (Sd := cx_R) (a := 19) (n := 12) rfl hp.1 (by omega), Option.bind_some, (hb _ hpn).1, (hb _ hpn).2]
  by_cases h0 : b p.toNatClampNeg = 0
  · rw [if_pos h0, if_pos h0]
    have hsh : ((1 : Int32) <<< (p &&& 31)) = nI (2 ^ p.toNatClampNeg) := by
      have := z_2n ⟨p.toNatClampNeg, by omega⟩
      rw [← z_of hp.1] at this
      exact this
    obtain ⟨e, e', a1, b1, c1, -⟩ := nz_ways2 q3 hn (by rw [h54, h01]) h01 hb (st := 2 ^ p.toNatClampNeg) (Nat.pow_lt_pow_right (by decide) hpn)
    rw [hsh, a1, b1, Option.bind_some, Option.bind_some]
    refine ⟨lN (z_ct b n (2 ^ p.toNatClampNeg)), e, e', ?_, rfl, c1⟩
    dsimp only
    rw [nI_l (by have := z_ct_le b hn (2 ^ p.toNatClampNeg); omega)]
  · rw [if_neg h0, if_neg h0]
    exact ⟨_, x', y', rfl, rfl, q3⟩
/-! a common divisor -/
theorem lN_div {a b : Nat} (ha : a < 2 ^ 31) (hb : b < 2 ^ 31) : lN a / lN b = lN (a / b) := by
  have h1 : a / b ≤ a := Nat.div_le_self a b
  rw [← Int64.toInt_inj, Int64.toInt_div, lN_toInt ha, lN_toInt hb, lN_toInt (by omega), ← Int.ofNat_tdiv]
  generalize a / b = d at h1 ⊢
  apply Int.bmod_eq_of_le
  · omega
  · omega
theorem lN_rem {a b : Nat} (ha : a < 2 ^ 31) (hb : b < 2 ^ 31) (h0 : b ≠ 0) : ax_lrem (lN a) (lN b) = some (lN (a % b)) := by
  unfold ax_lrem
  rw [if_neg (by
    intro q
    have : lN b = lN 0 := q
    rw [lN_eq hb (by omega)] at this
    exact h0 this), lN_div ha hb, lN_mul, lN_sub (Nat.div_mul_le_self a b)]
  congr 2
  have := Nat.div_add_mod a b
  rw [Nat.mul_comm] at this
  omega
theorem z_gcds (g l : Nat) : Nat.gcd l (g % l) = Nat.gcd g l := by
  rw [Nat.gcd_comm g l, Nat.gcd_rec l g, Nat.gcd_comm]
theorem nz_gcdR {c a : Nat} (hc : c < 2 ^ 31) (ha : a < 2 ^ 31) : f_X10_divisor (lN c) (lN a) = some (lN (Nat.gcd c a)) := by
  obtain ⟨e, k1, k2⟩ := z_inv (f := b_X10_divisor_6) (fun q => ∃ g l : Nat, g < 2 ^ 31 ∧ l < 2 ^ 31 ∧ q.1 = lN g ∧ q.2 = lN l ∧ Nat.gcd g l = Nat.gcd c a) (fun e => e = lN (Nat.gcd c a)) (fun q => q.2.toInt.toNat) (by
    rintro ⟨_, _⟩ ⟨g, l, h1, h2, h3, h4, h5⟩
    dsimp only at h3 h4
    subst h3
    subst h4
    unfold b_X10_divisor_6
    dsimp only
    have hl : lg_cmp (lN l) 0 = 0 ↔ l = 0 := by
      rw [z_cmp0]
      exact lN_eq (b := 0) h2 (by omega)
    by_cases h0 : l = 0
    · left
      rw [if_pos (hl.mpr h0)]
      refine ⟨_, rfl, ?_⟩
      rw [← h5, h0, Nat.gcd_zero_right]
    · right
      rw [if_neg (fun q => h0 (hl.mp q)), lN_rem h1 h2 h0, Option.bind_some]
      have hm := Nat.mod_lt g (Nat.pos_of_ne_zero h0)
      refine ⟨_, rfl, ⟨l, g % l, h2, by omega, rfl, rfl, ?_⟩, ?_⟩
      · rw [z_gcds, h5]
      · dsimp only
        rw [lN_toInt (by omega), lN_toInt h2]
        omega)
    (a := (lN c, lN a)) ⟨c, a, hc, ha, rfl, rfl, rfl⟩
  unfold f_X10_divisor
  rw [k1, Option.bind_some, k2]
theorem z_half {g l : Nat} (h : l < g) (h0 : l ≠ 0) : l * (g % l) * 2 ≤ g * l := by
  have h1 := Nat.mod_lt g (Nat.pos_of_ne_zero h0)
  have h2 : g % l + l ≤ g := by
    have a := Nat.div_add_mod g l
    have b : 1 ≤ g / l := (Nat.le_div_iff_mul_le (Nat.pos_of_ne_zero h0)).mpr (by omega)
    have c : l * 1 ≤ l * (g / l) := Nat.mul_le_mul_left l b
    omega
  have h3 : l * (g % l * 2) ≤ l * g := Nat.mul_le_mul_left l (by omega)
  rw [Nat.mul_assoc, Nat.mul_comm g l]
  exact h3
theorem nz_gcdC {c a : Nat} (hc : c ≤ 479001600) (ha : a ≤ 479001600) : f_X9_commonDivisor (lN c) (lN a) = some (lN (Nat.gcd c a)) := by
  obtain ⟨e, k1, k2⟩ := z_inv (f := b_X9_commonDivisor_9) (fun q => ∃ g l k : Nat, g ≤ 479001600 ∧ l ≤ 479001600 ∧ k ≤ 100 ∧ q.1 = lN g ∧ q.2.1 = lN l ∧ q.2.2 = nI k ∧ Nat.gcd g l = Nat.gcd c a ∧ (k = 0 ∨ (l < g ∧ g * l * 2 ^ k ≤ 2 ^ 59))) (fun e => e = lN (Nat.gcd c a)) (fun q => 100 - q.2.2.toNatClampNeg) (by
    rintro ⟨_, _, _⟩ ⟨g, l, k, h1, h2, hk, h3, h4, h5, h6, h7⟩
    dsimp only at h3 h4 h5
    subst h3
    subst h4
    subst h5
    have hkI : (nI k).toInt = (k : Int) := z_nI (by omega)
    have hkc := nI_cl (k := k) (by omega)
    have e100 : (100 : Int32).toInt = 100 := by decide
    unfold b_X9_commonDivisor_9
    dsimp only
    have hl : lg_cmp (lN l) 0 = 0 ↔ l = 0 := by
      rw [z_cmp0]
      exact lN_eq (b := 0) (by omega) (by omega)
    by_cases hkk : (100 : Int32) ≤ nI k
    · left
      rw [if_pos hkk]
      rw [z_le, hkI, e100] at hkk
      obtain rfl : k = 100 := by omega
      refine ⟨_, rfl, ?_⟩
      rcases h7 with q | ⟨q1, q2⟩
      · omega
      · have : g * l = 0 := by
          apply Classical.byContradiction
          intro z
          have z1 : 1 ≤ g * l := Nat.pos_of_ne_zero z
          have z2 : 1 * 2 ^ 100 ≤ g * l * 2 ^ 100 := Nat.mul_le_mul_right _ z1
          have z3 : (2 : Nat) ^ 59 < 1 * 2 ^ 100 := by decide
          omega
        have hl0 : l = 0 := by
          rcases Nat.mul_eq_zero.mp this with z | z
          · omega
          · exact z
        rw [← h6, hl0, Nat.gcd_zero_right]
    rw [if_neg hkk]
    rw [z_le, hkI, e100] at hkk
    by_cases h0 : l = 0
    · left
      rw [if_pos (hl.mpr h0)]
      refine ⟨_, rfl, ?_⟩
      rw [← h6, h0, Nat.gcd_zero_right]
    · right
      rw [if_neg (fun q => h0 (hl.mp q)), lN_rem (by omega) (by omega) h0, Option.bind_some]
      have hm := Nat.mod_lt g (Nat.pos_of_ne_zero h0)
      refine ⟨_, rfl, ⟨l, g % l, k + 1, h2, by omega, by omega, rfl, rfl, nI_s k, ?_, Or.inr ⟨hm, ?_⟩⟩, ?_⟩
      · rw [z_gcds, h6]
      · rcases h7 with q | ⟨q1, q2⟩
        · subst q
          have z1 : l * (g % l) ≤ 479001600 * 479001600 := Nat.mul_le_mul h2 (by omega)
          have z2 : l * (g % l) * 2 ^ (0 + 1) ≤ 479001600 * 479001600 * 2 ^ (0 + 1) := Nat.mul_le_mul_right _ z1
          have z3 : (479001600 * 479001600 * 2 ^ (0 + 1) : Nat) ≤ 2 ^ 59 := by decide
          omega
        · have z1 := z_half q1 h0
          have z2 : l * (g % l) * 2 * 2 ^ k ≤ g * l * 2 ^ k := Nat.mul_le_mul_right _ z1
          rw [Nat.pow_succ, Nat.mul_comm (2 ^ k) 2, ← Nat.mul_assoc]
          omega
      · dsimp only
        rw [nI_s, nI_cl (by omega), hkc]; omega)
    (a := (lN c, lN a, (0 : Int32))) ⟨c, a, 0, hc, ha, by omega, rfl, rfl, rfl, rfl, Or.inl rfl⟩
  unfold f_X9_commonDivisor
  rw [k1, Option.bind_some, k2]
/-! one set ahead of another -/
theorem nz_with {y : ax_S} {n : Nat} {b : Nat → Int32} (hn : n ≤ 12) (h01 : y.1 0 1 = nI n) (hb : ∀ a, a < n → y.1 19 a = b a) {t o : Nat} (ht : t < n) (ho : o < n) : ∃ y', f_X10_ordersWith (nI t) (nI o) y = some (lN (z_ct (upd b o (b o ||| ((1 : Int32) <<< (nI t &&& 31)))) n 0), y') ∧ y'.1 = y.1 := by
  have hoI : (nI o).toInt = (o : Int) := z_nI (by omega)
  have hoc := nI_cl (k := o) (by omega)
  obtain ⟨e, b1, b2⟩ := nz_ordersBut (s := ax_ui y 19 o (b o ||| ((1 : Int32) <<< (nI t &&& 31)))) (n := n) (st := 0) hn (by rw [(z_only_ui 19 o _ y).1 0 (by omega), h01]) nz_2pos
  rw [z_ct_cg (b' := upd b o (b o ||| ((1 : Int32) <<< (nI t &&& 31)))) (fun a ha => by
    rw [z_uis, z_upd, z_upd, hb a ha])] at b1
  refine ⟨ax_ui e 19 o (b o), ?_, ?_⟩
  · unfold f_X10_ordersWith
    rw [z_ai (Sd := cx_R) (n := 12) rfl (by omega) (by omega), Option.bind_some, Option.bind_some, hoc, hb o ho, z_si (Sd := cx_R) (n := 12) rfl (by omega) (by omega), Option.bind_some, hoc, show (0 : Int32) = nI 0 from rfl, b1, Option.bind_some, z_si (Sd := cx_R) (n := 12) rfl (by omega) (by omega), Option.bind_some, hoc]
  · funext k
    by_cases hk : k = 19
    · subst hk
      rw [z_uis]
      funext j
      rw [z_upd, b2, z_uis, z_upd]
      by_cases hj : j = o
      · rw [if_pos hj, hj, hb o ho]
      · rw [if_neg hj, if_neg hj]
    · rw [(z_only_ui 19 o (b o) e).1 k hk, b2, (z_only_ui 19 o _ y).1 k hk]
theorem lq_share_ok : lq_share pz_I := by
  intro x y p q w hI
  have hI' := hI
  obtain ⟨hsc, har, hsh, hnu, hbk, hrw, htx⟩ := hI
  obtain ⟨n1, n2, n3, n4, n5, n6, n7, n8, n9, n10, n11, n12⟩ := hnu
  have s3 : x.1 0 10 = y.1 0 1 := hsc.2.2.1
  have e0 : (0 : Int32).toInt = 0 := by decide
  have e1 : (1 : Int32).toInt = 1 := by decide
  unfold f_X9_share f_X10_share
  rw [pz_two hI', pz_twoR n5, pz_in01, pz_asL2, pz_asL3]
  simp only [Option.bind_some, pz_if0]
  by_cases hp : (0 ≤ p.toInt ∧ p.toInt < (y.1 0 1).toInt) ∧ (0 ≤ q.toInt ∧ q.toInt < (y.1 0 1).toInt) ∧ p.toInt ≠ q.toInt
  case neg => rw [if_neg hp, if_neg hp]; exact ⟨_, _, _, rfl, rfl, hI'⟩
  rw [if_pos hp, if_pos hp]
  obtain ⟨hp1, hq1, hpq⟩ := hp
  have cp := z_cl hp1.1
  have cq := z_cl hq1.1
  by_cases h0 : w < 0
  · rw [if_pos h0]
    rw [z_lt, e0] at h0
    rw [if_neg (by omega)]
    exact ⟨_, _, _, rfl, rfl, hI'⟩
  rw [if_neg h0]
  by_cases h2 : w ≤ 1
  case neg =>
    rw [if_neg h2]
    rw [z_le, e1] at h2
    rw [if_neg (by omega)]
    exact ⟨_, _, _, rfl, rfl, hI'⟩
  rw [if_pos h2]
  rw [z_lt, e0] at h0
  rw [z_le, e1] at h2
  rw [if_pos (by omega)]
  obtain ⟨fl, x', y', q1, q2, q3, q4⟩ := nz_lines hI'
  rw [q1, q2, Option.bind_some, Option.bind_some]
  dsimp only
  rcases q4 with ⟨rfl, h54, n, b, hn, h01, hb, hbn, u, hu⟩ | rfl
  case inr =>
    rw [if_pos rfl, if_pos rfl]
    exact ⟨_, x', y', rfl, rfl, q3⟩
  rw [if_neg pz_one, if_neg pz_one]
  have hyy : y'.1 0 1 = y.1 0 1 := by
    have a := q3.1.2.2.1
    have hx : x'.1 0 10 = x.1 0 10 := nz_lay10 hI' q1
    rw [← a, hx, s3]
  have hpn : p.toNatClampNeg < n := by
    rw [← hyy, h01, z_nI (by omega)] at hp1
    omega
  have hqn : q.toNatClampNeg < n := by
    rw [← hyy, h01, z_nI (by omega)] at hq1
    omega
  have hpe : p = nI p.toNatClampNeg := z_of hp1.1
  have hqe : q = nI q.toNatClampNeg := z_of hq1.1
  obtain ⟨x1, y1, a1, b1, c1, d1, d2, -⟩ := nz_ways2 q3 hn (by rw [h54, h01]) h01 hb (st := 0) nz_2pos
  -- with one ahead
  have hset : f_X5_setAhead p q x1 = some (ax_ui x1 31 q.toNatClampNeg (b q.toNatClampNeg ||| ((1 : Int32) <<< (p &&& 31)))) := by
    unfold f_X5_setAhead
    rw [z_ai (Sd := cx_C) (n := 12) rfl hq1.1 (by omega), Option.bind_some, z_si (Sd := cx_C) (n := 12) rfl hq1.1 (by omega), Option.bind_some, d1.1 31 (by omega), (hb _ hqn).1]
  obtain ⟨x2, a2, a3, -⟩ := nz_waysFrom (s := ax_ui x1 31 q.toNatClampNeg (b q.toNatClampNeg ||| ((1 : Int32) <<< (p &&& 31)))) (n := n) (st := 0) hn (by rw [(z_only_ui 31 _ _ x1).1 5 (by omega), d1.1 5 (by omega), h54, h01]) nz_2pos
  rw [z_ct_cg (b' := upd b q.toNatClampNeg (b q.toNatClampNeg ||| ((1 : Int32) <<< (p &&& 31)))) (fun a ha => by
    rw [z_uis, z_upd, z_upd, d1.1 31 (by omega), (hb a ha).1])] at a2
  obtain ⟨y2, b2, b3⟩ := nz_with (y := y1) (n := n) (b := b) hn (by rw [d2, h01]) (fun a ha => by rw [d2]; exact (hb a ha).2) hpn hqn
  rw [← hpe, ← hqe] at b2
  have hA := z_ct_le b hn 0
  have hC := z_ct_le (upd b q.toNatClampNeg (b q.toNatClampNeg ||| ((1 : Int32) <<< (p &&& 31)))) hn 0
  have hA1 : 1 ≤ z_ct b n 0 := z_cf_pos (u := u) (fun t o ht ho => ⟨hbn t ht o ho, hu t o ht ho⟩) _ _ rfl
  generalize z_ct (upd b q.toNatClampNeg (b q.toNatClampNeg ||| ((1 : Int32) <<< (p &&& 31)))) n 0 = C at a2 b2 hC
  generalize z_ct b n 0 = A at a1 b1 hA hA1
  have hG : 1 ≤ Nat.gcd C A := Nat.gcd_pos_of_pos_right C hA1
  have hGA : Nat.gcd C A ≤ A := Nat.gcd_le_right C hA1
  have hIf : pz_I x2 y2 := by
    refine pz_fr c1 (pz_eC_tr (nz_fL_eC (nz_fL_only (p := 31) (Or.inr (Or.inr (by omega))) (z_only_ui 31 _ _ x1))) (nz_fL_eC (nz_fL_only (p := 32) (Or.inr (Or.inr (by omega))) a3))) (nz_eR1 (fun k _ => by rw [b3]))
  rw [show (0 : Int32) = nI 0 from rfl, a1, Option.bind_some]
  dsimp only
  rw [hset, Option.bind_some, a2, Option.bind_some, b1, Option.bind_some]
  dsimp only
  rw [b2, Option.bind_some]
  dsimp only
  rw [nI_l (n := C) (by omega), nI_l (n := A) (by omega), nz_gcdC hC hA, Option.bind_some, nz_gcdR (by omega) (by omega), Option.bind_some, Option.bind_some]
  have hge : (nI 0 : Int32) ≤ lg_cmp (lN (Nat.gcd C A)) 1 := by
    have z := z_cmpL (a := lN (Nat.gcd C A)) (b := 1)
    rw [z_lt, lN_toInt (by omega), e0, show (1 : Int64).toInt = 1 from by decide] at z
    rw [z_le, show (nI 0).toInt = 0 from by decide]
    omega
  rw [if_pos hge]
  have hne : ¬ (lN (Nat.gcd C A) = 0) := by
    intro z
    have z' : lN (Nat.gcd C A) = lN 0 := z
    rw [lN_eq (by omega) (by omega)] at z'
    omega
  unfold ax_ldiv
  rw [if_neg hne, if_neg hne]
  by_cases hw : w = nI 0
  · rw [if_pos hw, if_pos hw]; exact ⟨_, _, _, rfl, rfl, hIf⟩
  · rw [if_neg hw, if_neg hw]; exact ⟨_, _, _, rfl, rfl, hIf⟩

/-! how many bits: the class's way -/
theorem nz_nsub {a b : Int64} (h : b.toBitVec.toNat ≤ a.toBitVec.toNat) : (a - b).toBitVec.toNat = a.toBitVec.toNat - b.toBitVec.toNat := by
  rw [Int64.toBitVec_sub, BitVec.toNat_sub]
  have := a.toBitVec.isLt
  have := b.toBitVec.isLt
  omega
theorem nz_nadd {a b : Int64} (h : a.toBitVec.toNat + b.toBitVec.toNat < 18446744073709551616) : (a + b).toBitVec.toNat = a.toBitVec.toNat + b.toBitVec.toNat := by
  rw [Int64.toBitVec_add, BitVec.toNat_add]
  exact Nat.mod_eq_of_lt h
theorem nz_nand (a b : Int64) : (a &&& b).toBitVec.toNat = a.toBitVec.toNat &&& b.toBitVec.toNat := by
  rw [Int64.toBitVec_and, BitVec.toNat_and]
theorem nz_nshr (a : Int64) {r : Nat} (h : r < 64) : (ax_lushr a (nI r)).toBitVec.toNat = a.toBitVec.toNat / 2 ^ r := by
  rw [z_lushr a h, BitVec.toNat_ushiftRight, Nat.shiftRight_eq_div_pow]
theorem nz_M5 : (6148914691236517205 : Int64).toBitVec.toNat = nz_mk 85 8 := by decide +kernel
theorem nz_M3 : (3689348814741910323 : Int64).toBitVec.toNat = nz_mk 51 8 := by decide +kernel
theorem nz_Mf : (1085102592571150095 : Int64).toBitVec.toNat = nz_mk 15 8 := by decide +kernel
theorem nz_mkv3 : nz_mk 51 8 = 3689348814741910323 := by decide +kernel
theorem nz_mkvf : nz_mk 15 8 = 1085102592571150095 := by decide +kernel
theorem nz_b1 (p : Int64) : (p - ((ax_lushr p (1 : Int32)) &&& (6148914691236517205 : Int64))).toBitVec.toNat = nz_t1 8 p.toBitVec.toNat := by
  have e : ((ax_lushr p (1 : Int32)) &&& (6148914691236517205 : Int64)).toBitVec.toNat = (p.toBitVec.toNat / 2) &&& nz_mk 85 8 := by
    rw [nz_nand, nz_M5, show (1 : Int32) = nI 1 from rfl, nz_nshr p (by omega)]
  have l : (p.toBitVec.toNat / 2) &&& nz_mk 85 8 ≤ p.toBitVec.toNat / 2 := Nat.and_le_left
  rw [nz_nsub (by rw [e]; omega), e]
  rfl
theorem nz_b2 {t : Int64} {n : Nat} (ht : t.toBitVec.toNat = n) : ((t &&& (3689348814741910323 : Int64)) + ((ax_lushr t (2 : Int32)) &&& (3689348814741910323 : Int64))).toBitVec.toNat = nz_t2 8 n := by
  have e1 : (t &&& (3689348814741910323 : Int64)).toBitVec.toNat = n &&& nz_mk 51 8 := by rw [nz_nand, nz_M3, ht]
  have e2 : ((ax_lushr t (2 : Int32)) &&& (3689348814741910323 : Int64)).toBitVec.toNat = (n / 4) &&& nz_mk 51 8 := by
    rw [nz_nand, nz_M3, show (2 : Int32) = nI 2 from rfl, nz_nshr t (by omega), ht]
  have l1 : n &&& nz_mk 51 8 ≤ nz_mk 51 8 := Nat.and_le_right
  have l2 : (n / 4) &&& nz_mk 51 8 ≤ nz_mk 51 8 := Nat.and_le_right
  have v := nz_mkv3
  rw [nz_nadd (by rw [e1, e2]; omega), e1, e2]
  rfl
theorem nz_b3 {t : Int64} {n : Nat} (ht : t.toBitVec.toNat = n) (hn : n ≤ 7378697629483820646) : ((t + (ax_lushr t (4 : Int32))) &&& (1085102592571150095 : Int64)).toBitVec.toNat = nz_t3 8 n := by
  have e1 : (ax_lushr t (4 : Int32)).toBitVec.toNat = n / 16 := by
    rw [show (4 : Int32) = nI 4 from rfl, nz_nshr t (by omega), ht]
  rw [nz_nand, nz_Mf, nz_nadd (by rw [ht, e1]; omega), ht, e1]
  rfl
theorem nz_b4 {t : Int64} {n : Nat} {r : Nat} (hr : r < 64) (ht : t.toBitVec.toNat = n) (hn : n + n / 2 ^ r < 18446744073709551616) : (t + (ax_lushr t (nI r))).toBitVec.toNat = n + n / 2 ^ r := by
  have e1 := nz_nshr t hr
  rw [ht] at e1
  rw [nz_nadd (by rw [ht, e1]; exact hn), ht, e1]
theorem nz_b5 (t : Int64) : (t.toInt32 &&& (127 : Int32)) = nI (t.toBitVec.toNat % 128) := by
  rw [← Int32.toBitVec_inj, Int32.toBitVec_and, ← BitVec.toNat_inj, BitVec.toNat_and]
  have e1 : t.toInt32.toBitVec.toNat = t.toBitVec.toNat % 4294967296 := by
    rw [Int64.toBitVec_toInt32, BitVec.signExtend_eq_setWidth_of_le _ (by decide), BitVec.toNat_setWidth]
  have e2 : (127 : Int32).toBitVec.toNat = 2 ^ 7 - 1 := by decide
  have e3 : (nI (t.toBitVec.toNat % 128)).toBitVec.toNat = t.toBitVec.toNat % 128 := by
    show (Int32.ofNat _).toBitVec.toNat = _
    rw [Int32.toBitVec_ofNat', BitVec.toNat_ofNat]
    have : t.toBitVec.toNat % 128 < 128 := Nat.mod_lt _ (by decide)
    exact Nat.mod_eq_of_lt (by omega)
  rw [e1, e2, e3, Nat.and_two_pow_sub_one_eq_mod]
  show t.toBitVec.toNat % 4294967296 % 128 = _
  rw [Nat.mod_mod_of_dvd _ (by decide)]
theorem nz_t3_le (n : Nat) : nz_t3 8 n ≤ 1085102592571150095 := by
  rw [← nz_mkvf]; exact Nat.and_le_right
theorem nz_t2_le (n : Nat) : nz_t2 8 n ≤ 7378697629483820646 := by
  have l1 : n &&& nz_mk 51 8 ≤ nz_mk 51 8 := Nat.and_le_right
  have l2 : (n / 4) &&& nz_mk 51 8 ≤ nz_mk 51 8 := Nat.and_le_right
  have v := nz_mkv3
  unfold nz_t2
  omega
theorem nz_le8 {w u t : Nat} (h : w ≤ 1085102592571150095) (hu : u = w + w / 2 ^ 8) (ht : t = u + u / 2 ^ 16) : u < 18446744073709551616 ∧ t < 18446744073709551616 ∧ t + t / 2 ^ 32 < 18446744073709551616 := by
  have a1 : w / 2 ^ 8 ≤ w := Nat.div_le_self _ _
  have a2 : u / 2 ^ 16 ≤ u := Nat.div_le_self _ _
  have a3 : t / 2 ^ 32 ≤ t := Nat.div_le_self _ _
  omega
theorem pz_bitCount (p : Int64) : f_J13_bitCount_95d88 p = some (nI (z_on (pz_tb p) 64)) := by
  unfold f_J13_bitCount_95d88
  have h1 := nz_b1 p
  generalize (p - ((ax_lushr p (1 : Int32)) &&& (6148914691236517205 : Int64))) = a at *
  have h2 := nz_b2 h1
  generalize ((a &&& (3689348814741910323 : Int64)) + ((ax_lushr a (2 : Int32)) &&& (3689348814741910323 : Int64))) = b at *
  have h3 := nz_b3 h2 (nz_t2_le _)
  generalize ((b + (ax_lushr b (4 : Int32))) &&& (1085102592571150095 : Int64)) = c at *
  have hb := nz_t3_le (nz_t2 8 (nz_t1 8 p.toBitVec.toNat))
  obtain ⟨k1, k2, k3⟩ := nz_le8 hb rfl rfl
  have h4 : (c + (ax_lushr c (8 : Int32))).toBitVec.toNat = _ := nz_b4 (r := 8) (by omega) h3 k1
  generalize (c + (ax_lushr c (8 : Int32))) = d at *
  have h5 : (d + (ax_lushr d (16 : Int32))).toBitVec.toNat = _ := nz_b4 (r := 16) (by omega) h4 k2
  generalize (d + (ax_lushr d (16 : Int32))) = e at *
  have h6 : (e + (ax_lushr e (32 : Int32))).toBitVec.toNat = _ := nz_b4 (r := 32) (by omega) h5 k3
  rw [nz_b5, h6]
  have := nz_fold (i := p.toBitVec.toNat) (nz_lanes 8 p.toBitVec.toNat)
  have e8 : (2 : Nat) ^ 8 = 256 := by decide
  have e16 : (2 : Nat) ^ 16 = 65536 := by decide
  have e32 : (2 : Nat) ^ 32 = 4294967296 := by decide
  rw [e8, e16, e32, this]
  rfl
/-! count -/
theorem z_on_z (p : Nat → Bool) {m n : Nat} (h : m ≤ n) (h0 : ∀ k, m ≤ k → p k = false) : z_on p n = z_on p m := by
  induction n with
  | zero => obtain rfl : m = 0 := by omega
            rfl
  | succ n ih =>
    by_cases q : m = n + 1
    · rw [q]
    · show z_on p n + (if p n = true then 1 else 0) = _
      rw [h0 n (by omega), ih (by omega)]; rfl
theorem z_nI0 (n : Nat) : nI n + 0 = nI n := by
  have : (nI n + 0 : Int32) = nI n := Int32.add_zero _
  exact this
theorem lq_count_ok : lq_count pz_I := by
  intro x y p hI
  have hI' := hI
  obtain ⟨hsc, har, hsh, hnu, hbk, hrw, htx⟩ := hI
  have hnu' := hnu
  obtain ⟨n1, n2, n3, n4, n5, n6, n7, n8, n9, n10, n11, n12⟩ := hnu
  obtain ⟨s1, s2, s3, s4, s5, s6, s7⟩ := hsc
  have c6 := z_cl n9
  have c2 := z_cl n7
  obtain ⟨a1, a2, a3, a4, a5, a6, -⟩ := id har
  have hK : ∀ r, r < (y.1 0 6).toNatClampNeg → (pz_tb (pz_K y) r = true ↔ pz_kn y (pz_vd y) r = true) := by
    intro r hr
    rw [z_K_tb hnu']
    simp [hr]
  -- the reference's walk over the rows
  have walk : ∀ (q : Int32) (f : Nat → Bool), (∀ r, r < (y.1 0 6).toNatClampNeg → (f r = true ↔ pz_tb (pz_K y) r = true ∧ (q = 4 ∨ y.1 6 r = -1))) → ax_lp (b_X10_count_74 q y) ((0 : Int32), (0 : Int32)) = some (nI (z_on f (y.1 0 6).toNatClampNeg)) := by
    intro q f hf
    refine z_for (f := b_X10_count_74 q y) (fun k => (nI (z_on f k), nI k)) (y.1 0 6).toNatClampNeg (fun k hk => ?_) ?_
    · have hkI : (nI k).toInt = (k : Int) := z_nI (by omega)
      have hkc := nI_cl (k := k) (by omega)
      unfold b_X10_count_74
      dsimp only
      rw [if_neg (by rw [z_le]; omega), pz_knR2 y (nI k) (by omega) (by omega), Option.bind_some, pz_if0, hkc]
      show _ = some (Sum.inl (nI (z_on f k + (if f k = true then 1 else 0)), nI (k + 1)))
      rw [← nI_s k]
      have hfk := hf k hk
      rw [hK k hk] at hfk
      by_cases g1 : pz_kn y (pz_vd y) k = true
      · rw [if_pos g1]
        by_cases g2 : q = 4
        · rw [if_pos g2, if_pos (hfk.mpr ⟨g1, Or.inl g2⟩), ← nI_s]
        · rw [if_neg g2, z_ai (Sd := cx_R) (x := y) (a := 6) (n := 40) rfl (by omega) (by omega), Option.bind_some, hkc]
          by_cases g3 : y.1 6 k = -1
          · rw [if_pos g3, if_pos (hfk.mpr ⟨g1, Or.inr g3⟩), ← nI_s]
          · rw [if_neg g3, if_neg (fun z => by rcases (hfk.mp z).2 with z | z; exact g2 z; exact g3 z), z_nI0]; rfl
      · rw [if_neg g1, if_neg (fun z => g1 (hfk.mp z).1), z_nI0]; rfl
    · have hkI : (nI (y.1 0 6).toNatClampNeg).toInt = ((y.1 0 6).toNatClampNeg : Int) := z_nI (by omega)
      unfold b_X10_count_74
      dsimp only
      rw [if_pos (by rw [z_le]; omega)]
  unfold f_X9_count f_X10_count
  by_cases p0 : p = 0
  · rw [if_pos p0, if_pos p0, s1]; exact ⟨_, rfl, rfl, hI'⟩
  rw [if_neg p0, if_neg p0]
  by_cases p1 : p = 1
  · rw [if_pos p1, if_pos p1, s3]; exact ⟨_, rfl, rfl, hI'⟩
  rw [if_neg p1, if_neg p1]
  by_cases p2 : p = 2
  · rw [if_pos p2, if_pos p2, s5]; exact ⟨_, rfl, rfl, hI'⟩
  rw [if_neg p2, if_neg p2]
  by_cases p3 : p = 3
  · rw [if_pos p3, if_pos p3, s6]; exact ⟨_, rfl, rfl, hI'⟩
  rw [if_neg p3, if_neg p3]
  by_cases p4 : p = 4
  · rw [if_pos p4, if_pos p4, pz_KC hI', Option.bind_some, pz_bitCount, Option.bind_some, walk p (pz_tb (pz_K y)) (fun r hr => ⟨fun z => ⟨z, Or.inl p4⟩, fun z => z.1⟩)]
    rw [z_on_z (pz_tb (pz_K y)) (m := (y.1 0 6).toNatClampNeg) (by omega) (by
      intro k hk
      rw [z_K_tb hnu']
      simp
      omega)]
    exact ⟨_, rfl, rfl, hI'⟩
  rw [if_neg p4, if_neg p4]
  by_cases p5 : p = 5
  · rw [if_pos p5, if_pos p5, pz_KC hI', Option.bind_some, walk p (fun r => pz_tb (pz_K y) r && decide (y.1 6 r = -1)) (fun r hr => by simp [p4])]
    refine ⟨nI (z_on (fun r => pz_tb (pz_K y) r && decide (y.1 6 r = -1)) (y.1 0 6).toNatClampNeg), ?_, rfl, hI'⟩
    unfold f_X7_howManyOn
    have key := z_for (f := b_X7_howManyOn_5 (pz_K y) x) (fun k => (nI (z_on (fun r => pz_tb (pz_K y) r && decide (y.1 6 r = -1)) k), nI k)) (y.1 0 6).toNatClampNeg (e := nI (z_on (fun r => pz_tb (pz_K y) r && decide (y.1 6 r = -1)) (y.1 0 6).toNatClampNeg)) (fun k hk => by
      have hkI : (nI k).toInt = (k : Int) := z_nI (by omega)
      have hkc := nI_cl (k := k) (by omega)
      unfold b_X7_howManyOn_5
      dsimp only
      rw [s6, if_neg (by rw [z_le]; omega)]
      show _ = some (Sum.inl (nI (z_on (fun r => pz_tb (pz_K y) r && decide (y.1 6 r = -1)) k + (if (pz_tb (pz_K y) k && decide (y.1 6 k = -1)) = true then 1 else 0)), nI (k + 1)))
      rw [← nI_s k]
      by_cases g1 : lg_cmp (ax_lushr (pz_K y) (nI k) &&& 1) 0 = 0
      · rw [if_pos g1]
        rw [z_tC _ (by omega)] at g1
        rw [if_neg (by rw [g1]; simp)]; rfl
      · rw [if_neg g1, z_ai (Sd := cx_C) (x := x) (a := 21) (n := 40) rfl (by omega) (by omega), Option.bind_some, hkc, a6]
        rw [z_tC _ (by omega)] at g1
        have g2 : pz_tb (pz_K y) k = true := by
          cases hh : pz_tb (pz_K y) k with
          | true => rfl
          | false => exact absurd hh g1
        by_cases g3 : y.1 6 k = -1
        · rw [if_pos g3, if_pos (by rw [g2]; simp [g3]), ← nI_s]
        · rw [if_neg g3, if_neg (by simp [g3])]; rfl) (by
      have hkI : (nI (y.1 0 6).toNatClampNeg).toInt = ((y.1 0 6).toNatClampNeg : Int) := z_nI (by omega)
      unfold b_X7_howManyOn_5
      dsimp only
      rw [s6, if_pos (by rw [z_le]; omega)])
    rw [show ((0 : Int32), (0 : Int32)) = (fun k => (nI (z_on (fun r => pz_tb (pz_K y) r && decide (y.1 6 r = -1)) k), nI k)) 0 from rfl, key]
    rfl
  rw [if_neg p5, if_neg p5]
  by_cases p6 : p = 6
  · rw [if_pos p6, if_pos p6]
    have key := z_two (f := b_X0_trustTogether_4 x) (g := b_X10_count_123 y) (fun a b => a = b ∧ ∃ k, k ≤ (y.1 0 2).toNatClampNeg ∧ a.2 = nI k) (fun e e' => e = e') (fun a => (y.1 0 2).toNatClampNeg - a.2.toNatClampNeg) (by
      rintro ⟨v, _⟩ _ ⟨rfl, k, hk, h1⟩
      dsimp only at h1
      subst h1
      have hkI : (nI k).toInt = (k : Int) := z_nI (by omega)
      have hkc := nI_cl (k := k) (by omega)
      by_cases hl : y.1 0 2 ≤ nI k
      · left
        refine ⟨v, v, z_lpr ?_, z_lpr ?_, rfl⟩
        · unfold b_X0_trustTogether_4; dsimp only; rw [s5, if_pos hl]
        · unfold b_X10_count_123; dsimp only; rw [if_pos hl]
      · right
        have hl' := hl
        rw [z_le, hkI] at hl'
        refine ⟨(v + y.1 3 k, nI k + 1), (v + y.1 3 k, nI k + 1), z_lpl ?_, z_lpl ?_, ⟨rfl, k + 1, by omega, nI_s k⟩, ?_⟩
        · unfold b_X0_trustTogether_4; dsimp only; rw [s5, if_neg hl, z_ai (Sd := cx_C) (x := x) (a := 28) (n := 6) rfl (by omega) (by omega), Option.bind_some, hkc, a3]
        · unfold b_X10_count_123; dsimp only; rw [if_neg hl, z_ai (Sd := cx_R) (x := y) (a := 3) (n := 6) rfl (by omega) (by omega), Option.bind_some, hkc]
        · dsimp only
          rw [nI_s, nI_cl (by omega), hkc]; omega)
      (a := ((0 : Int32), (0 : Int32))) (b := ((0 : Int32), (0 : Int32))) ⟨rfl, 0, Nat.zero_le _, rfl⟩
    obtain ⟨e, e', q1, q2, rfl⟩ := key
    unfold f_X0_trustTogether
    rw [q1, q2]
    exact ⟨e, rfl, rfl, hI'⟩
  rw [if_neg p6, if_neg p6]
  by_cases p7 : p = 7
  · rw [if_pos p7, if_pos p7, s7]; exact ⟨_, rfl, rfl, hI'⟩
  rw [if_neg p7, if_neg p7]
  by_cases p8 : p = 8
  · rw [if_pos p8, if_pos p8, s4]; exact ⟨_, rfl, rfl, hI'⟩
  rw [if_neg p8, if_neg p8]
  exact ⟨_, rfl, rfl, hI'⟩

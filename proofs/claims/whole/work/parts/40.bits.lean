/-! bits of a long -/
theorem z_lushr (a : Int64) {r : Nat} (h : r < 64) : (ax_lushr a (nI r)).toBitVec = a.toBitVec >>> r := by
  unfold ax_lushr
  rw [z_sh63 ⟨r, h⟩]
  show (a.toUInt64 >>> UInt64.ofNat r).toBitVec = _
  rw [UInt64.toBitVec_shiftRight]
  simp [BitVec.ushiftRight_eq', Nat.mod_eq_of_lt h]
  first | done | rfl | (congr 1; omega)
theorem z_smod : ∀ r : Fin 64, ((BitVec.ofNat 64 r.1).smod 64#64).toNat = r.1 := by decide
theorem z_lshr (a : Int64) {r : Nat} (h : r < 64) : (ax_lshr a (nI r)).toBitVec = a.toBitVec.sshiftRight r := by
  unfold ax_lshr
  rw [z_sh64 ⟨r, h⟩, Int64.toBitVec_shiftRight]
  simp [BitVec.sshiftRight_eq', Nat.mod_eq_of_lt h]
  have e := z_smod ⟨r, h⟩
  congr 1
theorem z_lshl (a : Int64) {r : Nat} (h : r < 64) : (ax_lshl a (nI r)).toBitVec = a.toBitVec <<< r := by
  unfold ax_lshl
  rw [z_sh64 ⟨r, h⟩, Int64.toBitVec_shiftLeft]
  simp [BitVec.shiftLeft_eq', Nat.mod_eq_of_lt h]
  have e := z_smod ⟨r, h⟩
  congr 1
theorem z_bit0 {x : BitVec 64} : x &&& 1#64 = 0#64 ↔ x.getLsbD 0 = false := by
  constructor
  · intro h
    have : (x &&& 1#64).getLsbD 0 = (0#64).getLsbD 0 := by rw [h]
    simpa using this
  · intro h
    apply BitVec.eq_of_getLsbD_eq
    intro i hi
    rw [BitVec.getLsbD_and, BitVec.getLsbD_zero]
    by_cases h0 : i = 0
    · subst h0
      rw [h]
      rfl
    · simp [BitVec.getLsbD_one, h0]
theorem z_bit1 {x : BitVec 64} : x &&& 1#64 = 1#64 ↔ x.getLsbD 0 = true := by
  constructor
  · intro h
    have : (x &&& 1#64).getLsbD 0 = (1#64).getLsbD 0 := by rw [h]
    simpa using this
  · intro h
    apply BitVec.eq_of_getLsbD_eq
    intro i hi
    simp only [BitVec.getLsbD_and]
    by_cases h0 : i = 0
    · subst h0
      simp [h]
    · simp [BitVec.getLsbD_one, h0]
theorem z_tC (l : Int64) {r : Nat} (h : r < 64) : lg_cmp (ax_lushr l (nI r) &&& 1) 0 = 0 ↔ pz_tb l r = false := by
  rw [z_cmp0, ← Int64.toBitVec_inj, Int64.toBitVec_and, z_lushr l h]
  show l.toBitVec >>> r &&& 1#64 = 0#64 ↔ _
  rw [z_bit0, BitVec.getLsbD_ushiftRight]
  rfl
theorem z_tR (l : Int64) {r : Nat} (h : r < 64) : lg_cmp (ax_lshr l (nI r) &&& 1) 1 = 0 ↔ pz_tb l r = true := by
  rw [z_cmp0, ← Int64.toBitVec_inj, Int64.toBitVec_and, z_lshr l h]
  show l.toBitVec.sshiftRight r &&& 1#64 = 1#64 ↔ _
  rw [z_bit1, BitVec.getLsbD_sshiftRight]
  simp [pz_tb, h]
theorem z_tb_or (a b : Int64) (r : Nat) : pz_tb (a ||| b) r = (pz_tb a r || pz_tb b r) := by simp [pz_tb]
theorem z_tb_and (a b : Int64) (r : Nat) : pz_tb (a &&& b) r = (pz_tb a r && pz_tb b r) := by simp [pz_tb]
theorem z_tb_not (a : Int64) {r : Nat} (h : r < 64) : pz_tb (a ^^^ -1) r = !pz_tb a r := by
  unfold pz_tb
  rw [Int64.toBitVec_xor, BitVec.getLsbD_xor]
  have : (-1 : Int64).toBitVec = BitVec.allOnes 64 := by decide
  rw [this, BitVec.getLsbD_allOnes]
  simp only [h, decide_true, Bool.xor_true]
theorem z_tb_one {k : Nat} (hk : k < 64) (r : Nat) : pz_tb (ax_lshl 1 (nI k)) r = decide (r = k) := by
  unfold pz_tb
  rw [z_lshl 1 hk]
  show (1#64 <<< k).getLsbD r = _
  rw [BitVec.getLsbD_shiftLeft, BitVec.getLsbD_one]
  by_cases h1 : r = k
  · subst h1
    simp [hk]
  · simp [h1]
    omega
theorem z_tb_zero (r : Nat) : pz_tb 0 r = false := by
  unfold pz_tb
  show (0#64).getLsbD r = false
  simp
theorem z_tb_ext {a b : Int64} (h : ∀ r, r < 64 → pz_tb a r = pz_tb b r) : a = b := by
  rw [← Int64.toBitVec_inj]
  exact BitVec.eq_of_getLsbD_eq h
theorem z_tb_big (a : Int64) {r : Nat} (h : 64 ≤ r) : pz_tb a r = false := BitVec.getLsbD_of_ge _ _ h
theorem z_kb_tb (y : ax_S) (d : Int32) (n : Nat) (hn : n ≤ 64) (r : Nat) : pz_tb (pz_kb y d n) r = (decide (r < n) && pz_kn y d r) := by
  induction n with
  | zero => simp [pz_kb, z_tb_zero]
  | succ n ih =>
    have ih := ih (by omega)
    rw [pz_kb]
    by_cases h : pz_kn y d n = true
    · rw [if_pos h, z_tb_or, ih, z_tb_one (by omega)]
      by_cases h1 : r = n
      · subst h1
        simp [h]
      · have : (r < n + 1) ↔ (r < n) := by omega
        simp [h1, this]
    · rw [if_neg h, ih]
      by_cases h1 : r = n
      · subst h1
        simp [h]
      · have : (r < n + 1) ↔ (r < n) := by omega
        simp [this]
theorem z_K_tb {y : ax_S} (hnu : pz_nu y) (r : Nat) : pz_tb (pz_K y) r = (decide (r < (y.1 0 6).toNatClampNeg) && pz_kn y (pz_vd y) r) := by
  obtain ⟨n1, n2, n3, n4, n5, n6, n7, n8, n9, n10, n11, n12⟩ := id hnu
  have := z_cl n9
  exact z_kb_tb y _ _ (by omega) r

/-! bits of an int -/
def z_pb (b : Int32) (r : Nat) : Bool := b.toBitVec.getLsbD r
theorem z_i31 : ∀ r : Fin 32, (nI r.1).toUInt32 &&& Int32.toUInt32 31 = UInt32.ofNat r.1 := by decide
theorem z_i32 : ∀ r : Fin 32, nI r.1 &&& 31 = Int32.ofNat r.1 := by decide
theorem z_ismod : ∀ r : Fin 32, ((BitVec.ofNat 32 r.1).smod 32#32).toNat = r.1 := by decide
theorem z_iushr (a : Int32) {r : Nat} (h : r < 32) : (ax_iushr a (nI r)).toBitVec = a.toBitVec >>> r := by
  unfold ax_iushr
  rw [z_i31 ⟨r, h⟩]
  show (a.toUInt32 >>> UInt32.ofNat r).toBitVec = _
  rw [UInt32.toBitVec_shiftRight]
  simp [BitVec.ushiftRight_eq', Nat.mod_eq_of_lt h]
  first | done | rfl | (congr 1; omega)
theorem z_ishr (a : Int32) {r : Nat} (h : r < 32) : (a >>> (nI r &&& 31)).toBitVec = a.toBitVec.sshiftRight r := by
  rw [z_i32 ⟨r, h⟩, Int32.toBitVec_shiftRight]
  simp [BitVec.sshiftRight_eq', Nat.mod_eq_of_lt h]
  have e := z_ismod ⟨r, h⟩
  congr 1
theorem z_ishl (a : Int32) {r : Nat} (h : r < 32) : (a <<< (nI r &&& 31)).toBitVec = a.toBitVec <<< r := by
  rw [z_i32 ⟨r, h⟩, Int32.toBitVec_shiftLeft]
  simp [BitVec.shiftLeft_eq', Nat.mod_eq_of_lt h]
  have e := z_ismod ⟨r, h⟩
  congr 1
theorem z_jbit0 {x : BitVec 32} : x &&& 1#32 = 0#32 ↔ x.getLsbD 0 = false := by
  constructor
  · intro h
    have : (x &&& 1#32).getLsbD 0 = (0#32).getLsbD 0 := by rw [h]
    simpa using this
  · intro h
    apply BitVec.eq_of_getLsbD_eq
    intro i hi
    rw [BitVec.getLsbD_and, BitVec.getLsbD_zero]
    by_cases h0 : i = 0
    · subst h0
      rw [h]
      rfl
    · simp [BitVec.getLsbD_one, h0]
theorem z_jbit1 {x : BitVec 32} : x &&& 1#32 = 1#32 ↔ x.getLsbD 0 = true := by
  constructor
  · intro h
    have : (x &&& 1#32).getLsbD 0 = (1#32).getLsbD 0 := by rw [h]
    simpa using this
  · intro h
    apply BitVec.eq_of_getLsbD_eq
    intro i hi
    simp only [BitVec.getLsbD_and]
    by_cases h0 : i = 0
    · subst h0
      simp [h]
    · simp [BitVec.getLsbD_one, h0]
theorem z_pC (l : Int32) {r : Nat} (h : r < 32) : ax_iushr l (nI r) &&& 1 = 0 ↔ z_pb l r = false := by
  rw [← Int32.toBitVec_inj, Int32.toBitVec_and, z_iushr l h]
  show l.toBitVec >>> r &&& 1#32 = 0#32 ↔ _
  rw [z_jbit0, BitVec.getLsbD_ushiftRight]
  rfl
theorem z_pR0 (l : Int32) {r : Nat} (h : r < 32) : (l >>> (nI r &&& 31)) &&& 1 = 0 ↔ z_pb l r = false := by
  rw [← Int32.toBitVec_inj, Int32.toBitVec_and, z_ishr l h]
  show l.toBitVec.sshiftRight r &&& 1#32 = 0#32 ↔ _
  rw [z_jbit0, BitVec.getLsbD_sshiftRight]
  simp [z_pb, h]
theorem z_pR1 (l : Int32) {r : Nat} (h : r < 32) : (l >>> (nI r &&& 31)) &&& 1 = 1 ↔ z_pb l r = true := by
  rw [← Int32.toBitVec_inj, Int32.toBitVec_and, z_ishr l h]
  show l.toBitVec.sshiftRight r &&& 1#32 = 1#32 ↔ _
  rw [z_jbit1, BitVec.getLsbD_sshiftRight]
  simp [z_pb, h]
theorem z_pb_or (a b : Int32) (r : Nat) : z_pb (a ||| b) r = (z_pb a r || z_pb b r) := by simp [z_pb]
theorem z_pb_and (a b : Int32) (r : Nat) : z_pb (a &&& b) r = (z_pb a r && z_pb b r) := by simp [z_pb]
theorem z_pb_not (a : Int32) {r : Nat} (h : r < 32) : z_pb (a ^^^ -1) r = !z_pb a r := by
  unfold z_pb
  rw [Int32.toBitVec_xor, BitVec.getLsbD_xor]
  have : (-1 : Int32).toBitVec = BitVec.allOnes 32 := by decide
  rw [this, BitVec.getLsbD_allOnes]
  simp only [h, decide_true, Bool.xor_true]
theorem z_pb_one {k : Nat} (hk : k < 32) (r : Nat) : z_pb ((1 : Int32) <<< (nI k &&& 31)) r = decide (r = k) := by
  unfold z_pb
  rw [z_ishl 1 hk]
  show (1#32 <<< k).getLsbD r = _
  rw [BitVec.getLsbD_shiftLeft, BitVec.getLsbD_one]
  by_cases h1 : r = k
  · subst h1
    simp [hk]
  · simp [h1]
    omega
theorem z_pb_zero (r : Nat) : z_pb 0 r = false := by
  unfold z_pb
  show (0#32).getLsbD r = false
  simp
theorem z_pb_ext {a b : Int32} (h : ∀ r, r < 32 → z_pb a r = z_pb b r) : a = b := by
  rw [← Int32.toBitVec_inj]
  exact BitVec.eq_of_getLsbD_eq h
theorem z_pb_big (a : Int32) {r : Nat} (h : 32 ≤ r) : z_pb a r = false := BitVec.getLsbD_of_ge _ _ h
theorem z_pb_nI (S r : Nat) : z_pb (nI S) r = (decide (r < 32) && S.testBit r) := by
  unfold z_pb nI
  rw [Int32.toBitVec_ofNat', BitVec.getLsbD_ofNat]
theorem z_pb_nI' {S r : Nat} (h : r < 32) : z_pb (nI S) r = S.testBit r := by
  rw [z_pb_nI]
  simp [h]
theorem z_pN (v l : Int32) : v &&& (l ^^^ -1) = 0 ↔ ∀ o, o < 32 → z_pb v o = true → z_pb l o = true := by
  constructor
  · intro h o ho hv
    have : z_pb (v &&& (l ^^^ -1)) o = false := by rw [h]; exact z_pb_zero o
    rw [z_pb_and, z_pb_not l ho, hv] at this
    simpa using this
  · intro h
    apply z_pb_ext
    intro r hr
    rw [z_pb_and, z_pb_not l hr, z_pb_zero]
    have := h r hr
    cases hv : z_pb v r with
    | false => rfl
    | true => rw [this hv]; rfl
theorem z_nIor (S : Nat) {k : Nat} (hk : k < 32) : nI S ||| ((1 : Int32) <<< (nI k &&& 31)) = nI (S ||| 2 ^ k) := by
  apply z_pb_ext
  intro r hr
  rw [z_pb_or, z_pb_one hk, z_pb_nI' hr, z_pb_nI' hr, Nat.testBit_or, Nat.testBit_two_pow]
  congr 1
  by_cases h : r = k
  · simp [h]
  · simp [h, Ne.symm h]
theorem z_2n : ∀ n : Fin 13, ((1 : Int32) <<< (nI n.1 &&& 31)) = nI (2 ^ n.1) := by decide
theorem z_2le : ∀ n : Fin 13, 1 ≤ 2 ^ n.1 ∧ 2 ^ n.1 ≤ 4096 := by decide
/-! sets -/
theorem z_or_lt {S n t : Nat} (hS : S < 2 ^ n) (ht : t < n) : S ||| 2 ^ t < 2 ^ n := Nat.or_lt_two_pow hS (Nat.pow_lt_pow_right (by decide) ht)
theorem z_or_bit (S t r : Nat) : (S ||| 2 ^ t).testBit r = (S.testBit r || decide (t = r)) := by
  rw [Nat.testBit_or, Nat.testBit_two_pow]
theorem z_or_gt {S t : Nat} (h : S.testBit t = false) : S < S ||| 2 ^ t := by
  have h1 : S ≤ S ||| 2 ^ t := Nat.left_le_or
  have h2 : S ≠ S ||| 2 ^ t := by
    intro q
    have : (S ||| 2 ^ t).testBit t = S.testBit t := by rw [← q]
    rw [z_or_bit, h] at this
    simp at this
  omega
def z_may (b : Nat → Int32) (S t : Nat) : Prop := S.testBit t = false ∧ ∀ o, o < 32 → z_pb (b t) o = true → S.testBit o = true
def z_mis (n S : Nat) : Nat := z_on (fun t => !S.testBit t) n
theorem z_mis_or {S t : Nat} (h : S.testBit t = false) : ∀ n, t < n → z_mis n (S ||| 2 ^ t) + 1 = z_mis n S := by
  intro n
  induction n with
  | zero => intro q; omega
  | succ n ih =>
    intro ht
    show z_on (fun j => !(S ||| 2 ^ t).testBit j) n + (if (!(S ||| 2 ^ t).testBit n) = true then 1 else 0) + 1 = z_on (fun j => !S.testBit j) n + (if (!S.testBit n) = true then 1 else 0)
    rw [z_or_bit]
    by_cases hn : t = n
    · subst hn
      have e : z_on (fun j => !(S ||| 2 ^ t).testBit j) t = z_on (fun j => !S.testBit j) t := z_on_congr (fun j hj => by
        rw [z_or_bit]
        have : ¬ t = j := by omega
        simp [this])
      rw [e, h]
      simp
    · have q := ih (by omega)
      unfold z_mis at q
      simp only [hn, decide_false, Bool.or_false]
      omega
theorem z_mis_0 {S : Nat} : ∀ n, z_mis n S = 0 → ∀ t, t < n → S.testBit t = true := by
  intro n
  induction n with
  | zero => intro _ t ht; omega
  | succ n ih =>
    intro h t ht
    change z_on (fun j => !S.testBit j) n + (if (!S.testBit n) = true then 1 else 0) = 0 at h
    by_cases hn : t = n
    · subst hn
      cases q : S.testBit t with
      | true => rfl
      | false => rw [q] at h; simp at h
    · exact ih (by unfold z_mis; omega) t (by omega)
theorem z_mis_w (n : Nat) : z_mis n (2 ^ n - 1) = 0 := by
  have : ∀ m, m ≤ n → z_on (fun t => !(2 ^ n - 1).testBit t) m = 0 := by
    intro m
    induction m with
    | zero => intro _; rfl
    | succ m ih =>
      intro h
      show z_on (fun t => !(2 ^ n - 1).testBit t) m + (if (!(2 ^ n - 1).testBit m) = true then 1 else 0) = 0
      rw [ih (by omega), Nat.testBit_two_pow_sub_one]
      have : m < n := by omega
      simp [this]
  exact this n (Nat.le_refl n)
theorem z_mis_ne {n S : Nat} (hS : S < 2 ^ n) (h : S ≠ 2 ^ n - 1) : z_mis n S ≠ 0 := by
  intro q
  apply h
  apply Nat.eq_of_testBit_eq
  intro i
  rw [Nat.testBit_two_pow_sub_one]
  by_cases hi : i < n
  · rw [z_mis_0 n q i hi]; simp [hi]
  · rw [Nat.testBit_lt_two_pow (Nat.lt_of_lt_of_le hS (Nat.pow_le_pow_right (by decide) (by omega)))]; simp [hi]
/-! sums, and in how many ways orders go on -/
def z_ns (f : Nat → Nat) : Nat → Nat
  | 0 => 0
  | k + 1 => z_ns f k + f k
theorem z_ns_congr {f g : Nat → Nat} {n : Nat} (h : ∀ k, k < n → f k = g k) : z_ns f n = z_ns g n := by
  induction n with
  | zero => rfl
  | succ n ih =>
    show z_ns f n + f n = z_ns g n + g n
    rw [ih (fun k hk => h k (by omega)), h n (by omega)]
theorem z_ns_ge {f : Nat → Nat} {t n : Nat} (h : t < n) : f t ≤ z_ns f n := by
  induction n with
  | zero => omega
  | succ n ih =>
    show f t ≤ z_ns f n + f n
    by_cases q : t = n
    · subst q; omega
    · have := ih (by omega); omega
theorem z_ns_add {f g h : Nat → Nat} {n : Nat} (hh : ∀ k, k < n → f k + g k = h k) : z_ns f n + z_ns g n = z_ns h n := by
  induction n with
  | zero => rfl
  | succ n ih =>
    show z_ns f n + f n + (z_ns g n + g n) = z_ns h n + h n
    have a := ih (fun k hk => hh k (by omega))
    have b := hh n (by omega)
    omega
noncomputable def z_cf (b : Nat → Int32) (n : Nat) : Nat → Nat → Nat
  | 0, _ => 1
  | k + 1, S => z_ns (fun t => @ite Nat (z_may b S t) (Classical.propDecidable _) (z_cf b n k (S ||| 2 ^ t)) 0) n
noncomputable def z_ct (b : Nat → Int32) (n S : Nat) : Nat := z_cf b n (z_mis n S) S
theorem z_ct_w (b : Nat → Int32) (n : Nat) : z_ct b n (2 ^ n - 1) = 1 := by
  unfold z_ct
  rw [z_mis_w]
  rfl
theorem z_ct_s (b : Nat → Int32) {n S : Nat} (hS : S < 2 ^ n) (h : S ≠ 2 ^ n - 1) : z_ct b n S = z_ns (fun t => @ite Nat (z_may b S t) (Classical.propDecidable _) (z_ct b n (S ||| 2 ^ t)) 0) n := by
  have h0 := z_mis_ne hS h
  obtain ⟨k, hk⟩ : ∃ k, z_mis n S = k + 1 := ⟨z_mis n S - 1, by omega⟩
  unfold z_ct
  rw [hk]
  show z_ns (fun t => @ite Nat (z_may b S t) (Classical.propDecidable _) (z_cf b n k (S ||| 2 ^ t)) 0) n = _
  apply z_ns_congr
  intro t ht
  by_cases hm : z_may b S t
  · rw [if_pos hm, if_pos hm]
    have := z_mis_or hm.1 n ht
    rw [show z_mis n (S ||| 2 ^ t) = k by omega]
  · rw [if_neg hm, if_neg hm]
def z_fac : Nat → Nat
  | 0 => 1
  | k + 1 => (k + 1) * z_fac k
theorem z_fac12 : ∀ k : Fin 13, z_fac k.1 ≤ 479001600 := by decide
theorem z_cf_le (b : Nat → Int32) (n : Nat) : ∀ k S, z_mis n S = k → z_cf b n k S ≤ z_fac k := by
  intro k
  induction k with
  | zero => intro S _; exact Nat.le_refl 1
  | succ k ih =>
    intro S hS
    have : ∀ m, m ≤ n → z_ns (fun t => @ite Nat (z_may b S t) (Classical.propDecidable _) (z_cf b n k (S ||| 2 ^ t)) 0) m ≤ z_mis m S * z_fac k := by
      intro m
      induction m with
      | zero => intro _; exact Nat.zero_le _
      | succ m ihm =>
        intro hm
        have a := ihm (by omega)
        show z_ns (fun t => @ite Nat (z_may b S t) (Classical.propDecidable _) (z_cf b n k (S ||| 2 ^ t)) 0) m + @ite Nat (z_may b S m) (Classical.propDecidable _) (z_cf b n k (S ||| 2 ^ m)) 0 ≤ (z_mis m S + (if (!S.testBit m) = true then 1 else 0)) * z_fac k
        by_cases hy : z_may b S m
        · rw [if_pos hy, hy.1]
          have c := z_mis_or hy.1 n (by omega)
          have d := ih (S ||| 2 ^ m) (by omega)
          rw [Nat.add_mul]
          simp
          omega
        · rw [if_neg hy, Nat.add_mul]
          have : 0 ≤ (if (!S.testBit m) = true then 1 else 0) * z_fac k := Nat.zero_le _
          omega
    have h := this n (Nat.le_refl n)
    rw [hS] at h
    exact h
theorem z_ct_le (b : Nat → Int32) {n : Nat} (hn : n ≤ 12) (S : Nat) : z_ct b n S ≤ 479001600 := by
  have h1 := z_cf_le b n (z_mis n S) S rfl
  have h2 : z_mis n S ≤ n := z_on_le _ n
  have h3 : z_fac (z_mis n S) ≤ 479001600 := z_fac12 ⟨z_mis n S, by omega⟩
  unfold z_ct
  omega
theorem z_cf_pos {b : Nat → Int32} {n : Nat} {u : Nat → Int} (hu : ∀ t o, t < n → z_pb (b t) o = true → o < n ∧ u o < u t) : ∀ k S, z_mis n S = k → 1 ≤ z_cf b n k S := by
  intro k
  induction k with
  | zero => intro S _; exact Nat.le_refl 1
  | succ k ih =>
    intro S hS
    have hex : ∃ e, e < n ∧ S.testBit e = false := by
      apply Classical.byContradiction
      intro q
      have : ∀ m, m ≤ n → z_mis m S = 0 := by
        intro m
        induction m with
        | zero => intro _; rfl
        | succ m ihm =>
          intro hm
          show z_mis m S + (if (!S.testBit m) = true then 1 else 0) = 0
          rw [ihm (by omega)]
          cases hb : S.testBit m with
          | true => rfl
          | false => exact absurd ⟨m, by omega, hb⟩ q
      have := this n (Nat.le_refl n)
      omega
    obtain ⟨t, t1, t2, t3⟩ := nz_min (fun e => S.testBit e = false) u n hex
    have hm : z_may b S t := by
      refine ⟨t2, fun o _ ho => ?_⟩
      obtain ⟨o1, o2⟩ := hu t o t1 ho
      cases hb : S.testBit o with
      | true => rfl
      | false =>
        have := t3 o o1 hb
        omega
    have h1 := z_mis_or t2 n t1
    have h2 := ih (S ||| 2 ^ t) (by omega)
    have h3 := z_ns_ge (f := fun t => @ite Nat (z_may b S t) (Classical.propDecidable _) (z_cf b n k (S ||| 2 ^ t)) 0) t1
    rw [if_pos hm] at h3
    show 1 ≤ z_ns (fun t => @ite Nat (z_may b S t) (Classical.propDecidable _) (z_cf b n k (S ||| 2 ^ t)) 0) n
    omega
theorem z_ct_cg {b b' : Nat → Int32} {n : Nat} (h : ∀ t, t < n → b t = b' t) (S : Nat) : z_ct b n S = z_ct b' n S := by
  have : ∀ k S, z_cf b n k S = z_cf b' n k S := by
    intro k
    induction k with
    | zero => intro S; rfl
    | succ k ih =>
      intro S
      show z_ns _ n = z_ns _ n
      apply z_ns_congr
      intro t ht
      have e : z_may b S t ↔ z_may b' S t := by unfold z_may; rw [h t ht]
      by_cases q : z_may b S t
      · rw [if_pos q, if_pos (e.mp q), ih]
      · rw [if_neg q, if_neg (fun z => q (e.mpr z))]
  unfold z_ct
  rw [this]
/-! sums of ints -/
def z_su (f : Nat → Int32) : Nat → Int32
  | 0 => 0
  | k + 1 => z_su f k + f k
theorem z_su_congr {f g : Nat → Int32} {n : Nat} (h : ∀ k, k < n → f k = g k) : z_su f n = z_su g n := by
  induction n with
  | zero => rfl
  | succ n ih =>
    show z_su f n + f n = z_su g n + g n
    rw [ih (fun k hk => h k (by omega)), h n (by omega)]
theorem z_su_first (f : Nat → Int32) (k : Nat) : z_su f (k + 1) = f 0 + z_su (fun i => f (i + 1)) k := by
  induction k with
  | zero =>
    show (0 : Int32) + f 0 = f 0 + 0
    rw [Int32.zero_add, Int32.add_zero]
  | succ k ih =>
    show z_su f (k + 1) + f (k + 1) = f 0 + (z_su (fun i => f (i + 1)) k + f (k + 1))
    rw [ih, Int32.add_assoc]
theorem z_su_pt {f g : Nat → Int32} {p k : Nat} {d : Int32} (hp : p < k) (h : ∀ i, i < k → i ≠ p → g i = f i) (hd : g p = f p + d) : z_su g k = z_su f k + d := by
  induction k with
  | zero => omega
  | succ k ih =>
    show z_su g k + g k = z_su f k + f k + d
    by_cases q : p = k
    · subst q
      rw [hd, z_su_congr (g := f) (fun i hi => h i (by omega) (by omega)), Int32.add_assoc]
    · rw [ih (by omega) (fun i hi => h i (by omega)), h k (by omega) (by omega), Int32.add_assoc, Int32.add_comm d, ← Int32.add_assoc]
theorem z_su_0 {f : Nat → Int32} {k : Nat} (h : ∀ i, i < k → f i = 0) : z_su f k = 0 := by
  induction k with
  | zero => rfl
  | succ k ih =>
    show z_su f k + f k = 0
    rw [ih (fun i hi => h i (by omega)), h k (by omega)]
    rfl
theorem z_su_nI (f : Nat → Nat) (n : Nat) : z_su (fun t => nI (f t)) n = nI (z_ns f n) := by
  induction n with
  | zero => rfl
  | succ n ih =>
    show z_su (fun t => nI (f t)) n + nI (f n) = nI (z_ns f n + f n)
    rw [ih, nI_add]
theorem z_su_add (f g : Nat → Int32) (n : Nat) : z_su (fun t => f t + g t) n = z_su f n + z_su g n := by
  induction n with
  | zero => rfl
  | succ n ih =>
    show z_su (fun t => f t + g t) n + (f n + g n) = z_su f n + f n + (z_su g n + g n)
    rw [ih]
    grind
theorem z_ring1 (a w m s r : Int32) : a + w * (m - s) + (r + w * s) = a + (w * m + r) := by grind

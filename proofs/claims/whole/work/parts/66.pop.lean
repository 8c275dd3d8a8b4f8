/-! how many bits: Long.bitCount -/
def z_on (p : Nat → Bool) : Nat → Nat
  | 0 => 0
  | n + 1 => z_on p n + (if p n = true then 1 else 0)
theorem z_on_add (p : Nat → Bool) (a b : Nat) : z_on p (a + b) = z_on p a + z_on (fun k => p (a + k)) b := by
  induction b with
  | zero => rfl
  | succ b ih =>
    show z_on p (a + b) + (if p (a + b) = true then 1 else 0) = z_on p a + (z_on (fun k => p (a + k)) b + (if p (a + b) = true then 1 else 0))
    omega
theorem z_on_congr {p q : Nat → Bool} {n : Nat} (h : ∀ k, k < n → p k = q k) : z_on p n = z_on q n := by
  induction n with
  | zero => rfl
  | succ n ih =>
    show z_on p n + _ = z_on q n + _
    rw [ih (fun k hk => h k (by omega)), h n (by omega)]
theorem z_on_le (p : Nat → Bool) (n : Nat) : z_on p n ≤ n := by
  induction n with
  | zero => exact Nat.le_refl 0
  | succ n ih =>
    show z_on p n + (if p n = true then 1 else 0) ≤ n + 1
    split <;> omega
theorem z_land256 {a b c d : Nat} (hb : b < 256) (hd : d < 256) : (256 * a + b) &&& (256 * c + d) = 256 * (a &&& c) + (b &&& d) := by
  have hbd : b &&& d < 2 ^ 8 := Nat.and_lt_two_pow b (by omega)
  apply Nat.eq_of_testBit_eq
  intro i
  rw [Nat.testBit_and, show (256 : Nat) = 2 ^ 8 from rfl, Nat.testBit_two_pow_mul_add a (by omega), Nat.testBit_two_pow_mul_add c (by omega), Nat.testBit_two_pow_mul_add (a &&& c) hbd]
  by_cases h : i < 8
  · rw [if_pos h, if_pos h, if_pos h, Nat.testBit_and]
  · rw [if_neg h, if_neg h, if_neg h, Nat.testBit_and]
def nz_mk (c : Nat) : Nat → Nat
  | 0 => 0
  | n + 1 => 256 * nz_mk c n + c
def nz_t1 (n i : Nat) : Nat := i - ((i / 2) &&& nz_mk 85 n)
def nz_t2 (n i : Nat) : Nat := (i &&& nz_mk 51 n) + ((i / 4) &&& nz_mk 51 n)
def nz_t3 (n i : Nat) : Nat := (i + i / 16) &&& nz_mk 15 n
def nz_s1 (c : Nat) : Nat := c - ((c / 2) &&& 85)
def nz_s2 (c : Nat) : Nat := (c &&& 51) + ((c / 4) &&& 51)
def nz_s3 (c : Nat) : Nat := (c + c / 16) &&& 15
theorem nz_d1 : ∀ w : Fin 2, ∀ c : Fin 256, (w.1 * 128 + c.1 / 2) &&& 85 = (c.1 / 2) &&& 85 := by decide +kernel
theorem nz_d2 : ∀ w : Fin 4, ∀ c : Fin 256, (w.1 * 64 + c.1 / 4) &&& 51 = (c.1 / 4) &&& 51 := by decide +kernel
theorem nz_d3 : ∀ c : Fin 256, nz_s1 c.1 < 256 ∧ nz_s2 (nz_s1 c.1) ≤ 68 ∧ nz_s2 (nz_s1 c.1) % 16 ≤ 4 ∧ nz_s3 (nz_s2 (nz_s1 c.1)) = z_on c.1.testBit 8 := by decide +kernel
theorem nz_c1 (n q c : Nat) (hc : c < 256) : nz_t1 (n + 1) (256 * q + c) = 256 * nz_t1 n q + nz_s1 c := by
  have e : (256 * q + c) / 2 = 256 * (q / 2) + ((q % 2) * 128 + c / 2) := by omega
  have l1 : ((q % 2) * 128 + c / 2) &&& 85 = (c / 2) &&& 85 := nz_d1 ⟨q % 2, by omega⟩ ⟨c, hc⟩
  have l2 : (c / 2) &&& 85 ≤ c / 2 := Nat.and_le_left
  have l3 : (q / 2) &&& nz_mk 85 n ≤ q / 2 := Nat.and_le_left
  unfold nz_t1 nz_s1
  rw [e, show nz_mk 85 (n + 1) = 256 * nz_mk 85 n + 85 from rfl, z_land256 (by omega) (by omega), l1]
  omega
theorem nz_c2 (n u d : Nat) (hd : d < 256) : nz_t2 (n + 1) (256 * u + d) = 256 * nz_t2 n u + nz_s2 d := by
  have e : (256 * u + d) / 4 = 256 * (u / 4) + ((u % 4) * 64 + d / 4) := by omega
  have l1 : ((u % 4) * 64 + d / 4) &&& 51 = (d / 4) &&& 51 := nz_d2 ⟨u % 4, by omega⟩ ⟨d, hd⟩
  unfold nz_t2 nz_s2
  rw [e, show nz_mk 51 (n + 1) = 256 * nz_mk 51 n + 51 from rfl, z_land256 hd (by omega), z_land256 (by omega) (by omega), l1]
  omega
theorem z_and15 (x : Nat) : x &&& 15 = x % 16 := Nat.and_two_pow_sub_one_eq_mod x 4
theorem nz_c3 (n v e : Nat) (he : e ≤ 68) (hv : v % 16 ≤ 4) : nz_t3 (n + 1) (256 * v + e) = 256 * nz_t3 n v + nz_s3 e := by
  have e1 : 256 * v + e + (256 * v + e) / 16 = 256 * (v + v / 16) + (e + e / 16 + 16 * (v % 16)) := by omega
  unfold nz_t3 nz_s3
  rw [e1, show nz_mk 15 (n + 1) = 256 * nz_mk 15 n + 15 from rfl, z_land256 (by omega) (by omega), z_and15, z_and15]
  omega
def nz_P : Nat → Nat → Nat
  | 0, _ => 0
  | n + 1, i => 256 * nz_P n (i / 256) + z_on (i % 256).testBit 8
theorem nz_lanes : ∀ n i, nz_t3 n (nz_t2 n (nz_t1 n i)) = nz_P n i := by
  intro n
  induction n with
  | zero =>
    intro i
    unfold nz_t3 nz_t2 nz_t1 nz_mk nz_P
    simp
  | succ n ih =>
    intro i
    have hi : i = 256 * (i / 256) + i % 256 := by omega
    have hc : i % 256 < 256 := by omega
    obtain ⟨k1, k2, k3, k4⟩ := nz_d3 ⟨i % 256, hc⟩
    dsimp only at k1 k2 k3 k4
    have hv : nz_t2 n (nz_t1 n (i / 256)) % 16 ≤ 4 := by
      cases n with
      | zero => unfold nz_t2 nz_mk; simp
      | succ m =>
        have hq : i / 256 = 256 * (i / 256 / 256) + i / 256 % 256 := by omega
        obtain ⟨j1, j2, j3, -⟩ := nz_d3 ⟨i / 256 % 256, by omega⟩
        dsimp only at j1 j2 j3
        rw [hq, nz_c1 m _ _ (by omega), nz_c2 m _ _ (by omega)]
        omega
    rw [show nz_t1 (n + 1) i = 256 * nz_t1 n (i / 256) + nz_s1 (i % 256) from by rw [← nz_c1 n _ _ hc, ← hi], nz_c2 n _ _ k1, nz_c3 n _ _ k2 hv, ih, k4]
    rfl
theorem z_on_lane (i m : Nat) : z_on i.testBit (8 + m) = z_on (i % 256).testBit 8 + z_on (i / 256).testBit m := by
  rw [z_on_add]
  congr 1
  · apply z_on_congr
    intro k hk
    rw [show (256 : Nat) = 2 ^ 8 from rfl, Nat.testBit_mod_two_pow]
    simp [hk]
  · apply z_on_congr
    intro k hk
    rw [show (256 : Nat) = 2 ^ 8 from rfl, ← Nat.shiftRight_eq_div_pow, Nat.testBit_shiftRight]
theorem nz_sum (i : Nat) : z_on i.testBit 64 = z_on (i % 256).testBit 8 + (z_on (i / 256 % 256).testBit 8 + (z_on (i / 256 / 256 % 256).testBit 8 + (z_on (i / 256 / 256 / 256 % 256).testBit 8 + (z_on (i / 256 / 256 / 256 / 256 % 256).testBit 8 + (z_on (i / 256 / 256 / 256 / 256 / 256 % 256).testBit 8 + (z_on (i / 256 / 256 / 256 / 256 / 256 / 256 % 256).testBit 8 + z_on (i / 256 / 256 / 256 / 256 / 256 / 256 / 256 % 256).testBit 8)))))) := by
  rw [show (64 : Nat) = 8 + (8 + (8 + (8 + (8 + (8 + (8 + (8 + 0))))))) from rfl, z_on_lane, z_on_lane, z_on_lane, z_on_lane, z_on_lane, z_on_lane, z_on_lane, z_on_lane]
  rfl
theorem z_divK {K A r u : Nat} (h : u = K * A + r) (hr : r < K) : u / K = A := by
  rw [h, Nat.mul_add_div (by omega), Nat.div_eq_of_lt hr, Nat.add_zero]
theorem z_modK {X S u : Nat} (h : u = 128 * X + S) (hr : S < 128) : u % 128 = S := by
  rw [h, Nat.mul_add_mod, Nat.mod_eq_of_lt hr]
theorem nz_f1 {w p0 p1 p2 p3 p4 p5 p6 p7 : Nat} (b0 : p0 ≤ 8) (hw : w = 256 * (256 * (256 * (256 * (256 * (256 * (256 * (256 * 0 + p7) + p6) + p5) + p4) + p3) + p2) + p1) + p0) : w / 256 = 256 * (256 * (256 * (256 * (256 * (256 * p7 + p6) + p5) + p4) + p3) + p2) + p1 := by
  refine z_divK (K := 256) (A := 256 * (256 * (256 * (256 * (256 * (256 * p7 + p6) + p5) + p4) + p3) + p2) + p1) (r := p0) ?_ (by omega)
  rw [hw, Nat.mul_zero, Nat.zero_add]
theorem nz_f2 {w u p0 p1 p2 p3 p4 p5 p6 p7 : Nat} (hw : w = 256 * (256 * (256 * (256 * (256 * (256 * (256 * (256 * 0 + p7) + p6) + p5) + p4) + p3) + p2) + p1) + p0) (hu : w + (256 * (256 * (256 * (256 * (256 * (256 * p7 + p6) + p5) + p4) + p3) + p2) + p1) = u) : u = 65536 * (256 * (256 * (256 * (256 * (256 * p7 + (p6 + p7)) + (p5 + p6)) + (p4 + p5)) + (p3 + p4)) + (p2 + p3)) + (256 * (p1 + p2) + (p0 + p1)) := by omega
theorem nz_f3 {u t p0 p1 p2 p3 p4 p5 p6 p7 : Nat} (hu : u = 65536 * (256 * (256 * (256 * (256 * (256 * p7 + (p6 + p7)) + (p5 + p6)) + (p4 + p5)) + (p3 + p4)) + (p2 + p3)) + (256 * (p1 + p2) + (p0 + p1))) (ht : u + (256 * (256 * (256 * (256 * (256 * p7 + (p6 + p7)) + (p5 + p6)) + (p4 + p5)) + (p3 + p4)) + (p2 + p3)) = t) : t = 4294967296 * (256 * (256 * (256 * p7 + (p6 + p7)) + (p5 + p6 + p7)) + (p4 + p5 + (p6 + p7))) + (256 * (256 * (256 * (p3 + p4 + (p5 + p6)) + (p2 + p3 + (p4 + p5))) + (p1 + p2 + (p3 + p4))) + (p0 + p1 + (p2 + p3))) := by omega
theorem nz_f4 {t p0 p1 p2 p3 p4 p5 p6 p7 : Nat} (b0 : p0 ≤ 8) (b1 : p1 ≤ 8) (b2 : p2 ≤ 8) (b3 : p3 ≤ 8) (b4 : p4 ≤ 8) (b5 : p5 ≤ 8) (b6 : p6 ≤ 8) (ht : t = 4294967296 * (256 * (256 * (256 * p7 + (p6 + p7)) + (p5 + p6 + p7)) + (p4 + p5 + (p6 + p7))) + (256 * (256 * (256 * (p3 + p4 + (p5 + p6)) + (p2 + p3 + (p4 + p5))) + (p1 + p2 + (p3 + p4))) + (p0 + p1 + (p2 + p3)))) : t / 4294967296 = 256 * (256 * (256 * p7 + (p6 + p7)) + (p5 + p6 + p7)) + (p4 + p5 + (p6 + p7)) := z_divK ht (by omega)
theorem nz_f5 {A B C s s' t : Nat} (ht : t = 4294967296 * A + (256 * B + s)) (hs : s + s' < 128) (hA : A = 256 * C + s') : (t + A) % 128 = s + s' := by
  refine z_modK (X := 33554432 * A + 2 * B + 2 * C) ?_ hs
  omega
theorem nz_f7 {u p0 p1 p2 p3 p4 p5 p6 p7 : Nat} (b0 : p0 ≤ 8) (b1 : p1 ≤ 8) (b2 : p2 ≤ 8) (hu : u = 65536 * (256 * (256 * (256 * (256 * (256 * p7 + (p6 + p7)) + (p5 + p6)) + (p4 + p5)) + (p3 + p4)) + (p2 + p3)) + (256 * (p1 + p2) + (p0 + p1))) : u / 65536 = 256 * (256 * (256 * (256 * (256 * p7 + (p6 + p7)) + (p5 + p6)) + (p4 + p5)) + (p3 + p4)) + (p2 + p3) := z_divK hu (by omega)
theorem nz_f8 {p0 p1 p2 p3 p4 p5 p6 p7 : Nat} (b0 : p0 ≤ 8) (b1 : p1 ≤ 8) (b2 : p2 ≤ 8) (b3 : p3 ≤ 8) (b4 : p4 ≤ 8) (b5 : p5 ≤ 8) (b6 : p6 ≤ 8) (b7 : p7 ≤ 8) : p0 + p1 + (p2 + p3) + (p4 + p5 + (p6 + p7)) < 128 := by omega
theorem nz_f9 (p0 p1 p2 p3 p4 p5 p6 p7 : Nat) : p0 + p1 + (p2 + p3) + (p4 + p5 + (p6 + p7)) = p0 + (p1 + (p2 + (p3 + (p4 + (p5 + (p6 + p7)))))) := by omega
theorem nz_f6 {w u t p0 p1 p2 p3 p4 p5 p6 p7 : Nat} (b0 : p0 ≤ 8) (b1 : p1 ≤ 8) (b2 : p2 ≤ 8) (b3 : p3 ≤ 8) (b4 : p4 ≤ 8) (b5 : p5 ≤ 8) (b6 : p6 ≤ 8) (b7 : p7 ≤ 8) (hw : w = 256 * (256 * (256 * (256 * (256 * (256 * (256 * (256 * 0 + p7) + p6) + p5) + p4) + p3) + p2) + p1) + p0) (hu : w + w / 256 = u) (ht : u + u / 65536 = t) : (t + t / 4294967296) % 128 = p0 + (p1 + (p2 + (p3 + (p4 + (p5 + (p6 + p7)))))) := by
  have w8 := nz_f1 b0 hw
  rw [w8] at hu
  have hu2 := nz_f2 hw hu
  have u16 := nz_f7 b0 b1 b2 hu2
  rw [u16] at ht
  have ht2 := nz_f3 hu2 ht
  have t32 := nz_f4 b0 b1 b2 b3 b4 b5 b6 ht2
  have q := nz_f5 ht2 (s' := p4 + p5 + (p6 + p7)) (nz_f8 b0 b1 b2 b3 b4 b5 b6 b7) rfl
  rw [t32, q]
  exact nz_f9 ..
theorem nz_fold {i w : Nat} (hw : w = nz_P 8 i) : (w + w / 256 + (w + w / 256) / 65536 + (w + w / 256 + (w + w / 256) / 65536) / 4294967296) % 128 = z_on i.testBit 64 := by
  rw [nz_sum]
  have e : nz_P 8 i = 256 * (256 * (256 * (256 * (256 * (256 * (256 * (256 * 0 + z_on (i / 256 / 256 / 256 / 256 / 256 / 256 / 256 % 256).testBit 8) + z_on (i / 256 / 256 / 256 / 256 / 256 / 256 % 256).testBit 8) + z_on (i / 256 / 256 / 256 / 256 / 256 % 256).testBit 8) + z_on (i / 256 / 256 / 256 / 256 % 256).testBit 8) + z_on (i / 256 / 256 / 256 % 256).testBit 8) + z_on (i / 256 / 256 % 256).testBit 8) + z_on (i / 256 % 256).testBit 8) + z_on (i % 256).testBit 8 := by simp only [nz_P]
  rw [e] at hw
  have b0 := z_on_le (i % 256).testBit 8
  have b1 := z_on_le (i / 256 % 256).testBit 8
  have b2 := z_on_le (i / 256 / 256 % 256).testBit 8
  have b3 := z_on_le (i / 256 / 256 / 256 % 256).testBit 8
  have b4 := z_on_le (i / 256 / 256 / 256 / 256 % 256).testBit 8
  have b5 := z_on_le (i / 256 / 256 / 256 / 256 / 256 % 256).testBit 8
  have b6 := z_on_le (i / 256 / 256 / 256 / 256 / 256 / 256 % 256).testBit 8
  have b7 := z_on_le (i / 256 / 256 / 256 / 256 / 256 / 256 / 256 % 256).testBit 8
  exact nz_f6 b0 b1 b2 b3 b4 b5 b6 b7 hw rfl rfl

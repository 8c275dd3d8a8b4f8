/-! the net: the class's settling -/
theorem nz_F_le (G : Nat → Nat × Nat × Int) (N : Nat) (f : Nat → Int) : ∀ k m, nz_F G N f k m ≤ f m := by
  intro k
  induction k with
  | zero => intro m; exact Int.le_refl _
  | succ k ih =>
    intro m
    have h1 := ih m
    have h2 := nz_sw_step G (nz_F G N f k) (Nat.zero_le N) m
    have h3 : nz_sw G (nz_F G N f k) 0 m = nz_F G N f k m := rfl
    show nz_sw G (nz_F G N f k) N m ≤ _
    omega
theorem nz_F_low {G : Nat → Nat × Nat × Int} {N : Nat} {f : Nat → Int} {W B : Int} (hw : ∀ e, e < N → -W ≤ (G e).2.2) (hends : ∀ e, e < N → (G e).1 < 18 ∧ (G e).2.1 < 18) (hW : 0 ≤ W) (h : ∀ m, m < 18 → B ≤ f m) : ∀ k : Nat, ∀ m, m < 18 → B - (W * N) * k ≤ nz_F G N f k m := by
  intro k
  induction k with
  | zero => intro m hm; have := h m hm; show _ ≤ f m; simp; omega
  | succ k ih =>
    intro m hm
    have h1 := nz_sw_low18 hw hends hW ih N (Nat.le_refl N) m hm
    have e1 : (W * N) * ((k + 1 : Nat) : Int) = (W * N) * k + W * N := by
      rw [Int.natCast_add, Int.mul_add]; simp
    show _ ≤ nz_sw G (nz_F G N f k) N m
    omega
theorem nz_F_lb {G : Nat → Nat × Nat × Int} {N : Nat} {v f : Nat → Int} (hv : nz_pot G N v) (hends : ∀ e, e < N → (G e).1 < 18 ∧ (G e).2.1 < 18) (h : ∀ m, m < 18 → f m ≠ nz_U → v m ≤ f m) : ∀ k m, m < 18 → nz_F G N f k m ≠ nz_U → v m ≤ nz_F G N f k m := by
  intro k
  induction k with
  | zero => exact h
  | succ k ih => exact nz_sw_lb hv hends ih
theorem nz_N_rev (s : ax_S) (up : Int32) (r : Nat) : (nz_G s up (2 * r + 1)).1 = (nz_G s up (2 * r)).2.1 ∧ (nz_G s up (2 * r + 1)).2.1 = (nz_G s up (2 * r)).1 := by
  rw [nz_G0, nz_G1]
  exact ⟨rfl, rfl⟩
theorem nz_settle {p : Nat} (hp : ax_len cx_C 1 p = some 18) (hpp : 15 ≤ p) (up : Int32) {s : ax_S} (hN : nz_N s) (hlo : ∀ m, m < 18 → -1000000 ≤ nz_V p s m) (hhi : ∀ m, m < 18 → nz_V p s m ≤ nz_U) :
    ∃ fl t, f_X6_settle p up s = some (fl, t) ∧ z_only p s t ∧ (∀ m, nz_V p t m ≤ nz_V p s m) ∧ (∀ m, m < 18 → -400000000 ≤ nz_V p t m) ∧
      (∀ v, nz_pot (nz_G s up) (2 * nz_n s) v → (∀ m, m < 18 → nz_V p s m ≠ nz_U → v m ≤ nz_V p s m) → ∀ m, m < 18 → nz_V p t m ≠ nz_U → v m ≤ nz_V p t m) ∧
      ((fl = 1 ∧ nz_sat (nz_G s up) (2 * nz_n s) (nz_V p t)) ∨ (fl = 0 ∧ ∀ u, ¬ nz_pot (nz_G s up) (2 * nz_n s) u)) := by
  have hN' := hN
  obtain ⟨n0, n1, nr⟩ := hN
  have hn : (nz_n s : Int) = (s.1 1 6).toInt := z_cl n0
  have hlow := nz_F_low (f := nz_V p s) (nz_N_w hN' up) (nz_N_e hN' up) (by decide) hlo
  obtain ⟨K, hK, hK17, hKn, hKe⟩ : ∃ K : Nat, (ax_min (s.1 1 6) (17 : Int32) + 1).toInt = (K : Int) + 1 ∧ K ≤ 17 ∧ K ≤ nz_n s ∧ (K = 17 ∨ K = nz_n s) := by
    unfold ax_min
    by_cases h : (17 : Int32) < s.1 1 6
    · rw [if_pos h]
      rw [z_lt] at h
      simp only [Int32.reduceToInt] at h
      exact ⟨17, by decide, by omega, by omega, Or.inl rfl⟩
    · rw [if_neg h]
      rw [z_lt] at h
      simp only [Int32.reduceToInt] at h
      refine ⟨nz_n s, ?_, by omega, by omega, Or.inr rfl⟩
      rw [z_add (by simp only [Int32.reduceToInt]; omega) (by simp only [Int32.reduceToInt]; omega)]
      simp only [Int32.reduceToInt]
      omega
  have hbig : ∀ k : Nat, k ≤ 18 → ∀ m, m < 18 → -400000000 ≤ nz_F (nz_G s up) (2 * nz_n s) (nz_V p s) k m := by
    intro k hk m hm
    have h1 := hlow k m hm
    have h2 : (200000 : Int) * ((2 * nz_n s : Nat) : Int) * (k : Int) ≤ 16000000 * (k : Int) := Int.mul_le_mul_of_nonneg_right (by omega) (by omega)
    omega
  have key := z_inv (f := b_X6_settle_15 p up (ax_min (s.1 1 6) (17 : Int32) + 1))
    (fun a => ∃ k : Nat, k ≤ K + 1 ∧ a.1 = nI k ∧ z_only p s a.2 ∧ nz_V p a.2 = nz_F (nz_G s up) (2 * nz_n s) (nz_V p s) k ∧ (∀ j, j < k → ¬ nz_sat (nz_G s up) (2 * nz_n s) (nz_F (nz_G s up) (2 * nz_n s) (nz_V p s) j)))
    (fun e => ∃ fl t, (Sum.elim (fun e15 => some (((0 : Int32), e15))) (fun r => some (r)) e : Option (Int32 × ax_S)) = some (fl, t) ∧ z_only p s t ∧ (∃ k, k ≤ 18 ∧ nz_V p t = nz_F (nz_G s up) (2 * nz_n s) (nz_V p s) k) ∧ ((fl = 1 ∧ nz_sat (nz_G s up) (2 * nz_n s) (nz_V p t)) ∨ (fl = 0 ∧ ∀ j, j ≤ K → ¬ nz_sat (nz_G s up) (2 * nz_n s) (nz_F (nz_G s up) (2 * nz_n s) (nz_V p s) j))))
    (fun a => 100 - a.1.toNatClampNeg) (by
    rintro ⟨i, t⟩ ⟨k, hk, h1, h2, h3, h4⟩
    dsimp only at h1 h2 h3
    subst h1
    have hkI : (nI k).toInt = (k : Int) := z_nI (by omega)
    have hkc : (nI k).toNatClampNeg = k := by
      have := z_cl (a := nI k) (by omega)
      omega
    unfold b_X6_settle_15
    dsimp only
    by_cases hlast : ax_min (s.1 1 6) (17 : Int32) + 1 ≤ nI k
    · left
      rw [if_pos hlast]
      rw [z_le, hK, hkI] at hlast
      exact ⟨.inl t, rfl, 0, t, rfl, h2, ⟨k, by omega, h3⟩, Or.inr ⟨rfl, fun j hj => h4 j (by omega)⟩⟩
    · rw [if_neg hlast]
      rw [z_le, hK, hkI] at hlast
      obtain ⟨fl, t', s1, s2, s3, s4⟩ := nz_sweep hp hpp up (nz_N_only hpp h2 hN') (L := -400000000) (by decide) (by rw [h3]; exact hbig k (by omega)) (by
        intro m hm
        rw [h3]
        have := nz_F_le (nz_G s up) (2 * nz_n s) (nz_V p s) k m
        have := hhi m hm
        omega)
      rw [nz_G_only hpp h2, nz_n_only hpp h2] at s3
      rw [s1, Option.bind_some]
      dsimp only
      rcases s4 with ⟨f1, f2⟩ | ⟨f1, f2⟩
      · left
        rw [if_pos f1]
        refine ⟨_, rfl, 1, t', rfl, z_only_tr h2 s2, ⟨k, by omega, by rw [f2, h3]⟩, Or.inl ⟨rfl, ?_⟩⟩
        rw [f2]
        rw [f2] at s3
        exact nz_sw_fix s3.symm
      · right
        rw [if_neg (by rw [f1]; decide)]
        refine ⟨_, rfl, ⟨k + 1, by omega, nI_s k, z_only_tr h2 s2, ?_, ?_⟩, ?_⟩
        · dsimp only
          rw [s3, h3]; rfl
        · intro j hj
          by_cases hjk : j = k
          · subst hjk
            intro q
            apply f2
            rw [s3, h3]
            exact nz_sat_fix q
          · exact h4 j (by omega)
        · dsimp only
          rw [nI_s k, hkc]
          have : (nI (k + 1)).toNatClampNeg = k + 1 := by
            have a1 : (nI (k + 1)).toInt = ((k + 1 : Nat) : Int) := z_nI (by omega)
            have := z_cl (a := nI (k + 1)) (by omega)
            omega
          omega)
    (a := ((0 : Int32), s)) ⟨0, Nat.zero_le _, rfl, z_only_rf p s, rfl, fun j hj => absurd hj (Nat.not_lt_zero j)⟩
  obtain ⟨e, h1, fl, t, h2, h3, ⟨k, hk, h4⟩, h5⟩ := key
  refine ⟨fl, t, ?_, h3, ?_, ?_, ?_, ?_⟩
  · unfold f_X6_settle
    rw [h1, Option.bind_some, h2]
  · intro m
    rw [h4]
    exact nz_F_le _ _ _ k m
  · intro m hm
    rw [h4]
    exact hbig k hk m hm
  · intro v hv hb m hm
    rw [h4]
    exact nz_F_lb hv (nz_N_e hN' up) hb k m hm
  · rcases h5 with q | ⟨q1, q2⟩
    · exact Or.inl q
    · right
      refine ⟨q1, fun u hu => ?_⟩
      have := nz_settles (f := nz_V p s) hu (nz_N_e hN' up) (fun r _ => nz_N_rev s up r) K (q2 K (Nat.le_refl K))
      omega

/-! kin -/
def nz_mt (y : ax_S) (b t r : Nat) : Prop := nz_on y b r ∧ (y.1 5 r).toNatClampNeg = t
noncomputable def nz_la (y : ax_S) (b t : Nat) (k : Nat) : Int :=
  match k with
  | 0 => -1
  | k + 1 => @ite Int (nz_mt y b t k) (Classical.propDecidable _) (k : Int) (nz_la y b t k)
termination_by k
theorem nz_la_z (y : ax_S) (b t : Nat) : nz_la y b t 0 = -1 := by rw [nz_la]
theorem nz_la_s1 {y : ax_S} {b t k : Nat} (h : nz_mt y b t k) : nz_la y b t (k + 1) = k := by
  rw [nz_la, if_pos h]
theorem nz_la_s0 {y : ax_S} {b t k : Nat} (h : ¬ nz_mt y b t k) : nz_la y b t (k + 1) = nz_la y b t k := by
  rw [nz_la, if_neg h]
theorem nz_la_b (y : ax_S) (b t : Nat) : ∀ k : Nat, -1 ≤ nz_la y b t k ∧ nz_la y b t k < k := by
  intro k
  induction k with
  | zero => rw [nz_la_z]; omega
  | succ k ih =>
    by_cases h : nz_mt y b t k
    · rw [nz_la_s1 h]; omega
    · rw [nz_la_s0 h]; omega
/-- one day is said -/
def nz_sd (y : ax_S) (b t : Nat) : Prop := nz_la y b t (y.1 0 6).toNatClampNeg ≠ -1 ∧ y.1 7 (nz_la y b t (y.1 0 6).toNatClampNeg).toNat = y.1 8 (nz_la y b t (y.1 0 6).toNatClampNeg).toNat
theorem nz_exact {x y : ax_S} (hI : pz_I x y) {b t : Int32} (hb : 0 ≤ b.toInt) (ht : 0 ≤ t.toInt) : ∃ w, f_X7_exactDay (pz_K y) b t x = some w ∧ ((w = (-2147483648 : Int32) ∧ ¬ nz_sd y b.toNatClampNeg t.toNatClampNeg) ∨ (w ≠ (-2147483648 : Int32) ∧ w = y.1 7 (nz_la y b.toNatClampNeg t.toNatClampNeg (y.1 0 6).toNatClampNeg).toNat ∧ nz_sd y b.toNatClampNeg t.toNatClampNeg)) := by
  have hI' := hI
  obtain ⟨hsc, har, hsh, hnu, hbk, hrw, htx⟩ := hI
  have hnu' := hnu
  obtain ⟨n1, n2, n3, n4, n5, n6, n7, n8, n9, n10, n11, n12⟩ := hnu
  have c6 := z_cl n9
  have ct := z_cl ht
  obtain ⟨a1, a2, a3, a4, a5, a6, a7, a8, -⟩ := id har
  have e0 : (0 : Int32).toInt = 0 := by decide
  have e1 : (1 : Int32).toInt = 1 := by decide
  have em : (-1 : Int32).toInt = -1 := by decide
  have h27 : x.1 2 7 = y.1 0 6 := hsc.2.2.2.2.2.1
  have key := z_inv (f := b_X7_exactDay_8 (pz_K y) b t x) (fun a => ∃ k : Nat, k ≤ (y.1 0 6).toNatClampNeg ∧ a.toInt = (k : Int) - 1 ∧ nz_la y b.toNatClampNeg t.toNatClampNeg (y.1 0 6).toNatClampNeg = nz_la y b.toNatClampNeg t.toNatClampNeg k)
    (fun e => ∃ w, (Sum.elim (fun e8 => some ((-2147483648 : Int32))) (fun r => some (r)) e : Option Int32) = some w ∧ ((w = (-2147483648 : Int32) ∧ ¬ nz_sd y b.toNatClampNeg t.toNatClampNeg) ∨ (w ≠ (-2147483648 : Int32) ∧ w = y.1 7 (nz_la y b.toNatClampNeg t.toNatClampNeg (y.1 0 6).toNatClampNeg).toNat ∧ nz_sd y b.toNatClampNeg t.toNatClampNeg))) (fun a => (a.toInt + 1).toNat) (by
    rintro a ⟨k, hk, h1, h2⟩
    unfold b_X7_exactDay_8
    by_cases hl : a < 0
    · left
      rw [if_pos hl]
      rw [z_lt, e0] at hl
      obtain rfl : k = 0 := by omega
      exact ⟨_, rfl, _, rfl, Or.inl ⟨rfl, fun q => q.1 (by rw [h2, nz_la_z])⟩⟩
    · rw [if_neg hl]
      rw [z_lt, e0] at hl
      have ca := z_cl (a := a) (by omega)
      obtain ⟨j, rfl⟩ : ∃ j, k = j + 1 := ⟨k - 1, by omega⟩
      have haj : a = nI j := by rw [z_eq, z_nI (by omega)]; omega
      have hac : a.toNatClampNeg = j := by omega
      have hm0 : (a + -1).toInt = a.toInt - 1 := by rw [z_add (by omega) (by omega), em]; exact rfl
      obtain ⟨v, hv⟩ : ∃ v, v = a + -1 := ⟨_, rfl⟩
      rw [← hv] at hm0 ⊢
      have hm1 : v.toInt = a.toInt - 1 := hm0
      clear hm0
      have down : ¬ nz_mt y b.toNatClampNeg t.toNatClampNeg j → (∃ k : Nat, k ≤ (y.1 0 6).toNatClampNeg ∧ v.toInt = (k : Int) - 1 ∧ nz_la y b.toNatClampNeg t.toNatClampNeg (y.1 0 6).toNatClampNeg = nz_la y b.toNatClampNeg t.toNatClampNeg k) ∧ (v.toInt + 1).toNat < (a.toInt + 1).toNat := by
        intro q
        exact ⟨⟨j, by omega, by omega, by rw [h2, nz_la_s0 q]⟩, by omega⟩
      by_cases hb1 : lg_cmp (ax_lushr (pz_K y) a &&& 1) 0 = 0
      · right
        rw [if_pos hb1]
        rw [haj, z_tC _ (by omega)] at hb1
        exact ⟨_, rfl, down (fun q => by have := q.1.1; rw [hb1] at this; exact absurd this (by decide))⟩
      · rw [if_neg hb1]
        rw [haj, z_tC _ (by omega)] at hb1
        have hb2 : pz_tb (pz_K y) j = true := by
          cases hh : pz_tb (pz_K y) j with
          | true => rfl
          | false => exact absurd hh hb1
        have hon := nz_isOnBy hI' (r := j) (by omega) hb
        rw [← haj] at hon
        rw [hon, Option.bind_some, pz_if0]
        by_cases g1 : y.1 6 j = -1 ∧ (y.1 4 j).toNatClampNeg = b.toNatClampNeg
        case neg =>
          right
          rw [if_neg g1]
          exact ⟨_, rfl, down (fun q => g1 q.1.2)⟩
        obtain ⟨r1, r2, r3, r4, r5⟩ := nz_row1 hnu' hrw (r := j) (by omega)
        have c5 := z_cl r2.1
        rw [if_pos g1, z_ai (Sd := cx_C) (x := x) (a := 20) (n := 40) rfl (by omega) (by omega), Option.bind_some, hac, a5]
        by_cases g2 : y.1 5 j = t
        case neg =>
          right
          rw [if_neg g2]
          refine ⟨_, rfl, down (fun q => ?_)⟩
          have := q.2
          apply g2
          rw [z_eq]
          omega
        have hmt : nz_mt y b.toNatClampNeg t.toNatClampNeg j := ⟨⟨hb2, g1⟩, by rw [g2]⟩
        left
        rw [if_pos g2, z_ai (Sd := cx_C) (x := x) (a := 22) (n := 40) rfl (by omega) (by omega), Option.bind_some, z_ai (Sd := cx_C) (x := x) (a := 23) (n := 40) rfl (by omega) (by omega), Option.bind_some, hac, a7, a8]
        have hla : nz_la y b.toNatClampNeg t.toNatClampNeg (y.1 0 6).toNatClampNeg = (j : Int) := by rw [h2, nz_la_s1 hmt]
        by_cases g3 : y.1 7 j = y.1 8 j
        · rw [if_pos g3, Option.bind_some]
          refine ⟨_, rfl, _, rfl, Or.inr ⟨?_, ?_, ?_, ?_⟩⟩
          · intro q
            have q' := congrArg Int32.toInt q
            rw [show (-2147483648 : Int32).toInt = -2147483648 from by decide] at q'
            omega
          · rw [hla]; rfl
          · rw [hla]; omega
          · rw [hla]; exact g3
        · rw [if_neg g3]
          refine ⟨_, rfl, _, rfl, Or.inl ⟨rfl, fun q => g3 ?_⟩⟩
          have q2 := q.2
          rw [hla] at q2
          exact q2)
    (a := y.1 0 6 - 1) ⟨(y.1 0 6).toNatClampNeg, Nat.le_refl _, by rw [z_sub (by omega) (by omega), e1]; omega, rfl⟩
  obtain ⟨e, k1, w, k2, k3⟩ := key
  refine ⟨w, ?_, k3⟩
  unfold f_X7_exactDay
  rw [h27, k1, Option.bind_some, k2]
theorem nz_latest {y : ax_S} (hnu : pz_nu y) (hrw : pz_rw y) {s : ax_S} (hs : z_only 16 y s) {b t : Int32} (hb : 0 ≤ b.toInt) (ht : 0 ≤ t.toInt) : ∃ w, f_X10_latest b t s = some w ∧ w.toInt = nz_la y b.toNatClampNeg t.toNatClampNeg (y.1 0 6).toNatClampNeg := by
  have hnu' := hnu
  obtain ⟨n1, n2, n3, n4, n5, n6, n7, n8, n9, n10, n11, n12⟩ := hnu
  have c6 := z_cl n9
  have ct := z_cl ht
  have cb := z_cl hb
  have em : (-1 : Int32).toInt = -1 := by decide
  have key := z_inv (f := b_X10_latest_5 b t s) (fun a => ∃ k : Nat, k ≤ (y.1 0 6).toNatClampNeg ∧ a.2 = nI k ∧ a.1.toInt = nz_la y b.toNatClampNeg t.toNatClampNeg k)
    (fun e => e.toInt = nz_la y b.toNatClampNeg t.toNatClampNeg (y.1 0 6).toNatClampNeg) (fun a => (y.1 0 6).toNatClampNeg - a.2.toNatClampNeg) (by
    rintro ⟨v, _⟩ ⟨k, hk, h1, h2⟩
    dsimp only at h1 h2
    subst h1
    have hkI : (nI k).toInt = (k : Int) := z_nI (by omega)
    have hkc := nI_cl (k := k) (by omega)
    unfold b_X10_latest_5
    dsimp only
    have e06 : s.1 0 6 = y.1 0 6 := by rw [hs.1 0 (by omega)]
    rw [e06]
    by_cases hl : y.1 0 6 ≤ nI k
    · left
      rw [if_pos hl]
      rw [z_le, hkI] at hl
      have : k = (y.1 0 6).toNatClampNeg := by omega
      subst this
      exact ⟨_, rfl, h2⟩
    · right
      rw [if_neg hl]
      rw [z_le, hkI] at hl
      have hk' : k < (y.1 0 6).toNatClampNeg := by omega
      have ms : (y.1 0 6).toNatClampNeg - (nI k + 1).toNatClampNeg < (y.1 0 6).toNatClampNeg - (nI k).toNatClampNeg := by
        rw [nI_s, nI_cl (by omega), hkc]; omega
      have hkn : (pz_tb (pz_K y) k = true) ↔ pz_kn s (pz_vd s) k = true := by
        rw [z_K_tb hnu', show pz_kn s (pz_vd s) k = pz_kn y (pz_vd y) k from by unfold pz_kn pz_vd; rw [hs.1 0 (by omega), hs.1 9 (by omega), hs.1 10 (by omega)]]
        simp [hk']
      have keep : ¬ nz_mt y b.toNatClampNeg t.toNatClampNeg k → ∃ k' : Nat, k' ≤ (y.1 0 6).toNatClampNeg ∧ nI k + 1 = nI k' ∧ v.toInt = nz_la y b.toNatClampNeg t.toNatClampNeg k' := fun q => ⟨k + 1, by omega, nI_s k, by rw [nz_la_s0 q]; exact h2⟩
      obtain ⟨r1, r2, r3, r4, r5⟩ := nz_row1 hnu' hrw hk'
      have c5 := z_cl r2.1
      have c4 := z_cl r1.1
      rw [pz_knR2 s (nI k) (by omega) (by omega), Option.bind_some, pz_if0, hkc]
      by_cases g0 : pz_kn s (pz_vd s) k = true
      case neg =>
        rw [if_neg g0]
        rw [← hkn] at g0
        exact ⟨_, rfl, keep (fun q => g0 q.1.1), by first | exact ms | (rw [hkc] at ms; exact ms)⟩
      rw [if_pos g0, z_ai (Sd := cx_R) (x := s) (a := 4) (n := 40) rfl (by omega) (by omega), Option.bind_some, hkc, hs.1 4 (by omega)]
      rw [← hkn] at g0
      by_cases g1 : y.1 4 k = b
      case neg =>
        rw [if_neg g1]
        refine ⟨_, rfl, keep (fun q => g1 ?_), by first | exact ms | (rw [hkc] at ms; exact ms)⟩
        have := q.1.2.2
        rw [z_eq]; omega
      rw [if_pos g1, z_ai (Sd := cx_R) (x := s) (a := 5) (n := 40) rfl (by omega) (by omega), Option.bind_some, hkc, hs.1 5 (by omega)]
      by_cases g2 : y.1 5 k = t
      case neg =>
        rw [if_neg g2]
        refine ⟨_, rfl, keep (fun q => g2 ?_), by first | exact ms | (rw [hkc] at ms; exact ms)⟩
        have := q.2
        rw [z_eq]; omega
      rw [if_pos g2, z_ai (Sd := cx_R) (x := s) (a := 6) (n := 40) rfl (by omega) (by omega), Option.bind_some, hkc, hs.1 6 (by omega)]
      by_cases g3 : y.1 6 k = -1
      case neg =>
        rw [if_neg g3]
        exact ⟨_, rfl, keep (fun q => g3 q.1.2.1), by first | exact ms | (rw [hkc] at ms; exact ms)⟩
      rw [if_pos g3]
      refine ⟨_, rfl, ⟨k + 1, by omega, nI_s k, ?_⟩, by first | exact ms | (rw [hkc] at ms; exact ms)⟩
      rw [nz_la_s1 ⟨⟨g0, g3, by rw [g1]⟩, by rw [g2]⟩]
      exact hkI)
    (a := ((-1 : Int32), (0 : Int32))) ⟨0, Nat.zero_le _, rfl, by rw [nz_la_z]; exact em⟩
  obtain ⟨e, k1, k2⟩ := key
  refine ⟨e, ?_, k2⟩
  unfold f_X10_latest
  rw [k1]; rfl
/-- a thing that no one has told of has no row -/
theorem nz_la_no {y : ax_S} (hnu : pz_nu y) (hrw : pz_rw y) {b t : Nat} (ht : (y.1 0 1).toInt ≤ t) : ∀ k, k ≤ (y.1 0 6).toNatClampNeg → nz_la y b t k = -1 := by
  intro k
  induction k with
  | zero => intro _; exact nz_la_z y b t
  | succ k ih =>
    intro hk
    obtain ⟨r1, r2, -⟩ := nz_row1 hnu hrw (r := k) (by omega)
    have c5 := z_cl r2.1
    rw [nz_la_s0 (fun q => by have := q.2; omega)]
    exact ih (by omega)

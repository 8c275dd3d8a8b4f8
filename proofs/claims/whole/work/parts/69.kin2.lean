/-! kin: both sides -/
/-- the differences, one after another -/
noncomputable def nz_kq (y : ax_S) (b o : Nat) : Nat → Nat × (Nat → Int32)
  | 0 => (0, fun _ => 0)
  | t + 1 => @ite (Nat × (Nat → Int32)) (nz_sd y b t ∧ nz_sd y o t) (Classical.propDecidable _) ((nz_kq y b o t).1 + 1, fun k => if k = (nz_kq y b o t).1 then y.1 7 (nz_la y o t (y.1 0 6).toNatClampNeg).toNat - y.1 7 (nz_la y b t (y.1 0 6).toNatClampNeg).toNat else (nz_kq y b o t).2 k) (nz_kq y b o t)
theorem nz_kq1 {y : ax_S} {b o t : Nat} (h : nz_sd y b t ∧ nz_sd y o t) : nz_kq y b o (t + 1) = ((nz_kq y b o t).1 + 1, fun k => if k = (nz_kq y b o t).1 then y.1 7 (nz_la y o t (y.1 0 6).toNatClampNeg).toNat - y.1 7 (nz_la y b t (y.1 0 6).toNatClampNeg).toNat else (nz_kq y b o t).2 k) := by
  rw [nz_kq, if_pos h]
theorem nz_kq0 {y : ax_S} {b o t : Nat} (h : ¬ (nz_sd y b t ∧ nz_sd y o t)) : nz_kq y b o (t + 1) = nz_kq y b o t := by
  rw [nz_kq, if_neg h]
theorem nz_kq_le (y : ax_S) (b o : Nat) : ∀ t, (nz_kq y b o t).1 ≤ t := by
  intro t
  induction t with
  | zero => exact Nat.le_refl 0
  | succ t ih =>
    by_cases h : nz_sd y b t ∧ nz_sd y o t
    · rw [nz_kq1 h]; show (nz_kq y b o t).1 + 1 ≤ t + 1; omega
    · rw [nz_kq0 h]; omega
theorem nz_kq_top {y : ax_S} (hnu : pz_nu y) (hrw : pz_rw y) (b o : Nat) : nz_kq y b o 12 = nz_kq y b o (y.1 0 1).toNatClampNeg := by
  have n5 := hnu.2.2.2.2.1
  have n6 := hnu.2.2.2.2.2.1
  have c1 := z_cl n5
  have : ∀ k, (y.1 0 1).toNatClampNeg + k ≤ 12 → nz_kq y b o ((y.1 0 1).toNatClampNeg + k) = nz_kq y b o (y.1 0 1).toNatClampNeg := by
    intro k
    induction k with
    | zero => intro _; rfl
    | succ k ih =>
      intro hk
      rw [← ih (by omega)]
      refine nz_kq0 (t := (y.1 0 1).toNatClampNeg + k) (fun q => ?_)
      exact q.1.1 (nz_la_no hnu hrw (t := (y.1 0 1).toNatClampNeg + k) (by omega) _ (Nat.le_refl _))
  have h := this (12 - (y.1 0 1).toNatClampNeg) (by omega)
  rwa [show (y.1 0 1).toNatClampNeg + (12 - (y.1 0 1).toNatClampNeg) = 12 by omega] at h
def nz_f635 (x t : ax_S) : Prop := ∀ k, k ≠ 6 → k ≠ 35 → t.1 k = x.1 k
theorem nz_f635_eC {x t : ax_S} (h : nz_f635 x t) : pz_eC x t := ⟨h 0 (by omega) (by omega), h 2 (by omega) (by omega), h 3 (by omega) (by omega), by rw [h 7 (by omega) (by omega)], fun k _ _ => h k (by omega) (by omega), fun k _ _ => h k (by omega) (by omega)⟩
theorem nz_f635_u6 {x t : ax_S} (h : nz_f635 x t) (j : Nat) (v : Int32) : nz_f635 x (ax_ui t 6 j v) := fun k h1 h2 => by
  rw [← h k h1 h2]; funext m; rw [z_ui, if_neg (fun q => h1 q.1)]
theorem nz_f635_u35 {x t : ax_S} (h : nz_f635 x t) (j : Nat) (v : Int32) : nz_f635 x (ax_ui t 35 j v) := fun k h1 h2 => by
  rw [← h k h1 h2]; funext m; rw [z_ui, if_neg (fun q => h2 q.1)]
theorem nz_cmp1 {x y : ax_S} (hI : pz_I x y) {b o : Int32} (hb : 0 ≤ b.toInt) (ho : 0 ≤ o.toInt) {s0 : ax_S} (hs0 : nz_f635 x s0) (h1 : s0.1 6 1 = 0) (h2 : s0.1 6 2 = 0) (h3 : s0.1 6 3 = 0) :
    ∃ e, ax_lp (b_X4_compare_18 (pz_K y) b o) ((0 : Int32), s0) = some e ∧ nz_f635 x e ∧ e.1 6 1 = nI (nz_kq y b.toNatClampNeg o.toNatClampNeg 12).1 ∧ (∀ k, k < (nz_kq y b.toNatClampNeg o.toNatClampNeg 12).1 → e.1 35 k = (nz_kq y b.toNatClampNeg o.toNatClampNeg 12).2 k) ∧ e.1 6 2 = 0 ∧ e.1 6 3 = 0 := by
  have hI' := hI
  obtain ⟨hsc, har, hsh, hnu, hbk, hrw, htx⟩ := hI
  have key := z_inv (f := b_X4_compare_18 (pz_K y) b o) (fun a => ∃ t : Nat, t ≤ 12 ∧ a.1 = nI t ∧ nz_f635 x a.2 ∧ a.2.1 6 1 = nI (nz_kq y b.toNatClampNeg o.toNatClampNeg t).1 ∧ (∀ k, k < (nz_kq y b.toNatClampNeg o.toNatClampNeg t).1 → a.2.1 35 k = (nz_kq y b.toNatClampNeg o.toNatClampNeg t).2 k) ∧ a.2.1 6 2 = 0 ∧ a.2.1 6 3 = 0)
    (fun e => nz_f635 x e ∧ e.1 6 1 = nI (nz_kq y b.toNatClampNeg o.toNatClampNeg 12).1 ∧ (∀ k, k < (nz_kq y b.toNatClampNeg o.toNatClampNeg 12).1 → e.1 35 k = (nz_kq y b.toNatClampNeg o.toNatClampNeg 12).2 k) ∧ e.1 6 2 = 0 ∧ e.1 6 3 = 0) (fun a => 12 - a.1.toNatClampNeg) (by
    rintro ⟨_, s⟩ ⟨t, ht, g1, g2, g3, g4, g5, g6⟩
    dsimp only at g1 g2 g3 g4 g5 g6
    subst g1
    have htI : (nI t).toInt = (t : Int) := z_nI (by omega)
    have htc := nI_cl (k := t) (by omega)
    have e12 : (12 : Int32).toInt = 12 := by decide
    unfold b_X4_compare_18
    dsimp only
    by_cases hl : (12 : Int32) ≤ nI t
    · left
      rw [if_pos hl]
      rw [z_le, htI, e12] at hl
      obtain rfl : t = 12 := by omega
      exact ⟨s, rfl, g2, g3, g4, g5, g6⟩
    right
    rw [if_neg hl]
    rw [z_le, htI, e12] at hl
    have hIs : pz_I s y := pz_fr hI' (nz_f635_eC g2) (pz_eR_rf y)
    obtain ⟨w1, q1, q2⟩ := nz_exact hIs (b := b) (t := nI t) hb (by omega)
    obtain ⟨w2, q3, q4⟩ := nz_exact hIs (b := o) (t := nI t) ho (by omega)
    rw [htc] at q2 q4
    have ms : 12 - (nI t + 1).toNatClampNeg < 12 - (nI t).toNatClampNeg := by
      rw [nI_s, nI_cl (by omega), htc]; omega
    rw [q1, Option.bind_some, q3, Option.bind_some]
    rcases q2 with ⟨c1, z1⟩ | ⟨c1, v1, z1⟩
    · rw [if_pos c1]
      refine ⟨_, rfl, ⟨t + 1, by omega, nI_s t, g2, ?_⟩, by first | exact ms | (rw [htc] at ms; exact ms)⟩
      rw [nz_kq0 (fun z => z1 z.1)]
      exact ⟨g3, g4, g5, g6⟩
    rw [if_neg c1]
    rcases q4 with ⟨c2, z2⟩ | ⟨c2, v2, z2⟩
    · rw [if_pos c2]
      refine ⟨_, rfl, ⟨t + 1, by omega, nI_s t, g2, ?_⟩, by first | exact ms | (rw [htc] at ms; exact ms)⟩
      rw [nz_kq0 (fun z => z2 z.2)]
      exact ⟨g3, g4, g5, g6⟩
    rw [if_neg c2]
    have hle := nz_kq_le y b.toNatClampNeg o.toNatClampNeg t
    have hkI : (nI (nz_kq y b.toNatClampNeg o.toNatClampNeg t).1).toInt = ((nz_kq y b.toNatClampNeg o.toNatClampNeg t).1 : Int) := z_nI (by omega)
    have hkc := nI_cl (k := (nz_kq y b.toNatClampNeg o.toNatClampNeg t).1) (by omega)
    rw [g3, z_si (Sd := cx_C) (n := 12) rfl (by omega) (by omega), Option.bind_some, hkc]
    refine ⟨_, rfl, ⟨t + 1, by omega, nI_s t, nz_f635_u6 (nz_f635_u35 g2 _ _) _ _, ?_⟩, by first | exact ms | (rw [hkc] at ms; exact ms)⟩
    rw [nz_kq1 ⟨z1, z2⟩]
    dsimp only
    refine ⟨?_, ?_, ?_, ?_⟩
    · simp only [z_ui]
      simp
      rw [g3]; exact nI_s _
    · intro k hk
      simp only [z_ui]
      simp
      by_cases hkk : k = (nz_kq y b.toNatClampNeg o.toNatClampNeg t).1
      · rw [if_pos hkk, if_pos hkk, v1, v2]
      · rw [if_neg hkk, if_neg hkk]
        exact g4 k (by omega)
    · simp only [z_ui]; simp; exact g5
    · simp only [z_ui]; simp; exact g6)
    (a := ((0 : Int32), s0)) ⟨0, by omega, rfl, hs0, h1, fun k hk => absurd hk (Nat.not_lt_zero k), h2, h3⟩
  exact key
theorem nz_kin39 {y : ax_S} (hnu : pz_nu y) (hrw : pz_rw y) {b o p3 : Int32} (hb : 0 ≤ b.toInt) (ho : 0 ≤ o.toInt) :
    ∃ e, ax_lp (b_X10_kin_39 b o p3) ((0 : Int32), (0 : Int32), y) = some e ∧ z_only 16 y e.2 ∧ e.1 = nI (nz_kq y b.toNatClampNeg o.toNatClampNeg 12).1 ∧ (∀ k, k < (nz_kq y b.toNatClampNeg o.toNatClampNeg 12).1 → e.2.1 16 k = (nz_kq y b.toNatClampNeg o.toNatClampNeg 12).2 k) := by
  have hnu' := hnu
  obtain ⟨n1, n2, n3, n4, n5, n6, n7, n8, n9, n10, n11, n12⟩ := hnu
  have cT := z_cl n5
  have c6 := z_cl n9
  rw [nz_kq_top hnu' hrw]
  have key := z_inv (f := b_X10_kin_39 b o p3) (fun a => ∃ t : Nat, t ≤ (y.1 0 1).toNatClampNeg ∧ a.2.1 = nI t ∧ z_only 16 y a.2.2 ∧ a.1 = nI (nz_kq y b.toNatClampNeg o.toNatClampNeg t).1 ∧ (∀ k, k < (nz_kq y b.toNatClampNeg o.toNatClampNeg t).1 → a.2.2.1 16 k = (nz_kq y b.toNatClampNeg o.toNatClampNeg t).2 k))
    (fun e => z_only 16 y e.2 ∧ e.1 = nI (nz_kq y b.toNatClampNeg o.toNatClampNeg (y.1 0 1).toNatClampNeg).1 ∧ (∀ k, k < (nz_kq y b.toNatClampNeg o.toNatClampNeg (y.1 0 1).toNatClampNeg).1 → e.2.1 16 k = (nz_kq y b.toNatClampNeg o.toNatClampNeg (y.1 0 1).toNatClampNeg).2 k)) (fun a => 12 - a.2.1.toNatClampNeg) (by
    rintro ⟨_, _, s⟩ ⟨t, ht, g1, g2, g3, g4⟩
    dsimp only at g1 g2 g3 g4
    subst g1
    subst g3
    have htI : (nI t).toInt = (t : Int) := z_nI (by omega)
    have htc := nI_cl (k := t) (by omega)
    have em : (-1 : Int32).toInt = -1 := by decide
    have e01 : s.1 0 1 = y.1 0 1 := by rw [g2.1 0 (by omega)]
    unfold b_X10_kin_39
    dsimp only
    rw [e01]
    by_cases hl : y.1 0 1 ≤ nI t
    · left
      rw [if_pos hl]
      rw [z_le, htI] at hl
      obtain rfl : t = (y.1 0 1).toNatClampNeg := by omega
      exact ⟨_, rfl, g2, rfl, g4⟩
    right
    rw [if_neg hl]
    rw [z_le, htI] at hl
    obtain ⟨w1, q1, q2⟩ := nz_latest hnu' hrw g2 (b := b) (t := nI t) hb (by omega)
    obtain ⟨w2, q3, q4⟩ := nz_latest hnu' hrw g2 (b := o) (t := nI t) ho (by omega)
    rw [htc] at q2 q4
    have b1 := nz_la_b y b.toNatClampNeg t (y.1 0 6).toNatClampNeg
    have b2 := nz_la_b y o.toNatClampNeg t (y.1 0 6).toNatClampNeg
    have ms : 12 - (nI t + 1).toNatClampNeg < 12 - (nI t).toNatClampNeg := by
      rw [nI_s, nI_cl (by omega), htc]; omega
    have keep : ¬ (nz_sd y b.toNatClampNeg t ∧ nz_sd y o.toNatClampNeg t) → ∃ t' : Nat, t' ≤ (y.1 0 1).toNatClampNeg ∧ nI t + 1 = nI t' ∧ z_only 16 y s ∧ nI (nz_kq y b.toNatClampNeg o.toNatClampNeg t).1 = nI (nz_kq y b.toNatClampNeg o.toNatClampNeg t').1 ∧ (∀ k, k < (nz_kq y b.toNatClampNeg o.toNatClampNeg t').1 → s.1 16 k = (nz_kq y b.toNatClampNeg o.toNatClampNeg t').2 k) := by
      intro z
      refine ⟨t + 1, by omega, nI_s t, g2, ?_⟩
      rw [nz_kq0 z]
      exact ⟨rfl, g4⟩
    rw [q1, Option.bind_some, q3, Option.bind_some]
    by_cases c1 : w1 = (-1 : Int32)
    · rw [if_pos c1]
      exact ⟨_, rfl, keep (fun z => z.1.1 (by rw [← q2, c1, em])), by first | exact ms | (rw [htc] at ms; exact ms)⟩
    rw [if_neg c1]
    by_cases c2 : w2 = (-1 : Int32)
    · rw [if_pos c2]
      exact ⟨_, rfl, keep (fun z => z.2.1 (by rw [← q4, c2, em])), by first | exact ms | (rw [htc] at ms; exact ms)⟩
    rw [if_neg c2]
    rw [z_eq, em, q2] at c1
    rw [z_eq, em, q4] at c2
    have cw1 := z_cl (a := w1) (by omega)
    have cw2 := z_cl (a := w2) (by omega)
    have k1 : w1.toNatClampNeg = (nz_la y b.toNatClampNeg t (y.1 0 6).toNatClampNeg).toNat := by omega
    have k2 : w2.toNatClampNeg = (nz_la y o.toNatClampNeg t (y.1 0 6).toNatClampNeg).toNat := by omega
    have s7 : s.1 7 = y.1 7 := g2.1 7 (by omega)
    have s8 : s.1 8 = y.1 8 := g2.1 8 (by omega)
    rw [z_ai (Sd := cx_R) (a := 7) (i := w1) (n := 40) rfl (by omega) (by omega), Option.bind_some, z_ai (Sd := cx_R) (a := 8) (i := w1) (n := 40) rfl (by omega) (by omega), Option.bind_some, k1, s7, s8]
    by_cases c3 : y.1 7 (nz_la y b.toNatClampNeg t (y.1 0 6).toNatClampNeg).toNat = y.1 8 (nz_la y b.toNatClampNeg t (y.1 0 6).toNatClampNeg).toNat
    case neg =>
      rw [if_neg c3]
      exact ⟨_, rfl, keep (fun z => c3 z.1.2), by first | exact ms | (rw [htc] at ms; exact ms)⟩
    rw [if_pos c3]
    rw [z_ai (Sd := cx_R) (a := 7) (i := w2) (n := 40) rfl (by omega) (by omega), Option.bind_some, z_ai (Sd := cx_R) (a := 8) (i := w2) (n := 40) rfl (by omega) (by omega), Option.bind_some, k2, s7, s8]
    by_cases c4 : y.1 7 (nz_la y o.toNatClampNeg t (y.1 0 6).toNatClampNeg).toNat = y.1 8 (nz_la y o.toNatClampNeg t (y.1 0 6).toNatClampNeg).toNat
    case neg =>
      rw [if_neg c4]
      exact ⟨_, rfl, keep (fun z => c4 z.2.2), by first | exact ms | (rw [htc] at ms; exact ms)⟩
    rw [if_pos c4]
    have hle := nz_kq_le y b.toNatClampNeg o.toNatClampNeg t
    have hkI : (nI (nz_kq y b.toNatClampNeg o.toNatClampNeg t).1).toInt = ((nz_kq y b.toNatClampNeg o.toNatClampNeg t).1 : Int) := z_nI (by omega)
    have hkc := nI_cl (k := (nz_kq y b.toNatClampNeg o.toNatClampNeg t).1) (by omega)
    rw [Option.bind_some, Option.bind_some, z_si (Sd := cx_R) (n := 12) rfl (by omega) (by omega), Option.bind_some, hkc]
    refine ⟨_, rfl, ⟨t + 1, by omega, nI_s t, z_only_tr g2 (z_only_ui 16 _ _ _), ?_⟩, by first | exact ms | (rw [hkc] at ms; exact ms)⟩
    rw [nz_kq1 ⟨⟨c1, c3⟩, ⟨c2, c4⟩⟩]
    dsimp only
    refine ⟨nI_s _, ?_⟩
    intro k hk
    simp only [z_ui]
    simp
    by_cases hkk : k = (nz_kq y b.toNatClampNeg o.toNatClampNeg t).1
    · rw [if_pos hkk, if_pos hkk]
    · rw [if_neg hkk, if_neg hkk]
      exact g4 k (by omega))
    (a := ((0 : Int32), (0 : Int32), y)) ⟨0, by omega, rfl, z_only_rf 16 y, rfl, fun k hk => absurd hk (Nat.not_lt_zero k)⟩
  exact key
/-! the most alike -/
def nz_mb (d : Nat → Int32) (n : Nat) : Nat → Int32 × Int32
  | 0 => (0, 0)
  | k + 1 => if (nz_mb d n k).1 < nI (z_on (fun j => decide (d j = d k)) n) then (nI (z_on (fun j => decide (d j = d k)) n), d k) else if nI (z_on (fun j => decide (d j = d k)) n) = (nz_mb d n k).1 then (if (nz_mb d n k).2 ≤ d k then nz_mb d n k else (nI (z_on (fun j => decide (d j = d k)) n), d k)) else nz_mb d n k
theorem nz_weighC {s : ax_S} {n : Nat} {d : Nat → Int32} (hn : n ≤ 12) (h1 : s.1 6 1 = nI n) (hd : ∀ k, k < n → s.1 35 k = d k) (v : Int32) : ax_lp (b_X4_weigh_4 v s) ((0 : Int32), (0 : Int32)) = some (nI (z_on (fun j => decide (d j = v)) n)) := by
  refine z_for (f := b_X4_weigh_4 v s) (fun k => (nI (z_on (fun j => decide (d j = v)) k), nI k)) n (fun k hk => ?_) ?_
  · have hkI : (nI k).toInt = (k : Int) := z_nI (by omega)
    have hkc := nI_cl (k := k) (by omega)
    have hnI : (nI n).toInt = (n : Int) := z_nI (by omega)
    unfold b_X4_weigh_4
    dsimp only
    rw [h1, if_neg (by rw [z_le]; omega), z_ai (Sd := cx_C) (n := 12) rfl (by omega) (by omega), Option.bind_some, hkc, hd k hk]
    show _ = some (Sum.inl (nI (z_on (fun j => decide (d j = v)) k + (if decide (d k = v) = true then 1 else 0)), nI (k + 1)))
    rw [← nI_s k]
    by_cases g : d k = v
    · rw [if_pos g, if_pos (by simp [g]), ← nI_s]
    · rw [if_neg g, if_neg (by simp [g])]; rfl
  · have hnI : (nI n).toInt = (n : Int) := z_nI (by omega)
    unfold b_X4_weigh_4
    dsimp only
    rw [h1, if_pos (by rw [z_le]; omega)]
theorem nz_likeR {s : ax_S} {n : Nat} {d : Nat → Int32} (hn : n ≤ 12) (hd : ∀ k, k < n → s.1 16 k = d k) (p3 l5 l6 : Int32) {m : Nat} (hm : m < n) : ax_lp (b_X10_kin_165 p3 (nI n) l5 l6 (nI m) s) ((0 : Int32), (0 : Int32)) = some (nI (z_on (fun j => decide (d j = d m)) n)) := by
  have hmI : (nI m).toInt = (m : Int) := z_nI (by omega)
  have hmc := nI_cl (k := m) (by omega)
  refine z_for (f := b_X10_kin_165 p3 (nI n) l5 l6 (nI m) s) (fun k => (nI (z_on (fun j => decide (d j = d m)) k), nI k)) n (fun k hk => ?_) ?_
  · have hkI : (nI k).toInt = (k : Int) := z_nI (by omega)
    have hkc := nI_cl (k := k) (by omega)
    have hnI : (nI n).toInt = (n : Int) := z_nI (by omega)
    unfold b_X10_kin_165
    dsimp only
    rw [if_neg (by rw [z_le]; omega), z_ai (Sd := cx_R) (i := nI k) (n := 12) rfl (by omega) (by omega), Option.bind_some, z_ai (Sd := cx_R) (i := nI m) (n := 12) rfl (by omega) (by omega), Option.bind_some, hkc, hmc, hd k hk, hd m hm]
    show _ = some (Sum.inl (nI (z_on (fun j => decide (d j = d m)) k + (if decide (d k = d m) = true then 1 else 0)), nI (k + 1)))
    rw [← nI_s k]
    by_cases g : d k = d m
    · rw [if_pos g, if_pos (by simp [g]), ← nI_s]
    · rw [if_neg g, if_neg (by simp [g]), z_nI0]; rfl
  · unfold b_X10_kin_165
    dsimp only
    rw [if_pos (by rw [z_le]; exact Int.le_refl _)]
theorem nz_bestC {x s : ax_S} {n : Nat} {d : Nat → Int32} (hn : n ≤ 12) (hf : nz_f635 x s) (h1 : s.1 6 1 = nI n) (hd : ∀ k, k < n → s.1 35 k = d k) (h2 : s.1 6 2 = 0) (h3 : s.1 6 3 = 0) : ∃ e, ax_lp (b_X4_compare_94) ((0 : Int32), s) = some e ∧ nz_f635 x e ∧ e.1 6 1 = nI n ∧ e.1 6 2 = (nz_mb d n n).1 ∧ e.1 6 3 = (nz_mb d n n).2 := by
  have hnI : (nI n).toInt = (n : Int) := z_nI (by omega)
  have key := z_inv (f := b_X4_compare_94) (fun a => ∃ k : Nat, k ≤ n ∧ a.1 = nI k ∧ nz_f635 x a.2 ∧ a.2.1 6 1 = nI n ∧ a.2.1 35 = s.1 35 ∧ a.2.1 6 2 = (nz_mb d n k).1 ∧ a.2.1 6 3 = (nz_mb d n k).2)
    (fun e => nz_f635 x e ∧ e.1 6 1 = nI n ∧ e.1 6 2 = (nz_mb d n n).1 ∧ e.1 6 3 = (nz_mb d n n).2) (fun a => n - a.1.toNatClampNeg) (by
    rintro ⟨_, t⟩ ⟨k, hk, g1, g2, g3, g4, g5, g6⟩
    dsimp only at g1 g2 g3 g4 g5 g6
    subst g1
    have hkI : (nI k).toInt = (k : Int) := z_nI (by omega)
    have hkc := nI_cl (k := k) (by omega)
    unfold b_X4_compare_94
    dsimp only
    rw [g3]
    by_cases hl : nI n ≤ nI k
    · left
      rw [if_pos hl]
      rw [z_le, hkI, hnI] at hl
      obtain rfl : k = n := by omega
      exact ⟨_, rfl, g2, g3, g5, g6⟩
    right
    rw [if_neg hl]
    rw [z_le, hkI, hnI] at hl
    have ms : n - (nI k + 1).toNatClampNeg < n - (nI k).toNatClampNeg := by
      rw [nI_s, nI_cl (by omega), hkc]; omega
    have hdt : ∀ j, j < n → t.1 35 j = d j := fun j hj => by rw [g4]; exact hd j hj
    rw [z_ai (Sd := cx_C) (n := 12) rfl (by omega) (by omega), Option.bind_some, hkc, hdt k (by omega)]
    unfold f_X4_weigh
    rw [nz_weighC hn g3 hdt, Option.bind_some, g5, g6]
    have up : ∀ l v : Int32, (ax_ui (ax_ui t 6 2 l) 6 3 v).1 6 1 = nI n ∧ (ax_ui (ax_ui t 6 2 l) 6 3 v).1 35 = s.1 35 ∧ (ax_ui (ax_ui t 6 2 l) 6 3 v).1 6 2 = l ∧ (ax_ui (ax_ui t 6 2 l) 6 3 v).1 6 3 = v := by
      intro l v
      refine ⟨?_, ?_, ?_, ?_⟩
      · simp only [z_ui]; simp; exact g3
      · rw [← g4]; funext m; simp only [z_ui]; simp
      · simp only [z_ui]; simp
      · simp only [z_ui]; simp
    by_cases c1 : (nz_mb d n k).1 < nI (z_on (fun j => decide (d j = d k)) n)
    · rw [if_pos c1]
      obtain ⟨u1, u2, u3, u4⟩ := up (nI (z_on (fun j => decide (d j = d k)) n)) (d k)
      refine ⟨_, rfl, ⟨k + 1, by omega, nI_s k, nz_f635_u6 (nz_f635_u6 g2 _ _) _ _, u1, u2, ?_⟩, by first | exact ms | (rw [hkc] at ms; exact ms)⟩
      rw [nz_mb, if_pos c1]
      exact ⟨u3, u4⟩
    rw [if_neg c1]
    by_cases c2 : nI (z_on (fun j => decide (d j = d k)) n) = (nz_mb d n k).1
    · rw [if_pos c2]
      by_cases c3 : (nz_mb d n k).2 ≤ d k
      · rw [if_pos c3]
        refine ⟨_, rfl, ⟨k + 1, by omega, nI_s k, g2, g3, g4, ?_⟩, by first | exact ms | (rw [hkc] at ms; exact ms)⟩
        rw [nz_mb, if_neg c1, if_pos c2, if_pos c3]
        exact ⟨g5, g6⟩
      · rw [if_neg c3]
        obtain ⟨u1, u2, u3, u4⟩ := up (nI (z_on (fun j => decide (d j = d k)) n)) (d k)
        refine ⟨_, rfl, ⟨k + 1, by omega, nI_s k, nz_f635_u6 (nz_f635_u6 g2 _ _) _ _, u1, u2, ?_⟩, by first | exact ms | (rw [hkc] at ms; exact ms)⟩
        rw [nz_mb, if_neg c1, if_pos c2, if_neg c3]
        exact ⟨u3, u4⟩
    · rw [if_neg c2]
      refine ⟨_, rfl, ⟨k + 1, by omega, nI_s k, g2, g3, g4, ?_⟩, by first | exact ms | (rw [hkc] at ms; exact ms)⟩
      rw [nz_mb, if_neg c1, if_neg c2]
      exact ⟨g5, g6⟩)
    (a := ((0 : Int32), s)) ⟨0, by omega, rfl, hf, h1, rfl, h2, h3⟩
  exact key
theorem nz_bestR {s : ax_S} {n : Nat} {d : Nat → Int32} (hn : n ≤ 12) (hd : ∀ k, k < n → s.1 16 k = d k) (p3 : Int32) : ax_lp (b_X10_kin_152 p3 (nI n) s) ((0 : Int32), (0 : Int32), (0 : Int32)) = some (nz_mb d n n) := by
  have hnI : (nI n).toInt = (n : Int) := z_nI (by omega)
  refine z_for (f := b_X10_kin_152 p3 (nI n) s) (fun k => ((nz_mb d n k).1, (nz_mb d n k).2, nI k)) n (fun k hk => ?_) ?_
  · have hkI : (nI k).toInt = (k : Int) := z_nI (by omega)
    have hkc := nI_cl (k := k) (by omega)
    unfold b_X10_kin_152
    dsimp only
    rw [if_neg (by rw [z_le]; omega), nz_likeR hn hd _ _ _ hk, Option.bind_some, z_ai (Sd := cx_R) (n := 12) rfl (by omega) (by omega), Option.bind_some, hkc, hd k hk]
    show _ = some (Sum.inl ((nz_mb d n (k + 1)).1, (nz_mb d n (k + 1)).2, nI (k + 1)))
    rw [← nI_s k, nz_mb]
    by_cases c1 : (nz_mb d n k).1 < nI (z_on (fun j => decide (d j = d k)) n)
    · rw [if_pos c1, if_pos c1]
    rw [if_neg c1, if_neg c1]
    by_cases c2 : nI (z_on (fun j => decide (d j = d k)) n) = (nz_mb d n k).1
    · rw [if_pos c2, if_pos c2, Option.bind_some]
      by_cases c3 : (nz_mb d n k).2 ≤ d k
      · rw [if_pos c3, if_pos c3]
      · rw [if_neg c3, if_neg c3]
    · rw [if_neg c2, if_neg c2]
  · unfold b_X10_kin_152
    dsimp only
    rw [if_pos (by rw [z_le]; exact Int.le_refl _)]
theorem lq_kin_ok : lq_kin pz_I := by
  intro x y p q w hI
  have hI' := hI
  obtain ⟨hsc, har, hsh, hnu, hbk, hrw, htx⟩ := hI
  have hnu' := hnu
  obtain ⟨n1, n2, n3, n4, n5, n6, n7, n8, n9, n10, n11, n12⟩ := hnu
  have s5 : x.1 3 3 = y.1 0 2 := hsc.2.2.2.2.1
  have e0 : (0 : Int32).toInt = 0 := by decide
  have e2 : (2 : Int32).toInt = 2 := by decide
  unfold f_X9_kin f_X10_kin
  rw [pz_isBookC, pz_isBookC, pz_isBookR _ _ n7, pz_isBookR _ _ n7, s5]
  simp only [Option.bind_some, pz_if0]
  by_cases hp : 0 ≤ p.toInt ∧ p.toInt < (y.1 0 2).toInt
  case neg => rw [if_neg hp, if_neg hp]; exact ⟨_, _, _, rfl, rfl, hI'⟩
  by_cases hq : 0 ≤ q.toInt ∧ q.toInt < (y.1 0 2).toInt
  case neg => rw [if_pos hp, if_pos hp, if_neg hq, if_neg hq]; exact ⟨_, _, _, rfl, rfl, hI'⟩
  rw [if_pos hp, if_pos hp, if_pos hq, if_pos hq]
  by_cases hpq : p = q
  · rw [if_pos hpq, if_pos hpq]; exact ⟨_, _, _, rfl, rfl, hI'⟩
  rw [if_neg hpq, if_neg hpq, pz_in, Option.bind_some, pz_if0, e0, e2]
  by_cases h0 : w < 0
  · rw [if_pos h0]
    rw [z_lt, e0] at h0
    rw [if_neg (by omega)]
    exact ⟨_, _, _, rfl, rfl, hI'⟩
  rw [if_neg h0]
  by_cases h2 : w ≤ 2
  case neg =>
    rw [if_neg h2]
    rw [z_le, e2] at h2
    rw [if_neg (by omega)]
    exact ⟨_, _, _, rfl, rfl, hI'⟩
  rw [if_pos h2]
  rw [z_lt, e0] at h0
  rw [z_le, e2] at h2
  rw [if_pos (by omega), pz_KC hI', Option.bind_some]
  unfold f_X4_compare
  obtain ⟨e, k1, k2, k3, k4, k5, k6⟩ := nz_cmp1 hI' (b := p) (o := q) hp.1 hq.1 (s0 := ax_ui (ax_ui (ax_ui x 6 1 (0 : Int32)) 6 2 (0 : Int32)) 6 3 (0 : Int32)) (nz_f635_u6 (nz_f635_u6 (nz_f635_u6 (fun _ _ _ => rfl) _ _) _ _) _ _) (by simp only [z_ui]; simp) (by simp only [z_ui]; simp) (by simp only [z_ui]; simp)
  have hle := nz_kq_le y p.toNatClampNeg q.toNatClampNeg 12
  obtain ⟨e', m1, m2, m3, m4, m5⟩ := nz_bestC (x := x) hle k2 k3 k4 k5 k6
  obtain ⟨r, r1, r2, r3, r4⟩ := nz_kin39 hnu' hrw (b := p) (o := q) (p3 := w) hp.1 hq.1
  rw [k1, Option.bind_some, m1, Option.bind_some, Option.bind_some, r1, Option.bind_some]
  rw [r3, nz_bestR hle r4 w, Option.bind_some, m3, m4, m5]
  have hI2 : pz_I e' r.2 := pz_fr hI' (nz_f635_eC m2) ⟨⟨by rw [r2.1 0 (by omega)], by rw [r2.1 0 (by omega)], by rw [r2.1 0 (by omega)], by rw [r2.1 0 (by omega)], by rw [r2.1 0 (by omega)], by rw [r2.1 0 (by omega)], by rw [r2.1 0 (by omega)]⟩, fun k _ _ => r2.1 k (by omega), fun k _ _ => r2.1 k (by omega)⟩
  by_cases w0 : w = 0
  · rw [if_pos w0, if_pos w0]; exact ⟨_, _, _, rfl, rfl, hI2⟩
  rw [if_neg w0, if_neg w0]
  by_cases w1 : w = 1
  · rw [if_pos w1, if_pos w1]; exact ⟨_, _, _, rfl, rfl, hI2⟩
  rw [if_neg w1, if_neg w1]
  by_cases w2 : nI (nz_kq y p.toNatClampNeg q.toNatClampNeg 12).1 = 0
  · rw [if_pos w2, if_pos w2]; exact ⟨_, _, _, rfl, rfl, hI2⟩
  · rw [if_neg w2, if_neg w2]; exact ⟨_, _, _, rfl, rfl, hI2⟩

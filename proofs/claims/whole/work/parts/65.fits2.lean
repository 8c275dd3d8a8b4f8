/-! fits, room: both sides -/
theorem nz_rangeC {x y : ax_S} (hI : pz_I x y) {p : Int32} (hp : 0 ≤ p.toInt ∧ p.toInt < 4) : ∃ e, ax_lp (b_X9_isFitting_2 p x) (0 : Int32) = some e ∧ ((e = .inl () ∧ nz_inr y p) ∨ (e = .inr 0 ∧ ¬ nz_inr y p)) := by
  obtain ⟨hsc, har, hsh, hnu, hbk, hrw, htx⟩ := hI
  have hth : 0 ≤ (y.1 0 1).toInt ∧ (y.1 0 1).toInt ≤ 12 := ⟨hnu.2.2.2.2.1, hnu.2.2.2.2.2.1⟩
  have c1 := z_cl hth.1
  refine z_inv (f := b_X9_isFitting_2 p x) (fun a => ∃ k, k ≤ (y.1 0 1).toNatClampNeg ∧ a = nI k ∧ ∀ t, t < k → -200000 ≤ nz_it y p t ∧ nz_it y p t ≤ 200000) (fun e => (e = .inl () ∧ nz_inr y p) ∨ (e = .inr 0 ∧ ¬ nz_inr y p)) (fun a => (y.1 0 1).toNatClampNeg - a.toNatClampNeg) ?_
    (a := (0 : Int32)) ⟨0, Nat.zero_le _, rfl, fun m hm => absurd hm (Nat.not_lt_zero m)⟩
  rintro _ ⟨k, hk, rfl, h1⟩
  have hkI : (nI k).toInt = (k : Int) := z_nI (by omega)
  have hkc := nI_cl (k := k) (by omega)
  unfold b_X9_isFitting_2
  rw [hsc.2.2.1]
  by_cases hl : y.1 0 1 ≤ nI k
  · left
    rw [if_pos hl]
    rw [z_le, hkI] at hl
    exact ⟨_, rfl, Or.inl ⟨rfl, fun t ht => h1 t (by omega)⟩⟩
  · rw [if_neg hl]
    rw [z_le, hkI] at hl
    rw [pz_itemC har hp (by omega), Option.bind_some, hkc]
    have hit : (y.1 25 (40 * p.toNatClampNeg + k)).toInt = nz_it y p k := rfl
    have el : (-200000 : Int32).toInt = -200000 := by decide
    have eh : (200000 : Int32).toInt = 200000 := by decide
    by_cases q1 : y.1 25 (40 * p.toNatClampNeg + k) < (-200000 : Int32)
    · left
      rw [if_pos q1]
      rw [z_lt, hit, el] at q1
      exact ⟨_, rfl, Or.inr ⟨rfl, fun z => by have := z k (by omega); omega⟩⟩
    · rw [if_neg q1]
      rw [z_lt, hit, el] at q1
      by_cases q2 : y.1 25 (40 * p.toNatClampNeg + k) ≤ (200000 : Int32)
      · right
        rw [if_pos q2]
        rw [z_le, hit, eh] at q2
        refine ⟨_, rfl, ⟨k + 1, by omega, nI_s k, ?_⟩, ?_⟩
        · intro t ht
          by_cases q : t = k
          · subst q; omega
          · exact h1 t (by omega)
        · rw [nI_s k, nI_cl (by omega)]; omega
      · left
        rw [if_neg q2]
        rw [z_le, hit, eh] at q2
        exact ⟨_, rfl, Or.inr ⟨rfl, fun z => by have := z k (by omega); omega⟩⟩
theorem nz_rangeR {y : ax_S} (hnu : pz_nu y) {p : Int32} (hp : 0 ≤ p.toInt ∧ p.toInt < 4) : ∃ e, ax_lp (b_X10_isFitting_2 p y) (0 : Int32) = some e ∧ ((e = .inl () ∧ nz_inr y p) ∨ (e = .inr (0, y) ∧ ¬ nz_inr y p)) := by
  have hth : 0 ≤ (y.1 0 1).toInt ∧ (y.1 0 1).toInt ≤ 12 := ⟨hnu.2.2.2.2.1, hnu.2.2.2.2.2.1⟩
  have c1 := z_cl hth.1
  refine z_inv (f := b_X10_isFitting_2 p y) (fun a => ∃ k, k ≤ (y.1 0 1).toNatClampNeg ∧ a = nI k ∧ ∀ t, t < k → -200000 ≤ nz_it y p t ∧ nz_it y p t ≤ 200000) (fun e => (e = .inl () ∧ nz_inr y p) ∨ (e = .inr (0, y) ∧ ¬ nz_inr y p)) (fun a => (y.1 0 1).toNatClampNeg - a.toNatClampNeg) ?_
    (a := (0 : Int32)) ⟨0, Nat.zero_le _, rfl, fun m hm => absurd hm (Nat.not_lt_zero m)⟩
  rintro _ ⟨k, hk, rfl, h1⟩
  have hkI : (nI k).toInt = (k : Int) := z_nI (by omega)
  have hkc := nI_cl (k := k) (by omega)
  unfold b_X10_isFitting_2
  by_cases hl : y.1 0 1 ≤ nI k
  · left
    rw [if_pos hl]
    rw [z_le, hkI] at hl
    exact ⟨_, rfl, Or.inl ⟨rfl, fun t ht => h1 t (by omega)⟩⟩
  · rw [if_neg hl]
    rw [z_le, hkI] at hl
    rw [pz_itemR y hp (by omega), Option.bind_some, hkc, pz_in, Option.bind_some, pz_if0]
    have hit : (y.1 25 (40 * p.toNatClampNeg + k)).toInt = nz_it y p k := rfl
    have el : (-200000 : Int32).toInt = -200000 := by decide
    have eh : (200000 : Int32).toInt = 200000 := by decide
    rw [el, eh, hit]
    by_cases q1 : -200000 ≤ nz_it y p k ∧ nz_it y p k ≤ 200000
    · right
      rw [if_pos q1]
      refine ⟨_, rfl, ⟨k + 1, by omega, nI_s k, ?_⟩, ?_⟩
      · intro t ht
        by_cases q : t = k
        · subst q; omega
        · exact h1 t (by omega)
      · rw [nI_s k, nI_cl (by omega)]; omega
    · left
      rw [if_neg q1]
      exact ⟨_, rfl, Or.inr ⟨rfl, fun z => q1 (z k (by omega))⟩⟩
theorem nz_apartC {x y : ax_S} (hI : pz_I x y) {p : Int32} (hp : 0 ≤ p.toInt ∧ p.toInt < 4) (hin : nz_inr y p) : ∃ w, f_X9_areApartAsTold p x = some w ∧ ((w = 1 ∧ nz_apt y p (y.1 0 6).toNatClampNeg) ∨ (w = 0 ∧ ¬ nz_apt y p (y.1 0 6).toNatClampNeg)) := by
  have hI' := hI
  obtain ⟨hsc, har, hsh, hnu, hbk, hrw, htx⟩ := hI
  have hnu' := hnu
  obtain ⟨n1, n2, n3, n4, n5, n6, n7, n8, n9, n10, n11, n12⟩ := hnu
  have c6 := z_cl n9
  have c1 := z_cl n5
  obtain ⟨a1, a2, a3, a4, a5, a6, a7, a8, -⟩ := id har
  have key := z_inv (f := b_X9_areApartAsTold_8 p (pz_K y) x) (fun a => ∃ k, k ≤ (y.1 0 6).toNatClampNeg ∧ a = nI k ∧ nz_apt y p k) (fun e => (e = .inl () ∧ nz_apt y p (y.1 0 6).toNatClampNeg) ∨ (e = .inr 0 ∧ ¬ nz_apt y p (y.1 0 6).toNatClampNeg)) (fun a => (y.1 0 6).toNatClampNeg - a.toNatClampNeg) (by
    rintro _ ⟨k, hk, rfl, h1⟩
    have hkI : (nI k).toInt = (k : Int) := z_nI (by omega)
    have hkc := nI_cl (k := k) (by omega)
    unfold b_X9_areApartAsTold_8
    rw [hsc.2.2.2.2.2.1]
    by_cases hl : y.1 0 6 ≤ nI k
    · left
      rw [if_pos hl]
      rw [z_le, hkI] at hl
      have : k = (y.1 0 6).toNatClampNeg := by omega
      subst this
      exact ⟨_, rfl, Or.inl ⟨rfl, h1⟩⟩
    · rw [if_neg hl]
      rw [z_le, hkI] at hl
      have hk' : k < (y.1 0 6).toNatClampNeg := by omega
      have ms : (y.1 0 6).toNatClampNeg - (nI k + 1).toNatClampNeg < (y.1 0 6).toNatClampNeg - (nI k).toNatClampNeg := by
        rw [nI_s, nI_cl (by omega), nI_cl (by omega)]; omega
      have ext : (pz_tb (pz_K y) k = true → y.1 6 k ≠ -1 → (y.1 7 k).toInt ≤ nz_it y p (y.1 5 k).toNatClampNeg - nz_it y p (y.1 6 k).toNatClampNeg ∧ nz_it y p (y.1 5 k).toNatClampNeg - nz_it y p (y.1 6 k).toNatClampNeg ≤ (y.1 8 k).toInt) → nz_apt y p (k + 1) := by
        intro q r hr ht h6
        by_cases hrk : r = k
        · subst hrk; exact q ht h6
        · exact h1 r (by omega) ht h6
      by_cases hb1 : lg_cmp (ax_lushr (pz_K y) (nI k) &&& 1) 0 = 0
      · right
        rw [if_pos hb1]
        rw [z_tC _ (by omega)] at hb1
        exact ⟨_, rfl, ⟨k + 1, by omega, nI_s k, ext (fun q => by rw [q] at hb1; exact absurd hb1 (by decide))⟩, ms⟩
      · rw [if_neg hb1]
        rw [z_tC _ (by omega)] at hb1
        have hb2 : pz_tb (pz_K y) k = true := by
          cases hh : pz_tb (pz_K y) k with
          | true => rfl
          | false => exact absurd hh hb1
        rw [z_ai (Sd := cx_C) (x := x) (a := 21) (n := 40) rfl (by omega) (by omega), Option.bind_some, hkc, a6]
        by_cases h6 : y.1 6 k = -1
        · right
          rw [if_pos h6]
          refine ⟨_, rfl, ⟨k + 1, by omega, nI_s k, ext (fun _ q => absurd h6 q)⟩, ?_⟩
          rw [hkc] at ms; exact ms
        · obtain ⟨r1, r2, r3, r4, r5⟩ := nz_row1 hnu' hrw hk'
          have r3 := r3 h6
          have c5 := z_cl r2.1
          have c6' := z_cl r3.1
          have i5 := hin (y.1 5 k).toNatClampNeg (by omega)
          have i6 := hin (y.1 6 k).toNatClampNeg (by omega)
          rw [if_neg h6, z_ai (Sd := cx_C) (x := x) (a := 20) (n := 40) rfl (by omega) (by omega), Option.bind_some, hkc, a5, pz_itemC har hp (by omega), Option.bind_some, Option.bind_some, pz_itemC har hp (by omega), Option.bind_some, z_ai (Sd := cx_C) (x := x) (a := 22) (n := 40) rfl (by omega) (by omega), Option.bind_some, hkc, a7]
          have t5 : (y.1 25 (40 * p.toNatClampNeg + (y.1 5 k).toNatClampNeg)).toInt = nz_it y p (y.1 5 k).toNatClampNeg := rfl
          have t6 : (y.1 25 (40 * p.toNatClampNeg + (y.1 6 k).toNatClampNeg)).toInt = nz_it y p (y.1 6 k).toNatClampNeg := rfl
          have sb : (y.1 25 (40 * p.toNatClampNeg + (y.1 5 k).toNatClampNeg) - y.1 25 (40 * p.toNatClampNeg + (y.1 6 k).toNatClampNeg)).toInt = nz_it y p (y.1 5 k).toNatClampNeg - nz_it y p (y.1 6 k).toNatClampNeg := by
            rw [z_sub (by omega) (by omega), t5, t6]
          by_cases q1 : y.1 25 (40 * p.toNatClampNeg + (y.1 5 k).toNatClampNeg) - y.1 25 (40 * p.toNatClampNeg + (y.1 6 k).toNatClampNeg) < y.1 7 k
          · left
            rw [if_pos q1]
            rw [z_lt, sb] at q1
            exact ⟨_, rfl, Or.inr ⟨rfl, fun z => by have := z k hk' hb2 h6; omega⟩⟩
          · rw [if_neg q1, z_ai (Sd := cx_C) (x := x) (a := 23) (n := 40) rfl (by omega) (by omega), Option.bind_some, hkc, a8]
            rw [z_lt, sb] at q1
            by_cases q2 : y.1 25 (40 * p.toNatClampNeg + (y.1 5 k).toNatClampNeg) - y.1 25 (40 * p.toNatClampNeg + (y.1 6 k).toNatClampNeg) ≤ y.1 8 k
            · right
              rw [if_pos q2]
              rw [z_le, sb] at q2
              refine ⟨_, rfl, ⟨k + 1, by omega, nI_s k, ext (fun _ _ => by omega)⟩, ?_⟩
              rw [hkc] at ms; exact ms
            · left
              rw [if_neg q2]
              rw [z_le, sb] at q2
              exact ⟨_, rfl, Or.inr ⟨rfl, fun z => by have := z k hk' hb2 h6; omega⟩⟩)
    (a := (0 : Int32)) ⟨0, Nat.zero_le _, rfl, fun m hm => absurd hm (Nat.not_lt_zero m)⟩
  obtain ⟨e, k1, k2⟩ := key
  unfold f_X9_areApartAsTold
  rw [pz_KC hI', Option.bind_some, k1, Option.bind_some]
  rcases k2 with ⟨rfl, q⟩ | ⟨rfl, q⟩
  · exact ⟨1, rfl, Or.inl ⟨rfl, q⟩⟩
  · exact ⟨0, rfl, Or.inr ⟨rfl, q⟩⟩
def nz_clk (y : ax_S) (p : Int32) (n : Nat) : Prop := ∀ b, b < n → nz_lK y p b (y.1 0 6).toNatClampNeg ≤ nz_hK y p b (y.1 0 6).toNatClampNeg
theorem nz_clocksC {x y : ax_S} (hI : pz_I x y) {p : Int32} (hp : 0 ≤ p.toInt ∧ p.toInt < 4) (hin : nz_inr y p) : ∃ w, f_X9_areClocksPossible p x = some w ∧ ((w = 1 ∧ nz_clk y p (y.1 0 2).toNatClampNeg) ∨ (w = 0 ∧ ¬ nz_clk y p (y.1 0 2).toNatClampNeg)) := by
  have hI' := hI
  obtain ⟨hsc, har, hsh, hnu, hbk, hrw, htx⟩ := hI
  have hnb : 0 ≤ (y.1 0 2).toInt ∧ (y.1 0 2).toInt ≤ 6 := ⟨hnu.2.2.2.2.2.2.1, hnu.2.2.2.2.2.2.2.1⟩
  have c2 := z_cl hnb.1
  have key := z_inv (f := b_X9_areClocksPossible_2 p x) (fun a => ∃ k, k ≤ (y.1 0 2).toNatClampNeg ∧ a = nI k ∧ nz_clk y p k) (fun e => (e = .inl () ∧ nz_clk y p (y.1 0 2).toNatClampNeg) ∨ (e = .inr 0 ∧ ¬ nz_clk y p (y.1 0 2).toNatClampNeg)) (fun a => (y.1 0 2).toNatClampNeg - a.toNatClampNeg) (by
    rintro _ ⟨k, hk, rfl, h1⟩
    have hkI : (nI k).toInt = (k : Int) := z_nI (by omega)
    have hkc := nI_cl (k := k) (by omega)
    unfold b_X9_areClocksPossible_2
    rw [hsc.2.2.2.2.1]
    by_cases hl : y.1 0 2 ≤ nI k
    · left
      rw [if_pos hl]
      rw [z_le, hkI] at hl
      have : k = (y.1 0 2).toNatClampNeg := by omega
      subst this
      exact ⟨_, rfl, Or.inl ⟨rfl, h1⟩⟩
    · rw [if_neg hl]
      rw [z_le, hkI] at hl
      obtain ⟨w, w1, w2⟩ := nz_room hI' hp hin (b := nI k) (by omega)
      rw [hkc] at w2
      rw [w1, Option.bind_some]
      have e0 : (0 : Int32).toInt = 0 := by decide
      by_cases hw : w = 0
      · left
        rw [if_pos hw]
        rw [z_eq, w2, e0] at hw
        refine ⟨_, rfl, Or.inr ⟨rfl, ?_⟩⟩
        intro z
        have := z k (by omega)
        split at hw <;> omega
      · right
        rw [if_neg hw]
        rw [z_eq, w2, e0] at hw
        refine ⟨_, rfl, ⟨k + 1, by omega, nI_s k, ?_⟩, ?_⟩
        · intro b hb
          by_cases hbk : b = k
          · subst hbk
            split at hw <;> omega
          · exact h1 b (by omega)
        · rw [nI_s k, nI_cl (by omega), hkc]; omega)
    (a := (0 : Int32)) ⟨0, Nat.zero_le _, rfl, fun m hm => absurd hm (Nat.not_lt_zero m)⟩
  obtain ⟨e, k1, k2⟩ := key
  unfold f_X9_areClocksPossible
  rw [k1, Option.bind_some]
  rcases k2 with ⟨rfl, q⟩ | ⟨rfl, q⟩
  · exact ⟨1, rfl, Or.inl ⟨rfl, q⟩⟩
  · exact ⟨0, rfl, Or.inr ⟨rfl, q⟩⟩
def nz_fit (y : ax_S) (p : Int32) : Prop := nz_inr y p ∧ nz_apt y p (y.1 0 6).toNatClampNeg ∧ nz_clk y p (y.1 0 2).toNatClampNeg
theorem nz_fitC {x y : ax_S} (hI : pz_I x y) {p : Int32} (hp : 0 ≤ p.toInt ∧ p.toInt < 4) : ∃ w, f_X9_isFitting p x = some w ∧ ((w = 1 ∧ nz_fit y p) ∨ (w = 0 ∧ ¬ nz_fit y p)) := by
  obtain ⟨e, e1, e2⟩ := nz_rangeC hI hp
  unfold f_X9_isFitting
  rw [e1, Option.bind_some]
  rcases e2 with ⟨rfl, hin⟩ | ⟨rfl, hin⟩
  · obtain ⟨w, w1, w2⟩ := nz_apartC hI hp hin
    obtain ⟨u, u1, u2⟩ := nz_clocksC hI hp hin
    dsimp only [Sum.elim]
    rw [w1, Option.bind_some]
    rcases w2 with ⟨rfl, w2⟩ | ⟨rfl, w2⟩
    · rw [if_neg pz_one, u1, Option.bind_some]
      rcases u2 with ⟨rfl, u2⟩ | ⟨rfl, u2⟩
      · exact ⟨1, rfl, Or.inl ⟨rfl, hin, w2, u2⟩⟩
      · exact ⟨0, rfl, Or.inr ⟨rfl, fun z => u2 z.2.2⟩⟩
    · exact ⟨0, rfl, Or.inr ⟨rfl, fun z => w2 z.2.1⟩⟩
  · exact ⟨0, rfl, Or.inr ⟨rfl, fun z => hin z.1⟩⟩
/-- only the reference's bounds of clocks have changed -/
def nz_f1415 (y t : ax_S) : Prop := ∀ k, k ≠ 14 → k ≠ 15 → t.1 k = y.1 k
theorem nz_f1415_eR {y t : ax_S} (h : nz_f1415 y t) : pz_eR y t := ⟨⟨by rw [h 0 (by omega) (by omega)], by rw [h 0 (by omega) (by omega)], by rw [h 0 (by omega) (by omega)], by rw [h 0 (by omega) (by omega)], by rw [h 0 (by omega) (by omega)], by rw [h 0 (by omega) (by omega)], by rw [h 0 (by omega) (by omega)]⟩, fun k _ _ => h k (by omega) (by omega), fun k _ _ => h k (by omega) (by omega)⟩
theorem nz_fitR {y : ax_S} (hnu : pz_nu y) (hbk : pz_bk y) (hrw : pz_rw y) {p : Int32} (hp : 0 ≤ p.toInt ∧ p.toInt < 4) : ∃ w t, f_X10_isFitting p y = some (w, t) ∧ nz_f1415 y t ∧ ((w = 1 ∧ nz_fit y p ∧ ∀ b, b < (y.1 0 2).toNatClampNeg → (t.1 14 b).toInt = nz_lK y p b (y.1 0 6).toNatClampNeg ∧ (t.1 15 b).toInt = nz_hK y p b (y.1 0 6).toNatClampNeg) ∨ (w = 0 ∧ ¬ nz_fit y p)) := by
  obtain ⟨e, e1, e2⟩ := nz_rangeR hnu hp
  have hnu' := hnu
  obtain ⟨n1, n2, n3, n4, n5, n6, n7, n8, n9, n10, n11, n12⟩ := hnu
  have c6 := z_cl n9
  have c1 := z_cl n5
  have c2 := z_cl n7
  unfold f_X10_isFitting
  rw [e1, Option.bind_some]
  rcases e2 with ⟨rfl, hin⟩ | ⟨rfl, hin⟩
  case inr => exact ⟨0, y, rfl, fun _ _ _ => rfl, Or.inr ⟨rfl, fun z => hin z.1⟩⟩
  dsimp only [Sum.elim]
  have key1 := z_inv (f := b_X10_isFitting_41 p) (fun a => ∃ k, k ≤ (y.1 0 2).toNatClampNeg ∧ a.1 = nI k ∧ nz_f1415 y a.2 ∧ ∀ b, b < k → a.2.1 14 b = y.1 1 b ∧ a.2.1 15 b = y.1 2 b) (fun t => nz_f1415 y t ∧ ∀ b, b < (y.1 0 2).toNatClampNeg → t.1 14 b = y.1 1 b ∧ t.1 15 b = y.1 2 b) (fun a => (y.1 0 2).toNatClampNeg - a.1.toNatClampNeg) (by
    rintro ⟨_, t⟩ ⟨k, hk, h1, h2, h3⟩
    dsimp only at h1 h2 h3
    subst h1
    have hkI : (nI k).toInt = (k : Int) := z_nI (by omega)
    have hkc := nI_cl (k := k) (by omega)
    unfold b_X10_isFitting_41
    dsimp only
    rw [h2 0 (by omega) (by omega)]
    by_cases hl : y.1 0 2 ≤ nI k
    · left
      rw [if_pos hl]
      rw [z_le, hkI] at hl
      exact ⟨t, rfl, h2, fun b hb => h3 b (by omega)⟩
    · right
      rw [if_neg hl]
      rw [z_le, hkI] at hl
      rw [z_ai (Sd := cx_R) (x := t) (a := 1) (n := 6) rfl (by omega) (by omega), Option.bind_some, hkc, z_si (Sd := cx_R) (x := t) (a := 14) (n := 6) rfl (by omega) (by omega), Option.bind_some, hkc, z_ai (Sd := cx_R) (a := 2) (n := 6) rfl (by omega) (by omega), Option.bind_some, hkc, z_si (Sd := cx_R) (a := 15) (n := 6) rfl (by omega) (by omega), Option.bind_some, hkc]
      refine ⟨_, rfl, ⟨k + 1, by omega, nI_s k, ?_, ?_⟩, ?_⟩
      · intro q q14 q15
        dsimp only
        rw [(z_only_ui 15 _ _ _).1 q q15, (z_only_ui 14 _ _ _).1 q q14]
        exact h2 q q14 q15
      · intro b hb
        dsimp only
        simp only [z_ui]
        by_cases q : b = k
        · subst q
          simp
          rw [h2 1 (by omega) (by omega), h2 2 (by omega) (by omega)]
          exact ⟨rfl, rfl⟩
        · simp [q]
          exact h3 b (by omega)
      · dsimp only
        rw [nI_s k, nI_cl (by omega)]
        omega)
    (a := ((0 : Int32), y)) ⟨0, Nat.zero_le _, rfl, fun _ _ _ => rfl, fun m hm => absurd hm (Nat.not_lt_zero m)⟩
  obtain ⟨t1, f1, g1, g2⟩ := key1
  rw [f1, Option.bind_some]
  have bnd := fun b (hb : b < (y.1 0 2).toNatClampNeg) => nz_lK_b hnu' hbk hrw hin hb
  have key2 := z_inv (f := b_X10_isFitting_83 p) (fun a => ∃ k, k ≤ (y.1 0 6).toNatClampNeg ∧ a.2.1 = nI k ∧ nz_f1415 y a.2.2 ∧ ((a.1 = 1 ∧ nz_apt y p k) ∨ (a.1 = 0 ∧ ¬ nz_apt y p k)) ∧ ∀ b, b < (y.1 0 2).toNatClampNeg → (a.2.2.1 14 b).toInt = nz_lK y p b k ∧ (a.2.2.1 15 b).toInt = nz_hK y p b k)
    (fun e => nz_f1415 y e.2 ∧ ((e.1 = 1 ∧ nz_apt y p (y.1 0 6).toNatClampNeg) ∨ (e.1 = 0 ∧ ¬ nz_apt y p (y.1 0 6).toNatClampNeg)) ∧ ∀ b, b < (y.1 0 2).toNatClampNeg → (e.2.1 14 b).toInt = nz_lK y p b (y.1 0 6).toNatClampNeg ∧ (e.2.1 15 b).toInt = nz_hK y p b (y.1 0 6).toNatClampNeg)
    (fun a => (y.1 0 6).toNatClampNeg - a.2.1.toNatClampNeg) (by
    rintro ⟨fl, _, t⟩ ⟨k, hk, h1, h2, h3, h4⟩
    dsimp only at h1 h2 h3 h4
    subst h1
    have hkI : (nI k).toInt = (k : Int) := z_nI (by omega)
    have hkc := nI_cl (k := k) (by omega)
    unfold b_X10_isFitting_83
    dsimp only
    have e06 : t.1 0 6 = y.1 0 6 := by rw [h2 0 (by omega) (by omega)]
    rw [e06]
    by_cases hl : y.1 0 6 ≤ nI k
    · left
      rw [if_pos hl]
      rw [z_le, hkI] at hl
      have : k = (y.1 0 6).toNatClampNeg := by omega
      subst this
      exact ⟨_, rfl, h2, h3, h4⟩
    · right
      rw [if_neg hl]
      rw [z_le, hkI] at hl
      have hk' : k < (y.1 0 6).toNatClampNeg := by omega
      have ms : (y.1 0 6).toNatClampNeg - (nI k + 1).toNatClampNeg < (y.1 0 6).toNatClampNeg - k := by
        rw [nI_s, nI_cl (by omega)]; omega
      have hkn : (pz_tb (pz_K y) k = true) ↔ pz_kn t (pz_vd t) k = true := by
        rw [z_K_tb hnu', show pz_kn t (pz_vd t) k = pz_kn y (pz_vd y) k from by unfold pz_kn pz_vd; rw [h2 0 (by omega) (by omega), h2 9 (by omega) (by omega), h2 10 (by omega) (by omega)]]
        simp [hk']
      rw [pz_knR2 t (nI k) (by omega) (by omega), Option.bind_some, pz_if0, hkc]
      have keep : ∀ fl' : Int32, ¬ (pz_tb (pz_K y) k = true ∧ y.1 6 k = -1) → ((fl' = 1 ∧ nz_apt y p (k + 1)) ∨ (fl' = 0 ∧ ¬ nz_apt y p (k + 1))) → (∃ k_1, k_1 ≤ (y.1 0 6).toNatClampNeg ∧ nI k + 1 = nI k_1 ∧ nz_f1415 y t ∧ ((fl' = 1 ∧ nz_apt y p k_1) ∨ (fl' = 0 ∧ ¬ nz_apt y p k_1)) ∧ ∀ b, b < (y.1 0 2).toNatClampNeg → (t.1 14 b).toInt = nz_lK y p b k_1 ∧ (t.1 15 b).toInt = nz_hK y p b k_1) := by
        intro fl' hno hfl
        refine ⟨k + 1, by omega, nI_s k, h2, hfl, ?_⟩
        intro b hb
        unfold nz_lK nz_hK
        rw [if_neg (fun q => hno ⟨q.1.1, q.1.2.1⟩), if_neg (fun q => hno ⟨q.1.1, q.1.2.1⟩)]
        exact h4 b hb
      by_cases hkk : pz_kn t (pz_vd t) k = true
      case neg =>
        rw [if_neg hkk]
        rw [← hkn] at hkk
        refine ⟨_, rfl, keep fl (fun q => hkk q.1) ?_, ms⟩
        have : nz_apt y p (k + 1) ↔ nz_apt y p k := by
          constructor
          · intro q r hr; exact q r (by omega)
          · intro q r hr ht
            by_cases hrk : r = k
            · subst hrk; exact absurd ht hkk
            · exact q r (by omega) ht
        rw [this]
        exact h3
      rw [if_pos hkk]
      rw [← hkn] at hkk
      obtain ⟨r1, r2, r3, r4, r5⟩ := nz_row1 hnu' hrw hk'
      have c5 := z_cl r2.1
      have c4 := z_cl r1.1
      have i5 := hin (y.1 5 k).toNatClampNeg (by omega)
      rw [z_ai (Sd := cx_R) (x := t) (a := 5) (n := 40) rfl (by omega) (by omega), Option.bind_some, hkc, h2 5 (by omega) (by omega), pz_itemR t hp (by omega), Option.bind_some, z_ai (Sd := cx_R) (x := t) (a := 4) (n := 40) rfl (by omega) (by omega), Option.bind_some, hkc, h2 4 (by omega) (by omega), z_ai (Sd := cx_R) (x := t) (a := 6) (n := 40) rfl (by omega) (by omega), Option.bind_some, hkc, h2 6 (by omega) (by omega), h2 25 (by omega) (by omega)]
      have t5 : (y.1 25 (40 * p.toNatClampNeg + (y.1 5 k).toNatClampNeg)).toInt = nz_it y p (y.1 5 k).toNatClampNeg := rfl
      by_cases h6 : y.1 6 k = -1
      · rw [if_pos h6, z_ai (Sd := cx_R) (x := t) (a := 7) (n := 40) rfl (by omega) (by omega), Option.bind_some, hkc, h2 7 (by omega) (by omega), z_ai (Sd := cx_R) (x := t) (a := 14) (n := 6) rfl (by omega) (by omega), Option.bind_some]
        have s1 : (y.1 7 k - y.1 25 (40 * p.toNatClampNeg + (y.1 5 k).toNatClampNeg)).toInt = (y.1 7 k).toInt - nz_it y p (y.1 5 k).toNatClampNeg := by rw [z_sub (by omega) (by omega), t5]
        have s2 : (y.1 8 k - y.1 25 (40 * p.toNatClampNeg + (y.1 5 k).toNatClampNeg)).toInt = (y.1 8 k).toInt - nz_it y p (y.1 5 k).toNatClampNeg := by rw [z_sub (by omega) (by omega), t5]
        have hb4 := h4 (y.1 4 k).toNatClampNeg (by omega)
        have hfl : (fl = 1 ∧ nz_apt y p (k + 1)) ∨ (fl = 0 ∧ ¬ nz_apt y p (k + 1)) := by
          have : nz_apt y p (k + 1) ↔ nz_apt y p k := by
            constructor
            · intro q r hr; exact q r (by omega)
            · intro q r hr ht h6'
              by_cases hrk : r = k
              · subst hrk; exact absurd h6 h6'
              · exact q r (by omega) ht h6'
          rw [this]; exact h3
        have onb : ∀ b, nz_on y b k ↔ b = (y.1 4 k).toNatClampNeg := fun b => ⟨fun q => q.2.2.symm, fun q => ⟨hkk, h6, q.symm⟩⟩
        have go : ∀ k0 : Int32, k0.toInt = nz_lK y p (y.1 4 k).toNatClampNeg (k + 1) → ∃ a', j_X10_isFitting_83_229 p fl (nI k) (y.1 25 (40 * p.toNatClampNeg + (y.1 5 k).toNatClampNeg)) (y.1 4 k) k0 (y.1 4 k) t = some (.inl a') ∧ (∃ k, k ≤ (y.1 0 6).toNatClampNeg ∧ a'.2.1 = nI k ∧ nz_f1415 y a'.2.2 ∧ ((a'.1 = 1 ∧ nz_apt y p k) ∨ (a'.1 = 0 ∧ ¬ nz_apt y p k)) ∧ ∀ b, b < (y.1 0 2).toNatClampNeg → (a'.2.2.1 14 b).toInt = nz_lK y p b k ∧ (a'.2.2.1 15 b).toInt = nz_hK y p b k) ∧ (y.1 0 6).toNatClampNeg - a'.2.1.toNatClampNeg < (y.1 0 6).toNatClampNeg - k := by
          intro k0 hk0
          unfold j_X10_isFitting_83_229
          rw [z_si (Sd := cx_R) (x := t) (a := 14) (n := 6) rfl (by omega) (by omega), Option.bind_some, z_ai (Sd := cx_R) (a := 8) (n := 40) rfl (by omega) (by omega), Option.bind_some, hkc, z_ai (Sd := cx_R) (a := 15) (n := 6) rfl (by omega) (by omega), Option.bind_some]
          have u8 : (ax_ui t 14 (y.1 4 k).toNatClampNeg k0).1 8 k = y.1 8 k := by rw [z_ui, if_neg (by omega), h2 8 (by omega) (by omega)]
          have u15 : (ax_ui t 14 (y.1 4 k).toNatClampNeg k0).1 15 (y.1 4 k).toNatClampNeg = t.1 15 (y.1 4 k).toNatClampNeg := by rw [z_ui, if_neg (by omega)]
          rw [u8, u15]
          have fin : ∀ u : Int32, u.toInt = nz_hK y p (y.1 4 k).toNatClampNeg (k + 1) → (∃ k_1, k_1 ≤ (y.1 0 6).toNatClampNeg ∧ nI k + 1 = nI k_1 ∧ nz_f1415 y (ax_ui (ax_ui t 14 (y.1 4 k).toNatClampNeg k0) 15 (y.1 4 k).toNatClampNeg u) ∧ ((fl = 1 ∧ nz_apt y p k_1) ∨ (fl = 0 ∧ ¬ nz_apt y p k_1)) ∧ ∀ b, b < (y.1 0 2).toNatClampNeg → ((ax_ui (ax_ui t 14 (y.1 4 k).toNatClampNeg k0) 15 (y.1 4 k).toNatClampNeg u).1 14 b).toInt = nz_lK y p b k_1 ∧ ((ax_ui (ax_ui t 14 (y.1 4 k).toNatClampNeg k0) 15 (y.1 4 k).toNatClampNeg u).1 15 b).toInt = nz_hK y p b k_1) := by
            intro u hu
            refine ⟨k + 1, by omega, nI_s k, ?_, hfl, ?_⟩
            · intro q q14 q15
              rw [(z_only_ui 15 _ _ _).1 q q15, (z_only_ui 14 _ _ _).1 q q14]
              exact h2 q q14 q15
            · intro b hb
              by_cases hbk : b = (y.1 4 k).toNatClampNeg
              · rw [hbk]
                constructor
                · rw [z_ui, if_neg (by omega), z_ui, if_pos ⟨rfl, rfl⟩]; exact hk0
                · rw [z_ui, if_pos ⟨rfl, rfl⟩]; exact hu
              · have q := h4 b hb
                constructor
                · rw [z_ui, if_neg (by omega), z_ui, if_neg (fun z => hbk z.2)]
                  unfold nz_lK
                  rw [if_neg (fun z => hbk ((onb b).mp z.1))]
                  exact q.1
                · rw [z_ui, if_neg (fun z => hbk z.2), z_ui, if_neg (by omega)]
                  unfold nz_hK
                  rw [if_neg (fun z => hbk ((onb b).mp z.1))]
                  exact q.2
          by_cases q : t.1 15 (y.1 4 k).toNatClampNeg ≤ y.1 8 k - y.1 25 (40 * p.toNatClampNeg + (y.1 5 k).toNatClampNeg)
          · rw [if_pos q, Option.bind_some, z_si (Sd := cx_R) (a := 15) (n := 6) rfl (by omega) (by omega), Option.bind_some]
            rw [z_le, s2, hb4.2] at q
            refine ⟨_, rfl, fin _ ?_, ms⟩
            show _ = nz_hK y p _ (k + 1)
            unfold nz_hK
            rw [if_neg (fun z => by omega)]
            exact hb4.2
          · rw [if_neg q, Option.bind_some, z_si (Sd := cx_R) (a := 15) (n := 6) rfl (by omega) (by omega), Option.bind_some]
            rw [z_le, s2, hb4.2] at q
            refine ⟨_, rfl, fin _ ?_, ms⟩
            show _ = nz_hK y p _ (k + 1)
            unfold nz_hK
            rw [if_pos ⟨(onb _).mpr rfl, by omega⟩]
            exact s2
        by_cases q : y.1 7 k - y.1 25 (40 * p.toNatClampNeg + (y.1 5 k).toNatClampNeg) ≤ t.1 14 (y.1 4 k).toNatClampNeg
        · rw [if_pos q, Option.bind_some]
          rw [z_le, s1, hb4.1] at q
          refine go _ ?_
          unfold nz_lK
          rw [if_neg (fun z => by omega)]
          exact hb4.1
        · rw [if_neg q, Option.bind_some]
          rw [z_le, s1, hb4.1] at q
          refine go _ ?_
          unfold nz_lK
          rw [if_pos ⟨(onb _).mpr rfl, by omega⟩]
          exact s1
      · rw [if_neg h6]
        have r3 := r3 h6
        have c6' := z_cl r3.1
        have i6 := hin (y.1 6 k).toNatClampNeg (by omega)
        have t6 : (y.1 25 (40 * p.toNatClampNeg + (y.1 6 k).toNatClampNeg)).toInt = nz_it y p (y.1 6 k).toNatClampNeg := rfl
        have hno : ¬ (pz_tb (pz_K y) k = true ∧ y.1 6 k = -1) := fun q => h6 q.2
        have hap : nz_apt y p (k + 1) ↔ nz_apt y p k ∧ ((y.1 7 k).toInt ≤ nz_it y p (y.1 5 k).toNatClampNeg - nz_it y p (y.1 6 k).toNatClampNeg ∧ nz_it y p (y.1 5 k).toNatClampNeg - nz_it y p (y.1 6 k).toNatClampNeg ≤ (y.1 8 k).toInt) := by
          constructor
          · intro q
            exact ⟨fun r hr => q r (by omega), q k (by omega) hkk h6⟩
          · rintro ⟨q1, q2⟩ r hr ht h6'
            by_cases hrk : r = k
            · subst hrk; exact q2
            · exact q1 r (by omega) ht h6'
        rcases h3 with ⟨rfl, h3⟩ | ⟨rfl, h3⟩
        · rw [if_neg pz_one, Option.bind_some, pz_itemR t hp (by omega), Option.bind_some, z_ai (Sd := cx_R) (x := t) (a := 7) (n := 40) rfl (by omega) (by omega), Option.bind_some, hkc, z_ai (Sd := cx_R) (x := t) (a := 8) (n := 40) rfl (by omega) (by omega), Option.bind_some, hkc, pz_in, Option.bind_some, pz_if0, h2 7 (by omega) (by omega), h2 8 (by omega) (by omega), h2 25 (by omega) (by omega)]
          have sb : (y.1 25 (40 * p.toNatClampNeg + (y.1 5 k).toNatClampNeg) - y.1 25 (40 * p.toNatClampNeg + (y.1 6 k).toNatClampNeg)).toInt = nz_it y p (y.1 5 k).toNatClampNeg - nz_it y p (y.1 6 k).toNatClampNeg := by
            rw [z_sub (by omega) (by omega), t5, t6]
          rw [sb]
          by_cases q : (y.1 7 k).toInt ≤ nz_it y p (y.1 5 k).toNatClampNeg - nz_it y p (y.1 6 k).toNatClampNeg ∧ nz_it y p (y.1 5 k).toNatClampNeg - nz_it y p (y.1 6 k).toNatClampNeg ≤ (y.1 8 k).toInt
          · rw [if_pos q]
            exact ⟨_, rfl, keep 1 hno (Or.inl ⟨rfl, hap.mpr ⟨h3, q⟩⟩), ms⟩
          · rw [if_neg q]
            exact ⟨_, rfl, keep 0 hno (Or.inr ⟨rfl, fun z => q (hap.mp z).2⟩), ms⟩
        · rw [if_pos rfl]
          exact ⟨_, rfl, keep 0 hno (Or.inr ⟨rfl, fun z => h3 (hap.mp z).1⟩), ms⟩)
    (a := ((1 : Int32), (0 : Int32), t1)) ⟨0, Nat.zero_le _, rfl, g1, Or.inl ⟨rfl, fun m hm => absurd hm (Nat.not_lt_zero m)⟩, fun b hb => ⟨congrArg Int32.toInt (g2 b hb).1, congrArg Int32.toInt (g2 b hb).2⟩⟩
  obtain ⟨⟨fl, t2⟩, f2, g3, g4, g5⟩ := key2
  dsimp only at g3 g4 g5
  rw [f2, Option.bind_some]
  dsimp only
  have key3 := z_inv (f := b_X10_isFitting_283 t2) (fun a => ∃ k, k ≤ (y.1 0 2).toNatClampNeg ∧ a.2 = nI k ∧ ((a.1 = 1 ∧ nz_apt y p (y.1 0 6).toNatClampNeg ∧ nz_clk y p k) ∨ (a.1 = 0 ∧ ¬ (nz_apt y p (y.1 0 6).toNatClampNeg ∧ nz_clk y p k))))
    (fun e => (e = 1 ∧ nz_apt y p (y.1 0 6).toNatClampNeg ∧ nz_clk y p (y.1 0 2).toNatClampNeg) ∨ (e = 0 ∧ ¬ (nz_apt y p (y.1 0 6).toNatClampNeg ∧ nz_clk y p (y.1 0 2).toNatClampNeg))) (fun a => (y.1 0 2).toNatClampNeg - a.2.toNatClampNeg) (by
    rintro ⟨f, _⟩ ⟨k, hk, h1, h2⟩
    dsimp only at h1 h2
    subst h1
    have hkI : (nI k).toInt = (k : Int) := z_nI (by omega)
    have hkc := nI_cl (k := k) (by omega)
    unfold b_X10_isFitting_283
    dsimp only
    rw [g3 0 (by omega) (by omega)]
    by_cases hl : y.1 0 2 ≤ nI k
    · left
      rw [if_pos hl]
      rw [z_le, hkI] at hl
      have : k = (y.1 0 2).toNatClampNeg := by omega
      subst this
      exact ⟨_, rfl, h2⟩
    · right
      rw [if_neg hl]
      rw [z_le, hkI] at hl
      have ms : (y.1 0 2).toNatClampNeg - (nI k + 1).toNatClampNeg < (y.1 0 2).toNatClampNeg - (nI k).toNatClampNeg := by
        rw [nI_s, nI_cl (by omega), hkc]; omega
      have gk := g5 k (by omega)
      rcases h2 with ⟨rfl, h2, h3⟩ | ⟨rfl, h2⟩
      · rw [if_neg pz_one, z_ai (Sd := cx_R) (x := t2) (a := 14) (n := 6) rfl (by omega) (by omega), Option.bind_some, z_ai (Sd := cx_R) (x := t2) (a := 15) (n := 6) rfl (by omega) (by omega), Option.bind_some, hkc]
        by_cases q : t2.1 15 k < t2.1 14 k
        · rw [if_pos q]
          rw [z_lt, gk.1, gk.2] at q
          refine ⟨_, rfl, ⟨k + 1, by omega, nI_s k, Or.inr ⟨rfl, ?_⟩⟩, by rw [hkc] at ms; exact ms⟩
          rintro ⟨-, z⟩
          have := z k (by omega)
          omega
        · rw [if_neg q]
          rw [z_lt, gk.1, gk.2] at q
          refine ⟨_, rfl, ⟨k + 1, by omega, nI_s k, Or.inl ⟨rfl, h2, ?_⟩⟩, by rw [hkc] at ms; exact ms⟩
          intro b hb
          by_cases hbk : b = k
          · subst hbk; omega
          · exact h3 b (by omega)
      · rw [if_pos rfl]
        refine ⟨_, rfl, ⟨k + 1, by omega, nI_s k, Or.inr ⟨rfl, ?_⟩⟩, ms⟩
        rintro ⟨z1, z2⟩
        exact h2 ⟨z1, fun b hb => z2 b (by omega)⟩)
    (a := (fl, (0 : Int32))) ⟨0, Nat.zero_le _, rfl, by
      rcases g4 with ⟨q1, q2⟩ | ⟨q1, q2⟩
      · exact Or.inl ⟨q1, q2, fun m hm => absurd hm (Nat.not_lt_zero m)⟩
      · exact Or.inr ⟨q1, fun z => q2 z.1⟩⟩
  obtain ⟨e, f3, g6⟩ := key3
  rw [f3, Option.bind_some]
  rcases g6 with ⟨rfl, g6, g7⟩ | ⟨rfl, g6⟩
  · rw [z_zb1]
    exact ⟨1, t2, rfl, g3, Or.inl ⟨rfl, ⟨hin, g6, g7⟩, g5⟩⟩
  · rw [z_zb0]
    exact ⟨0, t2, rfl, g3, Or.inr ⟨rfl, fun z => g6 ⟨z.2.1, z.2.2⟩⟩⟩
theorem lq_fits_ok : lq_fits pz_I := by
  intro x y p hI
  have hI' := hI
  obtain ⟨hsc, har, hsh, hnu, hbk, hrw, htx⟩ := hI
  unfold f_X9_fits f_X10_fits
  rw [pz_isSheetC, Option.bind_some, pz_if0, pz_isSheetR, Option.bind_some, pz_if0]
  by_cases c : 0 ≤ p.toInt ∧ p.toInt < 4
  case neg => rw [if_neg c, if_neg c]; exact ⟨_, x, y, rfl, rfl, hI'⟩
  have cp := z_cl c.1
  rw [if_pos c, if_pos c, pz_lostC hI' p c, Option.bind_some, pz_if0, z_ab (Sd := cx_R) (x := y) (a := 22) (n := 4) rfl c.1 (by omega), Option.bind_some]
  by_cases d : y.1 22 p.toNatClampNeg = 0
  · rw [if_pos d, if_pos d]
    unfold f_X9_found f_X10_meets
    exact ⟨_, _, _, rfl, rfl, pz_find hI' _⟩
  rw [if_neg d, if_neg d, z_ai (Sd := cx_C) (x := x) (a := 38) (n := 4) rfl c.1 (by omega), Option.bind_some, z_ai (Sd := cx_R) (x := y) (a := 24) (n := 4) rfl c.1 (by omega), Option.bind_some, har.2.2.2.2.2.2.2.2.2.2.2.1, hsc.2.2.1]
  by_cases e : y.1 0 1 ≤ y.1 24 p.toNatClampNeg
  case neg =>
    rw [if_neg e, if_neg e]
    unfold f_X9_found f_X10_meets
    exact ⟨_, _, _, rfl, rfl, pz_find hI' _⟩
  rw [if_pos e, if_pos e]
  obtain ⟨w, w1, w2⟩ := nz_fitC hI' c
  obtain ⟨u, t, u1, u2, u3⟩ := nz_fitR hnu hbk hrw c
  rw [w1, Option.bind_some, u1, Option.bind_some]
  have hfin := pz_fr hI' (pz_eC_rf x) (nz_f1415_eR u2)
  unfold f_X9_oneIf
  rcases w2 with ⟨rfl, w2⟩ | ⟨rfl, w2⟩ <;> rcases u3 with ⟨rfl, u3, -⟩ | ⟨rfl, u3⟩
  · exact ⟨1, x, t, rfl, rfl, hfin⟩
  · exact absurd w2 u3
  · exact absurd u3 w2
  · exact ⟨0, x, t, rfl, rfl, hfin⟩
theorem lq_room_ok : lq_room pz_I := by
  intro x y p b hI
  have hI' := hI
  obtain ⟨hsc, har, hsh, hnu, hbk, hrw, htx⟩ := hI
  have h7 : 0 ≤ (y.1 0 2).toInt := hnu.2.2.2.2.2.2.1
  have h7' : (y.1 0 2).toInt ≤ 6 := hnu.2.2.2.2.2.2.2.1
  have c2 := z_cl h7
  unfold f_X9_room f_X10_room
  rw [pz_isSheetC, Option.bind_some, pz_if0, pz_isSheetR, Option.bind_some, pz_if0]
  by_cases c : 0 ≤ p.toInt ∧ p.toInt < 4
  case neg => rw [if_neg c, if_neg c]; exact ⟨_, x, y, rfl, rfl, hI'⟩
  have cp := z_cl c.1
  rw [if_pos c, if_pos c, pz_isBookC, Option.bind_some, pz_if0, pz_isBookR _ _ h7, Option.bind_some, pz_if0, hsc.2.2.2.2.1]
  by_cases cb : 0 ≤ b.toInt ∧ b.toInt < (y.1 0 2).toInt
  case neg => rw [if_neg cb, if_neg cb]; exact ⟨_, x, y, rfl, rfl, hI'⟩
  have cbb := z_cl cb.1
  rw [if_pos cb, if_pos cb]
  unfold f_X9_fits
  rw [pz_isSheetC, Option.bind_some, pz_if0, if_pos c, pz_lostC hI' p c, Option.bind_some, pz_if0, z_ab (Sd := cx_R) (x := y) (a := 22) (n := 4) rfl c.1 (by omega), Option.bind_some]
  by_cases d : y.1 22 p.toNatClampNeg = 0
  · rw [if_pos d, if_pos d]
    unfold f_X9_found f_X10_meets
    exact ⟨_, _, _, rfl, rfl, pz_find hI' _⟩
  rw [if_neg d, if_neg d, z_ai (Sd := cx_C) (x := x) (a := 38) (n := 4) rfl c.1 (by omega), Option.bind_some, z_ai (Sd := cx_R) (x := y) (a := 24) (n := 4) rfl c.1 (by omega), Option.bind_some, har.2.2.2.2.2.2.2.2.2.2.2.1, hsc.2.2.1]
  by_cases e : y.1 0 1 ≤ y.1 24 p.toNatClampNeg
  case neg =>
    rw [if_neg e, if_neg e]
    unfold f_X9_found f_X10_meets
    exact ⟨_, _, _, rfl, rfl, pz_find hI' _⟩
  rw [if_pos e, if_pos e]
  obtain ⟨w, w1, w2⟩ := nz_fitC hI' c
  obtain ⟨u, t, u1, u2, u3⟩ := nz_fitR hnu hbk hrw c
  rw [w1, Option.bind_some, u1, Option.bind_some]
  have hfin := pz_fr hI' (pz_eC_rf x) (nz_f1415_eR u2)
  unfold f_X9_oneIf
  rcases w2 with ⟨rfl, w2⟩ | ⟨rfl, w2⟩ <;> rcases u3 with ⟨rfl, u3, u4⟩ | ⟨rfl, u3⟩
  · rw [if_neg pz_one, Option.bind_some, Option.bind_some]
    dsimp only
    rw [if_pos (by decide), if_pos rfl, if_neg pz_one]
    obtain ⟨m, m1, m2⟩ := nz_room hI' c w2.1 cb
    have u4 := u4 b.toNatClampNeg (by omega)
    have bb := nz_lK_b hnu hbk hrw w2.1 (b := b.toNatClampNeg) (by omega) _ (Nat.le_refl _)
    have hc := w2.2.2 b.toNatClampNeg (by omega)
    rw [m1, z_ai (Sd := cx_R) (x := t) (a := 15) (n := 6) rfl cb.1 (by omega), z_ai (Sd := cx_R) (x := t) (a := 14) (n := 6) rfl cb.1 (by omega)]
    have e1 : (1 : Int32).toInt = 1 := by decide
    have d1 : (t.1 15 b.toNatClampNeg - t.1 14 b.toNatClampNeg).toInt = (t.1 15 b.toNatClampNeg).toInt - (t.1 14 b.toNatClampNeg).toInt := z_sub (by omega) (by omega)
    have d2 : (t.1 15 b.toNatClampNeg - t.1 14 b.toNatClampNeg + 1).toInt = (t.1 15 b.toNatClampNeg).toInt - (t.1 14 b.toNatClampNeg).toInt + 1 := by rw [z_add (by omega) (by omega), d1, e1]
    have hm : m = t.1 15 b.toNatClampNeg - t.1 14 b.toNatClampNeg + 1 := by
      rw [z_eq, d2, m2, if_neg (by omega), u4.1, u4.2]
    rw [hm]
    exact ⟨_, x, t, rfl, rfl, hfin⟩
  · exact absurd w2 u3
  · exact absurd u3 w2
  · exact ⟨-3, x, t, rfl, rfl, hfin⟩

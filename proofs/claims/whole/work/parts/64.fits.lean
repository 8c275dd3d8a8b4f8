/-! fits, room -/
theorem pz_itemC {x y : ax_S} (har : pz_ar x y) {p i : Int32} (hp : 0 ≤ p.toInt ∧ p.toInt < 4) (hi : 0 ≤ i.toInt ∧ i.toInt < 40) : f_X8_item p i x = some (y.1 25 (40 * p.toNatClampNeg + i.toNatClampNeg)) := by
  have cp := z_cl hp.1
  have ci := z_cl hi.1
  have e40 : (40 : Int32).toInt = 40 := by decide
  have h1 : (p * 40).toInt = p.toInt * 40 := by rw [z_mul (by rw [e40]; omega) (by rw [e40]; omega), e40]
  have h2 : (p * 40 + i).toInt = p.toInt * 40 + i.toInt := by rw [z_add (by omega) (by omega), h1]
  have h3 : (p * 40 + i).toNatClampNeg = 40 * p.toNatClampNeg + i.toNatClampNeg := by
    have := z_cl (a := p * 40 + i) (by omega)
    omega
  unfold f_X8_item
  rw [z_ai (Sd := cx_C) (x := x) (a := 39) (n := 160) rfl (by omega) (by omega), h3, har.2.2.2.2.2.2.2.2.2.2.2.2]; rfl
theorem pz_itemR (t : ax_S) {p i : Int32} (hp : 0 ≤ p.toInt ∧ p.toInt < 4) (hi : 0 ≤ i.toInt ∧ i.toInt < 40) : ax_ai cx_R t 25 ((40 : Int32) * p + i) = some (t.1 25 (40 * p.toNatClampNeg + i.toNatClampNeg)) := by
  have cp := z_cl hp.1
  have ci := z_cl hi.1
  have h2 := z_40 hp hi
  have h3 : (40 * p + i).toNatClampNeg = 40 * p.toNatClampNeg + i.toNatClampNeg := by
    have := z_cl (a := 40 * p + i) (by omega)
    omega
  rw [z_ai (Sd := cx_R) (x := t) (a := 25) (n := 160) rfl (by omega) (by omega), h3]
def nz_it (y : ax_S) (p : Int32) (t : Nat) : Int := (y.1 25 (40 * p.toNatClampNeg + t)).toInt
def nz_inr (y : ax_S) (p : Int32) : Prop := ∀ t, t < (y.1 0 1).toNatClampNeg → -200000 ≤ nz_it y p t ∧ nz_it y p t ≤ 200000
def nz_on (y : ax_S) (b r : Nat) : Prop := pz_tb (pz_K y) r = true ∧ y.1 6 r = -1 ∧ (y.1 4 r).toNatClampNeg = b
noncomputable def nz_lK (y : ax_S) (p : Int32) (b : Nat) : Nat → Int
  | 0 => (y.1 1 b).toInt
  | k + 1 => @ite Int (nz_on y b k ∧ nz_lK y p b k < (y.1 7 k).toInt - nz_it y p (y.1 5 k).toNatClampNeg) (Classical.propDecidable _) ((y.1 7 k).toInt - nz_it y p (y.1 5 k).toNatClampNeg) (nz_lK y p b k)
noncomputable def nz_hK (y : ax_S) (p : Int32) (b : Nat) : Nat → Int
  | 0 => (y.1 2 b).toInt
  | k + 1 => @ite Int (nz_on y b k ∧ (y.1 8 k).toInt - nz_it y p (y.1 5 k).toNatClampNeg < nz_hK y p b k) (Classical.propDecidable _) ((y.1 8 k).toInt - nz_it y p (y.1 5 k).toNatClampNeg) (nz_hK y p b k)
def nz_apt (y : ax_S) (p : Int32) (n : Nat) : Prop := ∀ r, r < n → pz_tb (pz_K y) r = true → y.1 6 r ≠ -1 → (y.1 7 r).toInt ≤ nz_it y p (y.1 5 r).toNatClampNeg - nz_it y p (y.1 6 r).toNatClampNeg ∧ nz_it y p (y.1 5 r).toNatClampNeg - nz_it y p (y.1 6 r).toNatClampNeg ≤ (y.1 8 r).toInt
theorem nz_row1 {y : ax_S} (hnu : pz_nu y) (hrw : pz_rw y) {r : Nat} (hr : r < (y.1 0 6).toNatClampNeg) : (0 ≤ (y.1 4 r).toInt ∧ (y.1 4 r).toInt < (y.1 0 2).toInt) ∧ (0 ≤ (y.1 5 r).toInt ∧ (y.1 5 r).toInt < (y.1 0 1).toInt) ∧ (y.1 6 r ≠ -1 → 0 ≤ (y.1 6 r).toInt ∧ (y.1 6 r).toInt < (y.1 0 1).toInt) ∧ (-200000 ≤ (y.1 7 r).toInt ∧ (y.1 7 r).toInt ≤ 200000) ∧ (-200000 ≤ (y.1 8 r).toInt ∧ (y.1 8 r).toInt ≤ 200000) := by
  have c6 := z_cl (a := y.1 0 6) hnu.2.2.2.2.2.2.2.2.1
  obtain ⟨b1, b2, b3, b4, b5, -⟩ := hrw r (by omega)
  refine ⟨⟨b1, b2⟩, ⟨b3, b4⟩, ?_, by omega, by omega⟩
  intro h
  rcases b5 with ⟨q, -⟩ | ⟨q1, q2, -⟩
  · exact absurd (by rw [z_eq, q]; decide) h
  · exact ⟨q1, q2⟩
theorem nz_lK_b {y : ax_S} (hnu : pz_nu y) (hbk : pz_bk y) (hrw : pz_rw y) {p : Int32} (hin : nz_inr y p) {b : Nat} (hb : b < (y.1 0 2).toNatClampNeg) : ∀ k, k ≤ (y.1 0 6).toNatClampNeg → (-400000 ≤ nz_lK y p b k ∧ nz_lK y p b k ≤ 400000) ∧ (-400000 ≤ nz_hK y p b k ∧ nz_hK y p b k ≤ 400000) := by
  have c2 := z_cl (a := y.1 0 2) hnu.2.2.2.2.2.2.1
  have c1 := z_cl (a := y.1 0 1) hnu.2.2.2.2.1
  intro k
  induction k with
  | zero =>
    intro _
    have := hbk b (by omega)
    show (-400000 ≤ (y.1 1 b).toInt ∧ (y.1 1 b).toInt ≤ 400000) ∧ (-400000 ≤ (y.1 2 b).toInt ∧ (y.1 2 b).toInt ≤ 400000)
    omega
  | succ k ih =>
    intro hk
    have ih := ih (by omega)
    obtain ⟨r1, r2, r3, r4, r5⟩ := nz_row1 hnu hrw (r := k) (by omega)
    have c5 := z_cl r2.1
    have hi := hin (y.1 5 k).toNatClampNeg (by omega)
    unfold nz_lK nz_hK
    constructor
    · split <;> omega
    · split <;> omega
theorem nz_isOnBy {x y : ax_S} (hI : pz_I x y) {r : Nat} (hr : r < (y.1 0 6).toNatClampNeg) {b : Int32} (hb : 0 ≤ b.toInt) : f_X7_isOnBy (nI r) b x = some (if y.1 6 r = -1 ∧ (y.1 4 r).toNatClampNeg = b.toNatClampNeg then 1 else 0) := by
  obtain ⟨hsc, har, hsh, hnu, hbk, hrw, htx⟩ := hI
  have hrow := nz_row1 hnu hrw hr
  have hnr : 0 ≤ (y.1 0 6).toInt ∧ (y.1 0 6).toInt ≤ 40 := ⟨hnu.2.2.2.2.2.2.2.2.1, hnu.2.2.2.2.2.2.2.2.2.1⟩
  have c6 := z_cl hnr.1
  have hrI : (nI r).toInt = (r : Int) := z_nI (by omega)
  have hrc := nI_cl (k := r) (by omega)
  have cb := z_cl hb
  have c4 := z_cl hrow.1.1
  unfold f_X7_isOnBy
  rw [z_ai (Sd := cx_C) (x := x) (a := 21) (n := 40) rfl (by omega) (by omega), Option.bind_some, hrc, har.2.2.2.2.2.1]
  by_cases h1 : y.1 6 r = -1
  · rw [if_pos h1, z_ai (Sd := cx_C) (x := x) (a := 19) (n := 40) rfl (by omega) (by omega), Option.bind_some, hrc, har.2.2.2.1]
    by_cases h2 : y.1 4 r = b
    · rw [if_pos h2, if_pos ⟨h1, by rw [h2]⟩]
    · rw [if_neg h2, if_neg]
      rintro ⟨-, q⟩
      rw [z_eq] at h2
      omega
  · rw [if_neg h1, if_neg (fun q => h1 q.1)]
theorem nz_room {x y : ax_S} (hI : pz_I x y) {p : Int32} (hp : 0 ≤ p.toInt ∧ p.toInt < 4) (hin : nz_inr y p) {b : Int32} (hb : 0 ≤ b.toInt ∧ b.toInt < (y.1 0 2).toInt) : ∃ w, f_X9_roomByDays p b x = some w ∧ w.toInt = (if nz_hK y p b.toNatClampNeg (y.1 0 6).toNatClampNeg - nz_lK y p b.toNatClampNeg (y.1 0 6).toNatClampNeg + 1 < 0 then 0 else nz_hK y p b.toNatClampNeg (y.1 0 6).toNatClampNeg - nz_lK y p b.toNatClampNeg (y.1 0 6).toNatClampNeg + 1) := by
  have hI' := hI
  obtain ⟨hsc, har, hsh, hnu, hbk, hrw, htx⟩ := hI
  have hnu' := hnu
  obtain ⟨n1, n2, n3, n4, n5, n6, n7, n8, n9, n10, n11, n12⟩ := hnu
  have c6 := z_cl n9
  have c1 := z_cl n5
  have c2 := z_cl n7
  have cb := z_cl hb.1
  have bnd := nz_lK_b hnu' hbk hrw hin (b := b.toNatClampNeg) (by omega)
  obtain ⟨a1, a2, a3, a4, a5, a6, a7, a8, -⟩ := id har
  have key := z_inv (f := b_X9_roomByDays_30 p b (pz_K y) x) (fun a => ∃ k, k ≤ (y.1 0 6).toNatClampNeg ∧ a.2.2 = nI k ∧ a.1.toInt = nz_lK y p b.toNatClampNeg k ∧ a.2.1.toInt = nz_hK y p b.toNatClampNeg k)
    (fun e => e.1.toInt = nz_lK y p b.toNatClampNeg (y.1 0 6).toNatClampNeg ∧ e.2.toInt = nz_hK y p b.toNatClampNeg (y.1 0 6).toNatClampNeg) (fun a => (y.1 0 6).toNatClampNeg - a.2.2.toNatClampNeg) (by
    rintro ⟨l, h, _⟩ ⟨k, hk, h1, h2, h3⟩
    dsimp only at h1 h2 h3
    subst h1
    have hkI : (nI k).toInt = (k : Int) := z_nI (by omega)
    have hkc := nI_cl (k := k) (by omega)
    unfold b_X9_roomByDays_30
    dsimp only
    rw [hsc.2.2.2.2.2.1]
    by_cases hl : y.1 0 6 ≤ nI k
    · left
      rw [if_pos hl]
      rw [z_le, hkI] at hl
      have : k = (y.1 0 6).toNatClampNeg := by omega
      subst this
      exact ⟨_, rfl, h2, h3⟩
    · right
      rw [if_neg hl]
      rw [z_le, hkI] at hl
      have hk' : k < (y.1 0 6).toNatClampNeg := by omega
      have ms : (y.1 0 6).toNatClampNeg - (nI k + 1).toNatClampNeg < (y.1 0 6).toNatClampNeg - (nI k).toNatClampNeg := by
        rw [nI_s, nI_cl (by omega), nI_cl (by omega)]; omega
      have skip : ¬ nz_on y b.toNatClampNeg k → ∃ k', k' ≤ (y.1 0 6).toNatClampNeg ∧ nI k + 1 = nI k' ∧ l.toInt = nz_lK y p b.toNatClampNeg k' ∧ h.toInt = nz_hK y p b.toNatClampNeg k' := by
        intro q
        refine ⟨k + 1, by omega, nI_s k, ?_, ?_⟩
        · unfold nz_lK; rw [if_neg (fun z => q z.1)]; exact h2
        · unfold nz_hK; rw [if_neg (fun z => q z.1)]; exact h3
      by_cases hb1 : lg_cmp (ax_lushr (pz_K y) (nI k) &&& 1) 0 = 0
      · rw [if_pos hb1]
        rw [z_tC _ (by omega)] at hb1
        exact ⟨_, rfl, skip (fun q => by rw [q.1] at hb1; exact absurd hb1 (by decide)), ms⟩
      · rw [if_neg hb1, nz_isOnBy hI' hk' hb.1, Option.bind_some, pz_if0]
        rw [z_tC _ (by omega)] at hb1
        have hb2 : pz_tb (pz_K y) k = true := by
          cases hh : pz_tb (pz_K y) k with
          | true => rfl
          | false => exact absurd hh hb1
        by_cases hon : y.1 6 k = -1 ∧ (y.1 4 k).toNatClampNeg = b.toNatClampNeg
        · rw [if_pos hon]
          obtain ⟨r1, r2, r3, r4, r5⟩ := nz_row1 hnu' hrw hk'
          have c5 := z_cl r2.1
          have hi := hin (y.1 5 k).toNatClampNeg (by omega)
          rw [z_ai (Sd := cx_C) (x := x) (a := 20) (n := 40) rfl (by omega) (by omega), Option.bind_some, hkc, a5, pz_itemC har hp (by omega), Option.bind_some, z_ai (Sd := cx_C) (x := x) (a := 22) (n := 40) rfl (by omega) (by omega), Option.bind_some, hkc, a7, z_ai (Sd := cx_C) (x := x) (a := 23) (n := 40) rfl (by omega) (by omega), Option.bind_some, hkc, a8]
          have hit : (y.1 25 (40 * p.toNatClampNeg + (y.1 5 k).toNatClampNeg)).toInt = nz_it y p (y.1 5 k).toNatClampNeg := rfl
          have s1 : (y.1 7 k - y.1 25 (40 * p.toNatClampNeg + (y.1 5 k).toNatClampNeg)).toInt = (y.1 7 k).toInt - nz_it y p (y.1 5 k).toNatClampNeg := by rw [z_sub (by omega) (by omega), hit]
          have s2 : (y.1 8 k - y.1 25 (40 * p.toNatClampNeg + (y.1 5 k).toNatClampNeg)).toInt = (y.1 8 k).toInt - nz_it y p (y.1 5 k).toNatClampNeg := by rw [z_sub (by omega) (by omega), hit]
          have onk : nz_on y b.toNatClampNeg k := ⟨hb2, hon⟩
          refine ⟨_, rfl, ⟨k + 1, by omega, nI_s k, ?_, ?_⟩, by rw [hkc] at ms; exact ms⟩
          · dsimp only
            unfold ax_max nz_lK
            by_cases q : l < y.1 7 k - y.1 25 (40 * p.toNatClampNeg + (y.1 5 k).toNatClampNeg)
            · have q' := q
              rw [z_lt, s1, h2] at q'
              rw [if_pos q, if_pos ⟨onk, q'⟩, s1]
            · have q' := q
              rw [z_lt, s1, h2] at q'
              rw [if_neg q, if_neg (fun z => q' z.2)]
              exact h2
          · dsimp only
            unfold ax_min nz_hK
            by_cases q : y.1 8 k - y.1 25 (40 * p.toNatClampNeg + (y.1 5 k).toNatClampNeg) < h
            · have q' := q
              rw [z_lt, s2, h3] at q'
              rw [if_pos q, if_pos ⟨onk, q'⟩, s2]
            · have q' := q
              rw [z_lt, s2, h3] at q'
              rw [if_neg q, if_neg (fun z => q' z.2)]
              exact h3
        · rw [if_neg hon]
          exact ⟨_, rfl, skip (fun q => hon q.2), ms⟩)
    (a := (y.1 1 b.toNatClampNeg, y.1 2 b.toNatClampNeg, (0 : Int32))) ⟨0, Nat.zero_le _, rfl, rfl, rfl⟩
  obtain ⟨⟨l, h⟩, k1, k2, k3⟩ := key
  dsimp only at k2 k3
  have bb := bnd _ (Nat.le_refl _)
  have e1 : (1 : Int32).toInt = 1 := by decide
  have e0 : (0 : Int32).toInt = 0 := by decide
  have d1 : (h - l).toInt = h.toInt - l.toInt := z_sub (by omega) (by omega)
  have d2 : (h - l + 1).toInt = h.toInt - l.toInt + 1 := by rw [z_add (by omega) (by omega), d1, e1]
  refine ⟨ax_max 0 (h - l + 1), ?_, ?_⟩
  · unfold f_X9_roomByDays
    rw [pz_KC hI', Option.bind_some, z_ai (Sd := cx_C) (x := x) (a := 26) (n := 6) rfl hb.1 (by omega), Option.bind_some, z_ai (Sd := cx_C) (x := x) (a := 27) (n := 6) rfl hb.1 (by omega), Option.bind_some, a1, a2, k1]; rfl
  · rw [← k2, ← k3]
    unfold ax_max
    by_cases q : h.toInt - l.toInt + 1 < 0
    · rw [if_pos q]
      split
      · rename_i g; rw [z_lt, d2, e0] at g; omega
      · exact e0
    · rw [if_neg q]
      split
      · exact d2
      · rename_i g; rw [z_lt, d2, e0] at g
        rw [e0]; omega

/-! changed: day by day, and from news to news -/
theorem nz_cnt_zero {q : Nat → Prop} {n : Nat} (h : nz_cnt q n = 0) : ∀ j, j < n → ¬ q j := by
  intro j hj hq
  have := nz_cnt_lt (p := fun _ => False) (q := q) (fun _ h => h.elim) hj (fun h => h) hq
  omega
/-- days on which nothing is news -/
theorem nz_skip {y t : ax_S} (ht : nz_frR y t) (hnu : pz_nu t) (p left : Int32) {B : Int64} : ∀ (n d : Nat), (∀ e, d ≤ e → e < d + n → pz_kb y (nI e) (y.1 0 6).toNatClampNeg = B) → (d : Int) + n ≤ (y.1 0 0).toInt + 1 → ax_lp (b_X10_changed_35 p) (B, left, nI d, t) = ax_lp (b_X10_changed_35 p) (B, left, nI (d + n), t) := by
  intro n
  have e6 : t.1 0 6 = y.1 0 6 := ht.2 6 (by omega) (by omega) (by omega)
  have e0 : t.1 0 0 = y.1 0 0 := ht.2 0 (by omega) (by omega) (by omega)
  have h399 : (t.1 0 0).toInt ≤ 399 := hnu.2.1
  rw [e0] at h399
  induction n with
  | zero => intro d _ _; rfl
  | succ n ih =>
    intro d hB hd
    have hdI : (nI d).toInt = (d : Int) := z_nI (by omega)
    have h1 : b_X10_changed_35 p (B, left, nI d, t) = some (.inl (B, left, nI (d + 1), t)) := by
      unfold b_X10_changed_35
      dsimp only
      rw [e0, if_neg (by rw [z_lt, hdI]; omega), pz_knownR hnu, Option.bind_some, e6, nz_kb_eR (ht.1 9 (by omega) (by omega)) (ht.1 10 (by omega) (by omega)), hB d (by omega) (by omega), if_pos (z_cmp0.mpr rfl), nI_s]
    rw [z_lpl h1, ih (d + 1) (fun e h2 h3 => hB e (by omega) (by omega)) (by omega), show d + 1 + n = d + (n + 1) by omega]
theorem lq_changed_ok : lq_changed pz_I := by
  intro x y p i hI
  have hI' := hI
  obtain ⟨hsc, har, hsh, hnu, hbk, hrw, htx⟩ := hI
  have hnu' := hnu
  obtain ⟨n1, n2, n3, n4, n5, n6, n7, n8, n9, n10, n11, n12⟩ := hnu
  have c6 := z_cl n9
  have e0 : (0 : Int32).toInt = 0 := by decide
  have e1 : (1 : Int32).toInt = 1 := by decide
  unfold f_X9_changed f_X10_changed
  rw [pz_isThingC, Option.bind_some, pz_if0, pz_isThingR _ _ n5, Option.bind_some, pz_if0, hsc.2.2.1]
  by_cases c : 0 ≤ p.toInt ∧ p.toInt < (y.1 0 1).toInt
  case neg => rw [if_neg c, if_neg c]; exact ⟨_, x, y, rfl, rfl, hI'⟩
  rw [if_pos c, if_pos c]
  by_cases ci : 0 ≤ i
  case neg => rw [if_neg ci, if_neg ci]; exact ⟨_, x, y, rfl, rfl, hI'⟩
  rw [if_pos ci, if_pos ci]
  rw [z_le, e0] at ci
  obtain ⟨k0, s0, t0, z0, a1, a2, a3, a4, a5, a6, a7, -⟩ := nz_other (nz_fr_rf x) (y := y) (t := y) ⟨fun _ _ _ => rfl, fun _ _ _ _ => rfl⟩ hI' c 0
  have kbR : ∀ {t : ax_S} (ht : nz_frR y t) (hn : pz_nu t) (d : Int32), f_X10_knownBits d t = some (pz_kb y d (y.1 0 6).toNatClampNeg) := by
    intro t ht hn d
    rw [pz_knownR hn, ht.2 6 (by omega) (by omega) (by omega), nz_kb_eR (ht.1 9 (by omega) (by omega)) (ht.1 10 (by omega) (by omega))]
  have kbC : ∀ {s t : ax_S} (ht : nz_frR y t) (hn : pz_I s t) (d : Int32), f_X7_knownAsOf d s = some (pz_kb y d (y.1 0 6).toNatClampNeg) := by
    intro s t ht hn d
    rw [pz_knownC hn, ht.2 6 (by omega) (by omega) (by omega), nz_kb_eR (ht.1 9 (by omega) (by omega)) (ht.1 10 (by omega) (by omega))]
  rw [pz_knownC hI', Option.bind_some, a1, Option.bind_some, a2, Option.bind_some]
  dsimp only
  rw [kbR a4 a5.2.2.2.1, Option.bind_some]
  have same : ∀ (D e : Nat), (D : Int) ≤ e → (∀ r, r < (y.1 0 6).toNatClampNeg → ((y.1 9 r).toInt ≤ D ∨ (e : Int) < (y.1 9 r).toInt) ∧ ((y.1 10 r).toInt ≤ D ∨ (e : Int) < (y.1 10 r).toInt)) → (e : Int) ≤ 399 → pz_kb y (nI e) (y.1 0 6).toNatClampNeg = pz_kb y (nI D) (y.1 0 6).toNatClampNeg := by
    intro D e hDe h he
    have hDI : (nI D).toInt = (D : Int) := z_nI (by omega)
    have heI : (nI e).toInt = (e : Int) := z_nI (by omega)
    apply nz_kb_same
    intro r hr
    have h2 := h r hr
    unfold pz_kn
    rw [hDI, heI]
    apply decide_eq_decide.mpr
    omega
  have key := z_two (f := b_X9_changed_41 p i) (g := b_X10_changed_35 p)
    (fun a b => ∃ D cc k : Nat, a.2.1 = nI D ∧ a.2.2.1 = nI cc ∧ a.2.2.2.1 = nI k ∧ (cc : Int) ≤ i.toInt ∧ (D : Int) ≤ (y.1 0 0).toInt ∧ k ≤ 80 ∧ nz_fr x a.2.2.2.2 ∧ nz_frR y b.2.2.2 ∧ pz_I a.2.2.2.2 b.2.2.2 ∧ nz_st b.2.2.2 a.1 ∧ nz_ks y p.toNatClampNeg (pz_kb y (nI D) (y.1 0 6).toNatClampNeg) a.1 ∧
      b.1 = pz_kb y (nI D) (y.1 0 6).toNatClampNeg ∧ b.2.1.toInt = i.toInt - cc ∧ b.2.2.1 = nI (D + 1) ∧ cc ≤ k ∧
      nz_cnt (fun r => (D : Int) < (y.1 9 r).toInt) (y.1 0 6).toNatClampNeg + nz_cnt (fun r => (D : Int) < (y.1 10 r).toInt) (y.1 0 6).toNatClampNeg + k ≤ 80)
    (fun e e' => ∃ r s t, (Sum.elim (fun e41 => some (((-1 : Int32), e41))) (fun r => some (r)) e : Option (Int32 × ax_S)) = some (r, s) ∧ (Sum.elim (fun e41 => some (((-1 : Int32), e41))) (fun r => some (r)) e' : Option (Int32 × ax_S)) = some (r, t) ∧ pz_I s t)
    (fun a => 80 - a.2.2.2.1.toNatClampNeg) (by
    rintro ⟨kq, _, _, _, s⟩ ⟨_, left, _, t⟩ ⟨D, cc, k, h1, h2, h3, h4, h5, h6, h7, h8, h9, h10, h11, h12, h13, h14, h15, h16⟩
    dsimp only at h1 h2 h3 h7 h8 h9 h10 h11 h12 h13 h14
    subst h1 h2 h3 h12 h14
    have hDI : (nI D).toInt = (D : Int) := z_nI (by omega)
    have hkI : (nI k).toInt = (k : Int) := z_nI (by omega)
    have hcI : (nI cc).toInt = (cc : Int) := z_nI (by omega)
    have et0 : t.1 0 0 = y.1 0 0 := h8.2 0 (by omega) (by omega) (by omega)
    -- no more news: the reference walks to the end
    have none : (∀ r, r < (y.1 0 6).toNatClampNeg → (y.1 9 r).toInt ≤ D ∧ (y.1 10 r).toInt ≤ D) → ax_lp (b_X10_changed_35 p) (pz_kb y (nI D) (y.1 0 6).toNatClampNeg, left, nI (D + 1), t) = some (.inl t) := by
      intro hno
      have c0 := z_cl n1
      rw [nz_skip h8 h9.2.2.2.1 p left ((y.1 0 0).toNatClampNeg - D) (D + 1) (by
        intro e he1 he2
        refine same D e (by omega) ?_ (by omega)
        intro r hr
        have := hno r hr
        omega) (by omega)]
      apply z_lpr
      unfold b_X10_changed_35
      dsimp only
      rw [et0, if_pos]
      rw [z_lt, z_nI (by omega)]
      omega
    by_cases hl : (80 : Int32) ≤ nI k
    · left
      have hl' := hl
      rw [z_le, hkI] at hl'
      simp only [Int32.reduceToInt] at hl'
      refine ⟨.inl s, .inl t, z_lpr ?_, none ?_, -1, s, t, rfl, rfl, h9⟩
      · unfold b_X9_changed_41; dsimp only; rw [if_pos hl]
      · intro r hr
        have q1 := nz_cnt_zero (q := fun r => (D : Int) < (y.1 9 r).toInt) (n := (y.1 0 6).toNatClampNeg) (by omega) r hr
        have q2 := nz_cnt_zero (q := fun r => (D : Int) < (y.1 10 r).toInt) (n := (y.1 0 6).toNatClampNeg) (by omega) r hr
        omega
    have hl' := hl
    rw [z_le, hkI] at hl'
    simp only [Int32.reduceToInt] at hl'
    obtain ⟨w, w1, w2⟩ := nz_next h9 (nI D) (by omega)
    have e6 : t.1 0 6 = y.1 0 6 := h8.2 6 (by omega) (by omega) (by omega)
    have w3 : nz_nx y D (y.1 0 6).toNatClampNeg w.toInt := by
      unfold nz_nx at w2 ⊢
      rw [e6, h8.1 9 (by omega) (by omega), h8.1 10 (by omega) (by omega), hDI] at w2
      exact w2
    have em1 : (-1 : Int32).toInt = -1 := by decide
    rcases w3 with ⟨q1, q2⟩ | ⟨q1, ⟨r0, q2, q3⟩, q4⟩
    · left
      refine ⟨.inr (-1, s), .inl t, z_lpr ?_, none q2, -1, s, t, rfl, rfl, h9⟩
      unfold b_X9_changed_41
      dsimp only
      rw [if_neg hl, w1, Option.bind_some, if_pos (by rw [z_eq, q1, em1])]
    · have hrow := hrw r0 (by omega)
      have hw399 : w.toInt ≤ (y.1 0 0).toInt := by omega
      have cw := z_cl (a := w) (by omega)
      have hwe : w = nI w.toNatClampNeg := z_of (by omega)
      obtain ⟨k', s', t', z, b1, b2, b3, b4, b5, b6, b7, b8⟩ := nz_other h7 h8 h9 c w
      have b8 := b8 kq h10
      -- the reference comes to that day
      have skip := nz_skip h8 h9.2.2.2.1 p left (B := pz_kb y (nI D) (y.1 0 6).toNatClampNeg) (w.toNatClampNeg - (D + 1)) (D + 1) (by
        intro e he1 he2
        refine same D e (by omega) ?_ (by omega)
        intro r hr
        have := q4 r hr
        omega) (by omega)
      rw [show D + 1 + (w.toNatClampNeg - (D + 1)) = w.toNatClampNeg by omega, ← hwe] at skip
      have hcnt : nz_cnt (fun r => w.toInt < (y.1 9 r).toInt) (y.1 0 6).toNatClampNeg + nz_cnt (fun r => w.toInt < (y.1 10 r).toInt) (y.1 0 6).toNatClampNeg + 1 ≤ nz_cnt (fun r => (D : Int) < (y.1 9 r).toInt) (y.1 0 6).toNatClampNeg + nz_cnt (fun r => (D : Int) < (y.1 10 r).toInt) (y.1 0 6).toNatClampNeg := by
        rcases q3 with q3 | q3
        · have m1 := nz_cnt_lt (p := fun r => w.toInt < (y.1 9 r).toInt) (q := fun r => (D : Int) < (y.1 9 r).toInt) (fun m h => by omega) q2 (by omega) (by omega)
          have m2 := nz_cnt_mono (p := fun r => w.toInt < (y.1 10 r).toInt) (q := fun r => (D : Int) < (y.1 10 r).toInt) (fun m h => by omega) (y.1 0 6).toNatClampNeg
          omega
        · have m1 := nz_cnt_lt (p := fun r => w.toInt < (y.1 10 r).toInt) (q := fun r => (D : Int) < (y.1 10 r).toInt) (fun m h => by omega) q2 (by omega) (by omega)
          have m2 := nz_cnt_mono (p := fun r => w.toInt < (y.1 9 r).toInt) (q := fun r => (D : Int) < (y.1 9 r).toInt) (fun m h => by omega) (y.1 0 6).toNatClampNeg
          omega
      rw [show (w.toInt : Int) = (w.toNatClampNeg : Int) from cw.symm] at hcnt
      have ms : 80 - (nI k + 1).toNatClampNeg < 80 - (nI k).toNatClampNeg := by
        rw [nI_s, nI_cl (by omega), nI_cl (by omega)]; omega
      have hC : b_X9_changed_41 p i (kq, nI D, nI cc, nI k, s) = (if lg_cmp k' kq = 0 then some (.inl (k', w, nI cc, nI k + 1, s')) else (if nI cc = i then some (.inr (.inr (w, s'))) else some (.inl (k', w, nI cc + 1, nI k + 1, s')))) := by
        unfold b_X9_changed_41
        dsimp only
        rw [if_neg hl, w1, Option.bind_some, if_neg (by rw [z_eq, em1]; omega), kbC h8 h9, Option.bind_some, b1, Option.bind_some]
      have hR : b_X10_changed_35 p (pz_kb y (nI D) (y.1 0 6).toNatClampNeg, left, w, t) = (if (lg_cmp (pz_kb y w (y.1 0 6).toNatClampNeg) (pz_kb y (nI D) (y.1 0 6).toNatClampNeg)) = 0 then some (.inl (pz_kb y w (y.1 0 6).toNatClampNeg, left, w + 1, t)) else (if z = 0 then some (.inl (pz_kb y w (y.1 0 6).toNatClampNeg, left, w + 1, t')) else (if left = 0 then some (.inr (.inr (w, t'))) else some (.inl (pz_kb y w (y.1 0 6).toNatClampNeg, left + -1, w + 1, t'))))) := by
        unfold b_X10_changed_35
        dsimp only
        rw [et0, if_neg (by rw [z_lt]; omega), kbR h8 h9.2.2.2.1, Option.bind_some, b2, Option.bind_some]
      have hw1 : w + 1 = nI (w.toNatClampNeg + 1) := by rw [← nI_s, ← hwe]
      by_cases hkk : k' = kq
      · -- the same span
        right
        have hC' := hC
        rw [if_pos (z_cmp0.mpr hkk)] at hC'
        by_cases hbb : pz_kb y w (y.1 0 6).toNatClampNeg = pz_kb y (nI D) (y.1 0 6).toNatClampNeg
        · have hR' := hR
          rw [if_pos (z_cmp0.mpr hbb)] at hR'
          have hIst : pz_I s' t := by
            have hIy : pz_I x y := hI'
            exact pz_fr hIy (nz_fr_eC b3) (nz_frR_eR h8)
          refine ⟨_, _, z_lpl hC', skip.trans (z_lpl hR'), ⟨w.toNatClampNeg, cc, k + 1, hwe, rfl, nI_s k, h4, by omega, by omega, b3, h8, hIst, ?_, ?_, ?_, h13, hw1, by omega, by omega⟩, ms⟩
          · dsimp only; rw [hkk]; exact h10
          · dsimp only; rw [← hwe]; exact b7
          · dsimp only; rw [← hwe]
        · have hR' := hR
          rw [if_neg (fun q => hbb (z_cmp0.mp q)), if_pos (b8.mpr hkk)] at hR'
          refine ⟨_, _, z_lpl hC', skip.trans (z_lpl hR'), ⟨w.toNatClampNeg, cc, k + 1, hwe, rfl, nI_s k, h4, by omega, by omega, b3, b4, b5, b6, ?_, ?_, h13, hw1, by omega, by omega⟩, ms⟩
          · dsimp only; rw [← hwe]; exact b7
          · dsimp only; rw [← hwe]
      · -- another span: so other rows, too
        have hbb : ¬ pz_kb y w (y.1 0 6).toNatClampNeg = pz_kb y (nI D) (y.1 0 6).toNatClampNeg := by
          intro q
          rw [q] at b7
          exact hkk (nz_ks_eq b7 h11)
        rw [if_neg (fun q => hkk (z_cmp0.mp q))] at hC
        rw [if_neg (fun q => hbb (z_cmp0.mp q)), if_neg (fun q => hkk (b8.mp q))] at hR
        by_cases hci : nI cc = i
        · left
          rw [if_pos hci] at hC
          have hl0 : left = 0 := by
            rw [z_eq, h13, e0, ← hci, hcI]; omega
          rw [if_pos hl0] at hR
          exact ⟨_, _, z_lpr hC, skip.trans (z_lpr hR), w, s', t', rfl, rfl, b5⟩
        · right
          rw [if_neg hci] at hC
          have hci' : (cc : Int) ≠ i.toInt := by
            rw [z_eq, hcI] at hci; exact hci
          have hl0 : ¬ left = 0 := by
            rw [z_eq, h13, e0]; omega
          rw [if_neg hl0] at hR
          have hcs : nI cc + 1 = nI (cc + 1) := nI_s cc
          have hc1 : ((cc + 1 : Nat) : Int) ≤ i.toInt := by omega
          have hlm : (left + -1).toInt = i.toInt - ((cc + 1 : Nat) : Int) := by
            rw [z_add (by rw [em1]; omega) (by rw [em1]; have := z_hi i; omega), em1, h13]
            omega
          refine ⟨_, _, z_lpl hC, skip.trans (z_lpl hR), ⟨w.toNatClampNeg, cc + 1, k + 1, hwe, hcs, nI_s k, hc1, by omega, by omega, b3, b4, b5, b6, ?_, ?_, hlm, hw1, by omega, by omega⟩, ms⟩
          · dsimp only; rw [← hwe]; exact b7
          · dsimp only; rw [← hwe])
    (a := (k0, (0 : Int32), (0 : Int32), (0 : Int32), s0)) (b := (pz_kb y 0 (y.1 0 6).toNatClampNeg, i, (1 : Int32), t0))
    ⟨0, 0, 0, rfl, rfl, rfl, by omega, by omega, by omega, a3, a4, a5, a6, a7, rfl, (show i.toInt = i.toInt - ((0 : Nat) : Int) by omega), rfl, by omega, by
      have m1 := nz_cnt_le (fun r => ((0 : Nat) : Int) < (y.1 9 r).toInt) (y.1 0 6).toNatClampNeg
      have m2 := nz_cnt_le (fun r => ((0 : Nat) : Int) < (y.1 10 r).toInt) (y.1 0 6).toNatClampNeg
      omega⟩
  obtain ⟨e, e', q1, q2, r, s, t, q3, q4, q5⟩ := key
  rw [q1, q2]
  exact ⟨r, s, t, q3, q4, q5⟩

/-! question: orders in which one comes ahead of another -/
noncomputable def z_wa (b : Nat → Int32) (A B : Nat) : Nat → Int32 := upd b B (b B ||| ((1 : Int32) <<< (nI A &&& 31)))
theorem z_wa_may {b : Nat → Int32} {A B : Nat} (hA : A < 32) (S t : Nat) : z_may (z_wa b A B) S t ↔ z_may b S t ∧ (t = B → S.testBit A = true) := by
  unfold z_may z_wa
  rw [z_upd]
  by_cases h : t = B
  · rw [if_pos h]
    subst h
    constructor
    · rintro ⟨h1, h2⟩
      refine ⟨⟨h1, fun o ho hb => h2 o ho ?_⟩, fun _ => h2 A hA ?_⟩
      · rw [z_pb_or, hb]; rfl
      · rw [z_pb_or, z_pb_one hA]; simp
    · rintro ⟨⟨h1, h2⟩, h3⟩
      refine ⟨h1, fun o ho hb => ?_⟩
      rw [z_pb_or, z_pb_one hA, Bool.or_eq_true, decide_eq_true_eq] at hb
      rcases hb with q | q
      · exact h2 o ho q
      · rw [q]; exact h3 rfl
  · rw [if_neg h]
    constructor
    · intro q; exact ⟨q, fun z => absurd z h⟩
    · intro q; exact q.1
theorem z_wa_in {b : Nat → Int32} {A B n : Nat} (hA : A < 32) : ∀ k S, S.testBit A = true → z_cf (z_wa b A B) n k S = z_cf b n k S := by
  intro k
  induction k with
  | zero => intro S _; rfl
  | succ k ih =>
    intro S hS
    show z_ns _ n = z_ns _ n
    apply z_ns_congr
    intro t ht
    have e : z_may (z_wa b A B) S t ↔ z_may b S t := by
      rw [z_wa_may hA]
      exact ⟨fun q => q.1, fun q => ⟨q, fun _ => hS⟩⟩
    by_cases q : z_may b S t
    · rw [if_pos q, if_pos (e.mpr q), ih _ (by rw [z_or_bit, hS]; rfl)]
    · rw [if_neg q, if_neg (fun z => q (e.mp z))]
theorem z_wa_sum {b : Nat → Int32} {A B n : Nat} (hn : n ≤ 12) (hA : A < n) (hB : B < n) (hAB : A ≠ B) : ∀ k S, z_mis n S = k → S.testBit A = false → S.testBit B = false → z_cf (z_wa b A B) n k S + z_cf (z_wa b B A) n k S = z_cf b n k S := by
  intro k
  induction k with
  | zero =>
    intro S h1 h2 _
    have := z_mis_0 n h1 A hA
    rw [h2] at this
    exact absurd this (by decide)
  | succ k ih =>
    intro S h1 h2 h3
    show z_ns _ n + z_ns _ n = z_ns _ n
    apply z_ns_add
    intro t ht
    have e1 := z_wa_may (b := b) (B := B) (show A < 32 by omega) S t
    have e2 := z_wa_may (b := b) (B := A) (show B < 32 by omega) S t
    by_cases q : z_may b S t
    case neg => rw [if_neg q, if_neg (fun z => q (e1.mp z).1), if_neg (fun z => q (e2.mp z).1)]
    have hm := z_mis_or q.1 n ht
    by_cases qB : t = B
    · subst qB
      rw [if_pos q, if_neg (fun z => by have := (e1.mp z).2 rfl; rw [h2] at this; exact absurd this (by decide)), if_pos (e2.mpr ⟨q, fun z => absurd z.symm hAB⟩), z_wa_in (by omega) _ _ (by rw [z_or_bit]; simp), Nat.zero_add]
    by_cases qA : t = A
    · subst qA
      rw [if_pos q, if_pos (e1.mpr ⟨q, fun z => absurd z qB⟩), if_neg (fun z => by have := (e2.mp z).2 rfl; rw [h3] at this; exact absurd this (by decide)), z_wa_in (by omega) _ _ (by rw [z_or_bit]; simp), Nat.add_zero]
    rw [if_pos q, if_pos (e1.mpr ⟨q, fun z => absurd z qB⟩), if_pos (e2.mpr ⟨q, fun z => absurd z qA⟩)]
    exact ih _ (by omega) (by rw [z_or_bit, h2]; simp [qA]) (by rw [z_or_bit, h3]; simp [qB])
/-- what one set gives to a pair -/
noncomputable def z_T (b : Nat → Int32) (n A B S : Nat) : Int32 := @ite Int32 (z_may b S B ∧ S.testBit A = true) (Classical.propDecidable _) (nI (z_ct b n (S ||| 2 ^ B))) 0
noncomputable def z_M (b : Nat → Int32) (n A B S : Nat) : Int32 := if S.testBit B = true then 0 else nI (z_ct (z_wa b A B) n S)
theorem z_D_M {b : Nat → Int32} {n A B S : Nat} (hn : n ≤ 12) (hA : A < n) (hB : B < n) (hS : S < 2 ^ n) : z_D b n (z_M b n A B) S = z_T b n A B S := by
  unfold z_D
  by_cases hb : S.testBit B = true
  · have e1 : z_M b n A B S = 0 := by unfold z_M; rw [if_pos hb]
    have e2 : z_su (fun t => @ite Int32 (z_may b S t) (Classical.propDecidable _) (z_M b n A B (S ||| 2 ^ t)) 0) n = 0 := by
      apply z_su_0
      intro t ht
      have e3 : z_M b n A B (S ||| 2 ^ t) = 0 := by unfold z_M; rw [if_pos (by rw [z_or_bit, hb]; rfl)]
      rw [e3]
      split <;> rfl
    have e3 : z_T b n A B S = 0 := by
      unfold z_T
      rw [if_neg (fun q => by have := q.1.1; rw [hb] at this; exact absurd this (by decide))]
    rw [e1, e2, e3]
    rfl
  · have hb' : S.testBit B = false := by
      cases h : S.testBit B with
      | false => rfl
      | true => exact absurd h hb
    have hw : S ≠ 2 ^ n - 1 := by
      intro q
      rw [q, Nat.testBit_two_pow_sub_one] at hb'
      simp [hB] at hb'
    have e1 : z_M b n A B S = z_su (fun t => nI (@ite Nat (z_may (z_wa b A B) S t) (Classical.propDecidable _) (z_ct (z_wa b A B) n (S ||| 2 ^ t)) 0)) n := by
      unfold z_M
      rw [if_neg hb, z_ct_s _ hS hw, ← z_su_nI]
    have e2 : z_su (fun t => nI (@ite Nat (z_may (z_wa b A B) S t) (Classical.propDecidable _) (z_ct (z_wa b A B) n (S ||| 2 ^ t)) 0)) n = z_su (fun t => @ite Int32 (z_may b S t) (Classical.propDecidable _) (z_M b n A B (S ||| 2 ^ t)) 0) n + z_T b n A B S := by
      refine z_su_pt hB ?_ ?_
      · intro t ht hne
        have e := z_wa_may (b := b) (B := B) (show A < 32 by omega) S t
        by_cases q : z_may b S t
        · rw [if_pos (e.mpr ⟨q, fun z => absurd z hne⟩), if_pos q]
          unfold z_M
          rw [if_neg (by rw [z_or_bit, hb']; simp [hne])]
        · rw [if_neg (fun z => q (e.mp z).1), if_neg q]; rfl
      · have e := z_wa_may (b := b) (B := B) (show A < 32 by omega) S B
        have z : @ite Int32 (z_may b S B) (Classical.propDecidable _) (z_M b n A B (S ||| 2 ^ B)) 0 = 0 := by
          have : z_M b n A B (S ||| 2 ^ B) = 0 := by unfold z_M; rw [if_pos (by rw [z_or_bit]; simp)]
          rw [this]
          split <;> rfl
        rw [z, Int32.zero_add]
        unfold z_T
        by_cases q : z_may b S B ∧ S.testBit A = true
        · rw [if_pos q, if_pos (e.mpr ⟨q.1, fun _ => q.2⟩)]
          unfold z_ct
          rw [z_wa_in (by omega) _ _ (by rw [z_or_bit, q.2]; rfl)]
        · rw [if_neg q, if_neg (fun w => q ⟨(e.mp w).1, (e.mp w).2 rfl⟩)]; rfl
    rw [e1, e2]
    grind
theorem z_pairs {b : Nat → Int32} {n A B : Nat} {W : Nat → Int32} (hn : n ≤ 12) (hA : A < n) (hB : B < n) (h : z_fw b n 0 W (2 ^ n - 1)) : z_su (fun S => W S * z_T b n A B S) (2 ^ n) = nI (z_ct (z_wa b A B) n 0) := by
  have hp : 0 < 2 ^ n := nz_2pos
  have q := z_fw_w hp h (z_M b n A B)
  have e0 : z_M b n A B 0 = nI (z_ct (z_wa b A B) n 0) := by unfold z_M; rw [if_neg (by simp)]
  have ew : z_M b n A B (2 ^ n - 1) = 0 := by unfold z_M; rw [if_pos (by rw [Nat.testBit_two_pow_sub_one]; simp [hB])]
  have eT : z_T b n A B (2 ^ n - 1) = 0 := by
    unfold z_T
    rw [if_neg (fun z => by have := z.1.1; rw [Nat.testBit_two_pow_sub_one] at this; simp [hB] at this)]
  rw [e0, ew, Int32.mul_zero, Int32.add_zero, Nat.sub_zero] at q
  rw [← q]
  obtain ⟨k, hk⟩ : ∃ k, 2 ^ n = k + 1 := ⟨2 ^ n - 1, by omega⟩
  have hk' : 2 ^ n - 1 = k := by omega
  rw [hk'] at eT ⊢
  rw [hk]
  show z_su (fun S => W S * z_T b n A B S) k + W k * z_T b n A B k = _
  rw [eT, Int32.mul_zero, Int32.add_zero]
  apply z_su_congr
  intro i hi
  rw [Nat.zero_add, z_D_M hn hA hB (by omega)]
/-! the class: in how many ways orders go on, from each set -/
theorem nz_on29 {s : ax_S} {n c : Nat} (hn : n ≤ 12) (h54 : s.1 5 4 = nI n) (hc : c < 2 ^ n) (hw : c ≠ 2 ^ n - 1) (hS : ∀ S, c < S → S < 2 ^ n → s.1 33 S = nI (z_ct (s.1 31) n S)) :
    ax_lp (b_X5_countWaysOn_29 (nI c) s) ((0 : Int32), (0 : Int32)) = some (nI (z_ct (s.1 31) n c)) := by
  have h2n : 2 ^ n ≤ 4096 := (z_2le ⟨n, by omega⟩).2
  have hnI : (nI n).toInt = (n : Int) := z_nI (by omega)
  rw [z_ct_s (s.1 31) hc hw]
  refine z_for (f := b_X5_countWaysOn_29 (nI c) s) (fun t => (nI (z_ns (fun t => @ite Nat (z_may (s.1 31) c t) (Classical.propDecidable _) (z_ct (s.1 31) n (c ||| 2 ^ t)) 0) t), nI t)) n (fun t ht => ?_) ?_
  · have htI : (nI t).toInt = (t : Int) := z_nI (by omega)
    unfold b_X5_countWaysOn_29
    dsimp only
    obtain ⟨w, w1, w2⟩ := z_mayF (s := s) (S := c) (t := t) (by omega) (by omega)
    rw [h54, if_neg (by rw [z_le]; omega), w1, Option.bind_some]
    show _ = some (Sum.inl (nI (z_ns (fun t => @ite Nat (z_may (s.1 31) c t) (Classical.propDecidable _) (z_ct (s.1 31) n (c ||| 2 ^ t)) 0) t + @ite Nat (z_may (s.1 31) c t) (Classical.propDecidable _) (z_ct (s.1 31) n (c ||| 2 ^ t)) 0), nI (t + 1)))
    rw [← nI_s t]
    rcases w2 with ⟨rfl, hm⟩ | ⟨rfl, hm⟩
    · have hlt := z_or_lt hc (show t < n by omega)
      have hgt := z_or_gt hm.1
      have hpI : (nI (c ||| 2 ^ t)).toInt = ((c ||| 2 ^ t : Nat) : Int) := z_nI (by omega)
      rw [if_neg pz_one, if_pos hm, z_nIor c (by omega), z_ai (Sd := cx_C) (n := 4096) rfl (by omega) (by omega), Option.bind_some, nI_cl (by omega), hS _ hgt hlt, nI_add]
    · rw [if_pos rfl, if_neg hm, Nat.add_zero]
  · unfold b_X5_countWaysOn_29
    dsimp only
    rw [h54, if_pos (by rw [z_le]; exact Int.le_refl _)]
theorem nz_waysOn {s : ax_S} {n : Nat} (hn : n ≤ 12) (h54 : s.1 5 4 = nI n) : ∃ e, f_X5_countWaysOn s = some e ∧ z_only 33 s e ∧ ∀ S, S < 2 ^ n → e.1 33 S = nI (z_ct (s.1 31) n S) := by
  have h2 := z_2le ⟨n, by omega⟩
  have h2a : 1 ≤ 2 ^ n := h2.1
  have h2n : 2 ^ n ≤ 4096 := h2.2
  have hw : ((1 : Int32) <<< ((s.1 5 4) &&& 31)) - (1 : Int32) = nI (2 ^ n - 1) := by
    rw [h54, z_2n ⟨n, by omega⟩]
    show nI (2 ^ n) - 1 = _
    have := nI_pred (2 ^ n - 1)
    rw [show 2 ^ n - 1 + 1 = 2 ^ n by omega] at this
    exact this
  have hwI : (nI (2 ^ n - 1)).toInt = ((2 ^ n - 1 : Nat) : Int) := z_nI (by omega)
  have e0 : (0 : Int32).toInt = 0 := by decide
  obtain ⟨v0, hv0⟩ : ∃ v : Int32, v = nI (2 ^ n - 1) - 1 := ⟨_, rfl⟩
  have hv0I : v0.toInt = ((2 ^ n - 1 : Nat) : Int) - 1 := by
    rw [hv0, z_sub (by rw [show (1 : Int32).toInt = 1 from by decide]; omega) (by rw [show (1 : Int32).toInt = 1 from by decide]; omega), hwI]
    rfl
  have key := z_inv (f := b_X5_countWaysOn_20) (fun q => ∃ c : Nat, c ≤ 2 ^ n - 1 ∧ q.1.toInt = (c : Int) - 1 ∧ z_only 33 s q.2 ∧ ∀ S, c ≤ S → S < 2 ^ n → q.2.1 33 S = nI (z_ct (s.1 31) n S))
    (fun e => z_only 33 s e ∧ ∀ S, S < 2 ^ n → e.1 33 S = nI (z_ct (s.1 31) n S)) (fun q => (q.1.toInt + 1).toNat) (by
    rintro ⟨v, u⟩ ⟨c, hc, g1, g2, g3⟩
    dsimp only at g1 g2 g3
    unfold b_X5_countWaysOn_20
    dsimp only
    by_cases hl : v < 0
    · left
      rw [if_pos hl]
      rw [z_lt, e0] at hl
      obtain rfl : c = 0 := by omega
      exact ⟨_, rfl, g2, fun S h => g3 S (Nat.zero_le S) h⟩
    right
    rw [if_neg hl]
    rw [z_lt, e0] at hl
    obtain ⟨d, rfl⟩ : ∃ d, c = d + 1 := ⟨c - 1, by omega⟩
    have hdI : (nI d).toInt = (d : Int) := z_nI (by omega)
    have hdc := nI_cl (k := d) (by omega)
    have hvd : v = nI d := by rw [z_eq]; omega
    have hm0 : (v + -1).toInt = v.toInt - 1 := by
      rw [z_add (by rw [show (-1 : Int32).toInt = -1 from by decide]; omega) (by rw [show (-1 : Int32).toInt = -1 from by decide]; omega)]
      rfl
    obtain ⟨v', hv'⟩ : ∃ v', v' = v + -1 := ⟨_, rfl⟩
    rw [← hv'] at hm0 ⊢
    subst hvd
    rw [nz_on29 (s := u) (n := n) (c := d) hn (by rw [g2.1 5 (by omega), h54]) (by omega) (by omega) (by
      intro S h1 h2
      rw [g3 S (by omega) h2, g2.1 31 (by omega)]), Option.bind_some, z_si (Sd := cx_C) (n := 4096) rfl (by omega) (by omega), Option.bind_some, hdc]
    refine ⟨_, rfl, ⟨d, by omega, by dsimp only; omega, z_only_tr g2 (z_only_ui 33 _ _ _), ?_⟩, by dsimp only; omega⟩
    intro S h1 h2
    rw [z_ui]
    by_cases q : S = d
    · rw [if_pos ⟨rfl, q⟩, q, g2.1 31 (by omega)]
    · rw [if_neg (fun z => q z.2)]
      exact g3 S (by omega) h2)
    (a := (v0, ax_ui s 33 (2 ^ n - 1) 1)) ⟨2 ^ n - 1, Nat.le_refl _, hv0I, z_only_ui 33 _ _ _, by
      intro S h1 h2
      obtain rfl : S = 2 ^ n - 1 := by omega
      rw [z_ui, if_pos ⟨rfl, rfl⟩, z_ct_w]
      rfl⟩
  obtain ⟨e, k1, k2, k3⟩ := key
  refine ⟨e, ?_, k2, k3⟩
  unfold f_X5_countWaysOn
  rw [hw, z_si (Sd := cx_C) (n := 4096) rfl (by omega) (by omega), Option.bind_some, nI_cl (by omega), ← hv0, k1, Option.bind_some]
/-! the class: pairs -/
theorem z_i12 {l g : Nat} (hl : l < 12) (hg : g < 12) : (nI l * (12 : Int32) + nI g).toInt = ((12 * l + g : Nat) : Int) ∧ (nI l * (12 : Int32) + nI g).toNatClampNeg = 12 * l + g := by
  have e : nI l * (12 : Int32) + nI g = nI (12 * l + g) := by
    rw [show (12 : Int32) = nI 12 from rfl, show nI l * nI 12 = nI (l * 12) from (Int32.ofNat_mul l 12).symm, nI_add, Nat.mul_comm]
  rw [e]
  exact ⟨z_nI (by omega), nI_cl (by omega)⟩
theorem nz_addP {s : ax_S} {c t : Nat} (hc : c < 4096) (ht : t < 12) (v : Int32) : ∃ e, f_X5_addToPairs (nI c) (nI t) v s = some e ∧ z_only 34 s e ∧ ∀ l g, l < 12 → g < 12 → e.1 34 (12 * l + g) = if g = t ∧ l < t ∧ c.testBit l = true then s.1 34 (12 * l + g) + v else s.1 34 (12 * l + g) := by
  have htI : (nI t).toInt = (t : Int) := z_nI (by omega)
  have key := z_inv (f := b_X5_addToPairs_3 (nI c) (nI t) v) (fun q => ∃ k, k ≤ t ∧ q.1 = nI k ∧ z_only 34 s q.2 ∧ ∀ l g, l < 12 → g < 12 → q.2.1 34 (12 * l + g) = if g = t ∧ l < k ∧ c.testBit l = true then s.1 34 (12 * l + g) + v else s.1 34 (12 * l + g))
    (fun e => z_only 34 s e ∧ ∀ l g, l < 12 → g < 12 → e.1 34 (12 * l + g) = if g = t ∧ l < t ∧ c.testBit l = true then s.1 34 (12 * l + g) + v else s.1 34 (12 * l + g)) (fun q => t - q.1.toNatClampNeg) (by
    rintro ⟨_, u⟩ ⟨k, hk, g1, g2, g3⟩
    dsimp only at g1 g2 g3
    subst g1
    have hkI : (nI k).toInt = (k : Int) := z_nI (by omega)
    have hkc := nI_cl (k := k) (by omega)
    unfold b_X5_addToPairs_3
    dsimp only
    by_cases hl : nI t ≤ nI k
    · left
      rw [if_pos hl]
      rw [z_le, hkI, htI] at hl
      obtain rfl : k = t := by omega
      exact ⟨_, rfl, g2, g3⟩
    right
    rw [if_neg hl]
    rw [z_le, hkI, htI] at hl
    have ms : t - (nI k + 1).toNatClampNeg < t - (nI k).toNatClampNeg := by
      rw [nI_s, nI_cl (by omega), hkc]; omega
    by_cases hb : ax_iushr (nI c) (nI k) &&& 1 = 0
    · rw [if_pos hb]
      rw [z_pC _ (by omega), z_pb_nI' (by omega)] at hb
      refine ⟨_, rfl, ⟨k + 1, by omega, nI_s k, g2, ?_⟩, by first | exact ms | (rw [hkc] at ms; exact ms)⟩
      intro l g h1 h2
      show u.1 34 (12 * l + g) = _
      rw [g3 l g h1 h2]
      by_cases q : l = k
      · subst q
        rw [if_neg (fun z => by omega), if_neg (fun z => by have := z.2.2; rw [hb] at this; exact absurd this (by decide))]
      · by_cases z : g = t ∧ l < k ∧ c.testBit l = true
        · rw [if_pos z, if_pos ⟨z.1, by omega, z.2.2⟩]
        · rw [if_neg z, if_neg (fun w => z ⟨w.1, by omega, w.2.2⟩)]
    · rw [if_neg hb]
      rw [z_pC _ (by omega), z_pb_nI' (by omega)] at hb
      have hb' : c.testBit k = true := by
        cases h : c.testBit k with
        | true => rfl
        | false => exact absurd h hb
      obtain ⟨i1, i2⟩ := z_i12 (l := k) (g := t) (by omega) ht
      rw [z_ai (Sd := cx_C) (n := 144) rfl (by omega) (by omega), Option.bind_some, z_si (Sd := cx_C) (n := 144) rfl (by omega) (by omega), Option.bind_some, i2]
      refine ⟨_, rfl, ⟨k + 1, by omega, nI_s k, z_only_tr g2 (z_only_ui 34 _ _ _), ?_⟩, by first | exact ms | (rw [hkc] at ms; exact ms)⟩
      intro l g h1 h2
      show (ax_ui u 34 (12 * k + t) _).1 34 (12 * l + g) = _
      rw [z_ui]
      by_cases q : l = k ∧ g = t
      · obtain ⟨rfl, rfl⟩ := q
        rw [if_pos ⟨rfl, rfl⟩, g3 l g h1 h2, if_neg (fun z => by omega), if_pos ⟨rfl, by omega, hb'⟩]
      · rw [if_neg (fun z => q (by omega)), g3 l g h1 h2]
        by_cases z : g = t ∧ l < k ∧ c.testBit l = true
        · rw [if_pos z, if_pos ⟨z.1, by omega, z.2.2⟩]
        · rw [if_neg z, if_neg (fun w => z ⟨w.1, by omega, w.2.2⟩)])
    (a := ((0 : Int32), s)) ⟨0, Nat.zero_le _, rfl, z_only_rf 34 s, fun l g _ _ => by rw [if_neg (fun z => by omega)]⟩
  obtain ⟨e, k1, k2, k3⟩ := key
  refine ⟨e, ?_, k2, k3⟩
  unfold f_X5_addToPairs
  rw [k1, Option.bind_some]
theorem nz_pairs31 {s : ax_S} {n c : Nat} (hn : n ≤ 12) (h54 : s.1 5 4 = nI n) (hc : c < 2 ^ n) (h33 : ∀ S, S < 2 ^ n → s.1 33 S = nI (z_ct (s.1 31) n S)) :
    ∃ e, ax_lp (b_X5_countPairs_31 (nI c)) ((0 : Int32), s) = some e ∧ z_only 34 s e ∧ ∀ l g, l < g → g < n → e.1 34 (12 * l + g) = s.1 34 (12 * l + g) + s.1 32 c * z_T (s.1 31) n l g c := by
  have h2n : 2 ^ n ≤ 4096 := (z_2le ⟨n, by omega⟩).2
  have hnI : (nI n).toInt = (n : Int) := z_nI (by omega)
  have hcI : (nI c).toInt = (c : Int) := z_nI (by omega)
  have hcc := nI_cl (k := c) (by omega)
  have key := z_inv (f := b_X5_countPairs_31 (nI c)) (fun q => ∃ t, t ≤ n ∧ q.1 = nI t ∧ z_only 34 s q.2 ∧ ∀ l g, l < g → g < n → q.2.1 34 (12 * l + g) = if g < t then s.1 34 (12 * l + g) + s.1 32 c * z_T (s.1 31) n l g c else s.1 34 (12 * l + g))
    (fun e => z_only 34 s e ∧ ∀ l g, l < g → g < n → e.1 34 (12 * l + g) = s.1 34 (12 * l + g) + s.1 32 c * z_T (s.1 31) n l g c) (fun q => n - q.1.toNatClampNeg) (by
    rintro ⟨_, u⟩ ⟨t, ht, g1, g2, g3⟩
    dsimp only at g1 g2 g3
    subst g1
    have htI : (nI t).toInt = (t : Int) := z_nI (by omega)
    have htc := nI_cl (k := t) (by omega)
    have e54 : u.1 5 4 = nI n := by rw [g2.1 5 (by omega), h54]
    unfold b_X5_countPairs_31
    dsimp only
    rw [e54]
    by_cases hl : nI n ≤ nI t
    · left
      rw [if_pos hl]
      rw [z_le, htI, hnI] at hl
      obtain rfl : t = n := by omega
      exact ⟨_, rfl, g2, fun l g h1 h2 => by rw [g3 l g h1 h2, if_pos h2]⟩
    right
    rw [if_neg hl]
    rw [z_le, htI, hnI] at hl
    have ms : n - (nI t + 1).toNatClampNeg < n - (nI t).toNatClampNeg := by
      rw [nI_s, nI_cl (by omega), htc]; omega
    obtain ⟨w, w1, w2⟩ := z_mayF (s := u) (S := c) (t := t) (by omega) (by omega)
    rw [w1, Option.bind_some]
    rw [g2.1 31 (by omega)] at w2
    rcases w2 with ⟨rfl, hm⟩ | ⟨rfl, hm⟩
    · have hlt := z_or_lt hc (show t < n by omega)
      have hpI : (nI (c ||| 2 ^ t)).toInt = ((c ||| 2 ^ t : Nat) : Int) := z_nI (by omega)
      have hpc := nI_cl (k := c ||| 2 ^ t) (by omega)
      obtain ⟨e, k1, k2, k3⟩ := nz_addP (s := u) (c := c) (t := t) (by omega) (by omega) (s.1 32 c * nI (z_ct (s.1 31) n (c ||| 2 ^ t)))
      rw [if_neg pz_one, z_nIor c (by omega), z_ai (Sd := cx_C) (i := nI c) (n := 4096) rfl (by omega) (by omega), Option.bind_some, z_ai (Sd := cx_C) (i := nI (c ||| 2 ^ t)) (n := 4096) rfl (by omega) (by omega), Option.bind_some, hpc, hcc, g2.1 32 (by omega), g2.1 33 (by omega), h33 _ hlt, k1, Option.bind_some]
      refine ⟨_, rfl, ⟨t + 1, by omega, nI_s t, z_only_tr g2 k2, ?_⟩, by first | exact ms | (rw [htc] at ms; exact ms)⟩
      intro l g h1 h2
      show e.1 34 (12 * l + g) = _
      rw [k3 l g (by omega) (by omega), g3 l g h1 h2]
      by_cases q : g = t
      · subst q
        rw [if_neg (Nat.lt_irrefl g), if_pos (Nat.lt_succ_self g)]
        unfold z_T
        by_cases z : c.testBit l = true
        · rw [if_pos ⟨rfl, h1, z⟩, if_pos ⟨hm, z⟩]
        · rw [if_neg (fun w => z w.2.2), if_neg (fun w => z w.2), Int32.mul_zero, Int32.add_zero]
      · rw [if_neg (fun z => q z.1)]
        by_cases z : g < t
        · rw [if_pos z, if_pos (by omega)]
        · rw [if_neg z, if_neg (by omega)]
    · rw [if_pos rfl]
      refine ⟨_, rfl, ⟨t + 1, by omega, nI_s t, g2, ?_⟩, by first | exact ms | (rw [htc] at ms; exact ms)⟩
      intro l g h1 h2
      show u.1 34 (12 * l + g) = _
      rw [g3 l g h1 h2]
      by_cases q : g = t
      · subst q
        rw [if_neg (Nat.lt_irrefl g), if_pos (Nat.lt_succ_self g)]
        unfold z_T
        rw [if_neg (fun w => hm w.1), Int32.mul_zero, Int32.add_zero]
      · by_cases z : g < t
        · rw [if_pos z, if_pos (by omega)]
        · rw [if_neg z, if_neg (by omega)])
    (a := ((0 : Int32), s)) ⟨0, Nat.zero_le _, rfl, z_only_rf 34 s, fun l g _ _ => by rw [if_neg (by omega)]⟩
  exact key
theorem nz_countPairs {s : ax_S} {n : Nat} (hn : n ≤ 12) (h54 : s.1 5 4 = nI n) (h33 : ∀ S, S < 2 ^ n → s.1 33 S = nI (z_ct (s.1 31) n S)) :
    ∃ e, f_X5_countPairs s = some e ∧ z_only 34 s e ∧ ∀ l g, l < g → g < n → e.1 34 (12 * l + g) = z_su (fun S => s.1 32 S * z_T (s.1 31) n l g S) (2 ^ n) := by
  have h2 := z_2le ⟨n, by omega⟩
  have h2a : 1 ≤ 2 ^ n := h2.1
  have h2n : 2 ^ n ≤ 4096 := h2.2
  have hpI : (nI (2 ^ n)).toInt = ((2 ^ n : Nat) : Int) := z_nI (by omega)
  have hsh : ((1 : Int32) <<< (nI n &&& 31)) = nI (2 ^ n) := z_2n ⟨n, by omega⟩
  obtain ⟨s1, f1, f2, f3⟩ := nz_fill (p := 34) (n := 144) rfl (by omega) (0 : Int32) s
  obtain ⟨e, k1, k2, k3⟩ := z_inv (f := b_X5_countPairs_10) (fun q => ∃ c, c ≤ 2 ^ n ∧ q.1 = nI c ∧ z_only 34 s q.2 ∧ ∀ l g, l < g → g < n → q.2.1 34 (12 * l + g) = z_su (fun S => s.1 32 S * z_T (s.1 31) n l g S) c)
    (fun e => z_only 34 s e ∧ ∀ l g, l < g → g < n → e.1 34 (12 * l + g) = z_su (fun S => s.1 32 S * z_T (s.1 31) n l g S) (2 ^ n)) (fun q => 2 ^ n - q.1.toNatClampNeg) (by
    rintro ⟨_, u⟩ ⟨c, hc, g1, g2, g3⟩
    dsimp only at g1 g2 g3
    subst g1
    have hcI : (nI c).toInt = (c : Int) := z_nI (by omega)
    have hcc := nI_cl (k := c) (by omega)
    have e54 : u.1 5 4 = nI n := by rw [g2.1 5 (by omega), h54]
    unfold b_X5_countPairs_10
    dsimp only
    rw [e54, hsh]
    by_cases hl : nI (2 ^ n) ≤ nI c
    · left
      rw [if_pos hl]
      rw [z_le, hcI, hpI] at hl
      obtain rfl : c = 2 ^ n := by omega
      exact ⟨_, rfl, g2, g3⟩
    right
    rw [if_neg hl]
    rw [z_le, hcI, hpI] at hl
    have ms : 2 ^ n - (nI c + 1).toNatClampNeg < 2 ^ n - (nI c).toNatClampNeg := by
      rw [nI_s, nI_cl (by omega), hcc]; omega
    have s32 : u.1 32 = s.1 32 := g2.1 32 (by omega)
    rw [z_ai (Sd := cx_C) (n := 4096) rfl (by omega) (by omega), Option.bind_some, hcc, s32]
    by_cases h0 : s.1 32 c = 0
    · rw [if_pos h0]
      refine ⟨_, rfl, ⟨c + 1, by omega, nI_s c, g2, ?_⟩, by first | exact ms | (rw [hcc] at ms; exact ms)⟩
      intro l g h1 h2
      show u.1 34 (12 * l + g) = z_su _ c + s.1 32 c * z_T (s.1 31) n l g c
      rw [h0, Int32.zero_mul, Int32.add_zero]
      exact g3 l g h1 h2
    · rw [if_neg h0]
      obtain ⟨e, k1, k2, k3⟩ := nz_pairs31 (s := u) hn e54 (c := c) (by omega) (fun S hS => by rw [g2.1 33 (by omega), g2.1 31 (by omega)]; exact h33 S hS)
      rw [k1, Option.bind_some]
      refine ⟨_, rfl, ⟨c + 1, by omega, nI_s c, z_only_tr g2 k2, ?_⟩, by first | exact ms | (rw [hcc] at ms; exact ms)⟩
      intro l g h1 h2
      show e.1 34 (12 * l + g) = z_su _ c + s.1 32 c * z_T (s.1 31) n l g c
      rw [k3 l g h1 h2, g3 l g h1 h2, s32, g2.1 31 (by omega)])
    (a := ((0 : Int32), s1)) ⟨0, Nat.zero_le _, rfl, f2, fun l g h1 h2 => f3 _ (by omega)⟩
  refine ⟨e, ?_, k2, k3⟩
  unfold f_X5_countPairs
  rw [f1, Option.bind_some, k1, Option.bind_some]

/-! in how many ways: what goes forward -/
noncomputable def z_D (b : Nat → Int32) (n : Nat) (M : Nat → Int32) (S : Nat) : Int32 := M S - z_su (fun t => @ite Int32 (z_may b S t) (Classical.propDecidable _) (M (S ||| 2 ^ t)) 0) n
def z_fw (b : Nat → Int32) (n st : Nat) (W : Nat → Int32) (c : Nat) : Prop := ∀ M : Nat → Int32, z_su (fun i => W (st + i) * z_D b n M (st + i)) (c - st) + z_su (fun i => W (c + i) * M (c + i)) (2 ^ n - c) = M st
theorem z_fw_0 {b : Nat → Int32} {n st : Nat} {W : Nat → Int32} (hst : st < 2 ^ n) (h1 : W st = 1) (h0 : ∀ S, st < S → S < 2 ^ n → W S = 0) : z_fw b n st W st := by
  intro M
  rw [Nat.sub_self]
  obtain ⟨k, hk⟩ : ∃ k, 2 ^ n - st = k + 1 := ⟨2 ^ n - st - 1, by omega⟩
  rw [hk, z_su_first, z_su_0 (k := k) (fun i hi => by
    rw [h0 (st + (i + 1)) (by omega) (by omega), Int32.zero_mul])]
  show (0 : Int32) + (W (st + 0) * M (st + 0) + 0) = M st
  rw [Nat.add_zero, h1, Int32.one_mul, Int32.add_zero, Int32.zero_add]
theorem z_fw_s {b : Nat → Int32} {n st : Nat} {W W' : Nat → Int32} {c : Nat} (hst : st ≤ c) (hc : c < 2 ^ n) (h : z_fw b n st W c) (h1 : ∀ S, S ≤ c → W' S = W S)
    (h2 : ∀ M : Nat → Int32, z_su (fun i => W' (c + 1 + i) * M (c + 1 + i)) (2 ^ n - (c + 1)) = z_su (fun i => W (c + 1 + i) * M (c + 1 + i)) (2 ^ n - (c + 1)) + W c * z_su (fun t => @ite Int32 (z_may b c t) (Classical.propDecidable _) (M (c ||| 2 ^ t)) 0) n) : z_fw b n st W' (c + 1) := by
  intro M
  have q := h M
  rw [show c + 1 - st = c - st + 1 by omega]
  show z_su (fun i => W' (st + i) * z_D b n M (st + i)) (c - st) + W' (st + (c - st)) * z_D b n M (st + (c - st)) + _ = M st
  rw [show st + (c - st) = c by omega, h1 c (Nat.le_refl c), h2 M, z_su_congr (f := fun i => W' (st + i) * z_D b n M (st + i)) (g := fun i => W (st + i) * z_D b n M (st + i)) (fun i hi => by
    rw [h1 (st + i) (by omega)])]
  rw [← q]
  rw [show 2 ^ n - c = 2 ^ n - (c + 1) + 1 by omega, z_su_first]
  show _ + W c * (M c - z_su (fun t => @ite Int32 (z_may b c t) (Classical.propDecidable _) (M (c ||| 2 ^ t)) 0) n) + _ = _
  rw [z_ring1]
  congr 1
  show _ = W (c + 0) * M (c + 0) + _
  rw [Nat.add_zero]
  congr 1
  apply z_su_congr
  intro i hi
  rw [show c + 1 + i = c + (i + 1) by omega]
theorem z_fw_w {b : Nat → Int32} {n st : Nat} {W : Nat → Int32} (hst : st < 2 ^ n) (h : z_fw b n st W (2 ^ n - 1)) (M : Nat → Int32) : z_su (fun i => W (st + i) * z_D b n M (st + i)) (2 ^ n - 1 - st) + W (2 ^ n - 1) * M (2 ^ n - 1) = M st := by
  have q := h M
  rw [show 2 ^ n - (2 ^ n - 1) = 1 by omega] at q
  have e : z_su (fun i => W (2 ^ n - 1 + i) * M (2 ^ n - 1 + i)) 1 = W (2 ^ n - 1) * M (2 ^ n - 1) := by
    show (0 : Int32) + W (2 ^ n - 1 + 0) * M (2 ^ n - 1 + 0) = _
    rw [Int32.zero_add, Nat.add_zero]
  rw [e] at q
  exact q
theorem z_D_ct (b : Nat → Int32) {n S : Nat} (hS : S < 2 ^ n) (h : S ≠ 2 ^ n - 1) : z_D b n (fun S => nI (z_ct b n S)) S = 0 := by
  unfold z_D
  have e : z_su (fun t => @ite Int32 (z_may b S t) (Classical.propDecidable _) (nI (z_ct b n (S ||| 2 ^ t))) 0) n = nI (z_ct b n S) := by
    rw [z_ct_s b hS h, ← z_su_nI]
    apply z_su_congr
    intro t ht
    by_cases q : z_may b S t
    · rw [if_pos q, if_pos q]
    · rw [if_neg q, if_neg q]; rfl
  show nI (z_ct b n S) - _ = 0
  rw [e, Int32.sub_self]
theorem z_fw_ct {b : Nat → Int32} {n st : Nat} {W : Nat → Int32} (hst : st < 2 ^ n) (h : z_fw b n st W (2 ^ n - 1)) : W (2 ^ n - 1) = nI (z_ct b n st) := by
  have q := z_fw_w hst h (fun S => nI (z_ct b n S))
  rw [z_su_0 (fun i hi => by rw [z_D_ct b (by omega) (by omega), Int32.mul_zero]), z_ct_w, Int32.zero_add] at q
  rw [← q]
  show _ = W (2 ^ n - 1) * 1
  rw [Int32.mul_one]
/-! the class's way -/
theorem z_mayF {s : ax_S} {S t : Nat} (hS : S < 4096) (ht : t < 12) : ∃ w, f_X5_mayFollow (nI t) (nI S) s = some w ∧ ((w = 1 ∧ z_may (s.1 31) S t) ∨ (w = 0 ∧ ¬ z_may (s.1 31) S t)) := by
  have htI : (nI t).toInt = (t : Int) := z_nI (by omega)
  have htc := nI_cl (k := t) (by omega)
  unfold f_X5_mayFollow
  rw [z_ai (Sd := cx_C) (a := 31) (n := 12) rfl (by omega) (by omega), Option.bind_some, htc]
  by_cases h1 : ax_iushr (nI S) (nI t) &&& 1 = 0
  · rw [if_pos h1]
    rw [z_pC _ (by omega), z_pb_nI' (by omega)] at h1
    by_cases h2 : s.1 31 t &&& (nI S ^^^ -1) = 0
    · rw [if_pos h2]
      rw [z_pN] at h2
      exact ⟨1, rfl, Or.inl ⟨rfl, h1, fun o ho hb => by rw [← z_pb_nI' ho]; exact h2 o ho hb⟩⟩
    · rw [if_neg h2]
      rw [z_pN] at h2
      exact ⟨0, rfl, Or.inr ⟨rfl, fun q => h2 (fun o ho hb => by rw [z_pb_nI' ho]; exact q.2 o ho hb)⟩⟩
  · rw [if_neg h1]
    rw [z_pC _ (by omega), z_pb_nI' (by omega)] at h1
    exact ⟨0, rfl, Or.inr ⟨rfl, fun q => h1 q.1⟩⟩
/-- one set's ways handed on -/
theorem nz_ways55 {s : ax_S} {n c : Nat} (hn : n ≤ 12) (h54 : s.1 5 4 = nI n) (hc : c < 2 ^ n) (l2 : Int32) :
    ∃ e, ax_lp (b_X5_waysFrom_55 l2 (nI c)) ((0 : Int32), s) = some e ∧ z_only 32 s e ∧ (∀ S, S ≤ c → e.1 32 S = s.1 32 S) ∧ ∀ M : Nat → Int32, z_su (fun i => e.1 32 (c + 1 + i) * M (c + 1 + i)) (2 ^ n - (c + 1)) = z_su (fun i => s.1 32 (c + 1 + i) * M (c + 1 + i)) (2 ^ n - (c + 1)) + s.1 32 c * z_su (fun t => @ite Int32 (z_may (s.1 31) c t) (Classical.propDecidable _) (M (c ||| 2 ^ t)) 0) n := by
  have h2n : 2 ^ n ≤ 4096 := (z_2le ⟨n, by omega⟩).2
  have hnI : (nI n).toInt = (n : Int) := z_nI (by omega)
  have hcI : (nI c).toInt = (c : Int) := z_nI (by omega)
  have hcc := nI_cl (k := c) (by omega)
  refine z_inv (f := b_X5_waysFrom_55 l2 (nI c)) (fun q => ∃ t, t ≤ n ∧ q.1 = nI t ∧ z_only 32 s q.2 ∧ (∀ S, S ≤ c → q.2.1 32 S = s.1 32 S) ∧ ∀ M : Nat → Int32, z_su (fun i => q.2.1 32 (c + 1 + i) * M (c + 1 + i)) (2 ^ n - (c + 1)) = z_su (fun i => s.1 32 (c + 1 + i) * M (c + 1 + i)) (2 ^ n - (c + 1)) + s.1 32 c * z_su (fun t => @ite Int32 (z_may (s.1 31) c t) (Classical.propDecidable _) (M (c ||| 2 ^ t)) 0) t)
    (fun e => z_only 32 s e ∧ (∀ S, S ≤ c → e.1 32 S = s.1 32 S) ∧ ∀ M : Nat → Int32, z_su (fun i => e.1 32 (c + 1 + i) * M (c + 1 + i)) (2 ^ n - (c + 1)) = z_su (fun i => s.1 32 (c + 1 + i) * M (c + 1 + i)) (2 ^ n - (c + 1)) + s.1 32 c * z_su (fun t => @ite Int32 (z_may (s.1 31) c t) (Classical.propDecidable _) (M (c ||| 2 ^ t)) 0) n) (fun q => n - q.1.toNatClampNeg) ?_
    (a := ((0 : Int32), s)) ⟨0, Nat.zero_le _, rfl, z_only_rf 32 s, fun _ _ => rfl, fun M => by
      show _ = _ + s.1 32 c * 0
      rw [Int32.mul_zero, Int32.add_zero]⟩
  rintro ⟨_, u⟩ ⟨t, ht, g1, g2, g3, g4⟩
  dsimp only at g1 g2 g3 g4
  subst g1
  have htI : (nI t).toInt = (t : Int) := z_nI (by omega)
  have htc := nI_cl (k := t) (by omega)
  have e54 : u.1 5 4 = nI n := by rw [g2.1 5 (by omega), h54]
  unfold b_X5_waysFrom_55
  dsimp only
  rw [e54]
  by_cases hl : nI n ≤ nI t
  · left
    rw [if_pos hl]
    rw [z_le, htI, hnI] at hl
    obtain rfl : t = n := by omega
    exact ⟨_, rfl, g2, g3, g4⟩
  right
  rw [if_neg hl]
  rw [z_le, htI, hnI] at hl
  have ms : n - (nI t + 1).toNatClampNeg < n - (nI t).toNatClampNeg := by
    rw [nI_s, nI_cl (by omega), htc]; omega
  obtain ⟨w, w1, w2⟩ := z_mayF (s := u) (S := c) (t := t) (by omega) (by omega)
  rw [w1, Option.bind_some]
  rw [g2.1 31 (by omega)] at w2
  rcases w2 with ⟨rfl, hm⟩ | ⟨rfl, hm⟩
  · have hlt := z_or_lt hc (show t < n by omega)
    have hgt := z_or_gt hm.1
    have hpI : (nI (c ||| 2 ^ t)).toInt = ((c ||| 2 ^ t : Nat) : Int) := z_nI (by omega)
    have hpc := nI_cl (k := c ||| 2 ^ t) (by omega)
    rw [if_neg pz_one, z_nIor c (by omega), z_ai (Sd := cx_C) (i := nI (c ||| 2 ^ t)) (n := 4096) rfl (by omega) (by omega), Option.bind_some, z_ai (Sd := cx_C) (i := nI c) (n := 4096) rfl (by omega) (by omega), Option.bind_some, z_si (Sd := cx_C) (n := 4096) rfl (by omega) (by omega), Option.bind_some, hpc, hcc]
    refine ⟨_, rfl, ⟨t + 1, by omega, nI_s t, z_only_tr g2 (z_only_ui 32 _ _ _), ?_, ?_⟩, by first | exact ms | (rw [htc] at ms; exact ms)⟩
    · intro S hS
      rw [z_ui, if_neg (fun q => by omega)]
      exact g3 S hS
    · intro M
      have hs : z_su (fun t => @ite Int32 (z_may (s.1 31) c t) (Classical.propDecidable _) (M (c ||| 2 ^ t)) 0) (t + 1) = z_su (fun t => @ite Int32 (z_may (s.1 31) c t) (Classical.propDecidable _) (M (c ||| 2 ^ t)) 0) t + M (c ||| 2 ^ t) := by
        show _ + @ite Int32 (z_may (s.1 31) c t) (Classical.propDecidable _) (M (c ||| 2 ^ t)) 0 = _
        rw [if_pos hm]
      rw [hs, Int32.mul_add, ← Int32.add_assoc, ← g4 M]
      refine z_su_pt (p := (c ||| 2 ^ t) - (c + 1)) (by omega) ?_ ?_
      · intro i hi hne
        rw [z_ui, if_neg (fun q => by omega)]
      · rw [show c + 1 + ((c ||| 2 ^ t) - (c + 1)) = c ||| 2 ^ t by omega, z_ui, if_pos ⟨rfl, rfl⟩, Int32.add_mul, g3 c (Nat.le_refl c)]
  · rw [if_pos rfl]
    refine ⟨_, rfl, ⟨t + 1, by omega, nI_s t, g2, g3, ?_⟩, by first | exact ms | (rw [htc] at ms; exact ms)⟩
    intro M
    have hs : z_su (fun t => @ite Int32 (z_may (s.1 31) c t) (Classical.propDecidable _) (M (c ||| 2 ^ t)) 0) (t + 1) = z_su (fun t => @ite Int32 (z_may (s.1 31) c t) (Classical.propDecidable _) (M (c ||| 2 ^ t)) 0) t := by
      show _ + @ite Int32 (z_may (s.1 31) c t) (Classical.propDecidable _) (M (c ||| 2 ^ t)) 0 = _
      rw [if_neg hm, Int32.add_zero]
    rw [hs]
    exact g4 M
theorem nz_waysFrom {s : ax_S} {n st : Nat} (hn : n ≤ 12) (h54 : s.1 5 4 = nI n) (hst : st < 2 ^ n) : ∃ e, f_X5_waysFrom (nI st) s = some (nI (z_ct (s.1 31) n st), e) ∧ z_only 32 s e ∧ z_fw (s.1 31) n st (e.1 32) (2 ^ n - 1) := by
  have h2 := z_2le ⟨n, by omega⟩
  have h2a : 1 ≤ 2 ^ n := h2.1
  have h2n : 2 ^ n ≤ 4096 := h2.2
  have hw : ((1 : Int32) <<< ((s.1 5 4) &&& 31)) - (1 : Int32) = nI (2 ^ n - 1) := by
    rw [h54, z_2n ⟨n, by omega⟩]
    show nI (2 ^ n) - 1 = _
    have := nI_pred (2 ^ n - 1)
    rw [show 2 ^ n - 1 + 1 = 2 ^ n by omega] at this
    exact this
  have hwI : (nI (2 ^ n - 1)).toInt = ((2 ^ n - 1 : Nat) : Int) := z_nI (by omega)
  have hsI : (nI st).toInt = (st : Int) := z_nI (by omega)
  have hsc := nI_cl (k := st) (by omega)
  -- emptied
  obtain ⟨e0, a1, a2, a3⟩ := z_inv (f := b_X5_waysFrom_11 (nI st) (nI (2 ^ n - 1))) (fun q => ∃ c, st ≤ c ∧ c ≤ 2 ^ n ∧ q.1 = nI c ∧ z_only 32 s q.2 ∧ ∀ S, st ≤ S → S < c → q.2.1 32 S = 0)
    (fun e => z_only 32 s e ∧ ∀ S, st ≤ S → S < 2 ^ n → e.1 32 S = 0) (fun q => 2 ^ n - q.1.toNatClampNeg) (by
    rintro ⟨_, u⟩ ⟨c, hc0, hc1, g1, g2, g3⟩
    dsimp only at g1 g2 g3
    subst g1
    have hcI : (nI c).toInt = (c : Int) := z_nI (by omega)
    have hcc := nI_cl (k := c) (by omega)
    unfold b_X5_waysFrom_11
    dsimp only
    by_cases hl : nI (2 ^ n - 1) < nI c
    · left
      rw [if_pos hl]
      rw [z_lt, hcI, hwI] at hl
      obtain rfl : c = 2 ^ n := by omega
      exact ⟨_, rfl, g2, g3⟩
    right
    rw [if_neg hl]
    rw [z_lt, hcI, hwI] at hl
    have ms : 2 ^ n - (nI c + 1).toNatClampNeg < 2 ^ n - (nI c).toNatClampNeg := by
      rw [nI_s, nI_cl (by omega), hcc]; omega
    rw [z_si (Sd := cx_C) (n := 4096) rfl (by omega) (by omega), Option.bind_some, hcc]
    refine ⟨_, rfl, ⟨c + 1, by omega, by omega, nI_s c, z_only_tr g2 (z_only_ui 32 _ _ _), ?_⟩, by first | exact ms | (rw [hcc] at ms; exact ms)⟩
    intro S h1 h2
    rw [z_ui]
    by_cases q : S = c
    · rw [if_pos ⟨rfl, q⟩]
    · rw [if_neg (fun z => q z.2)]
      exact g3 S h1 (by omega))
    (a := (nI st, s)) ⟨st, Nat.le_refl st, by omega, rfl, z_only_rf 32 s, fun S h1 h2 => by omega⟩
  -- handed on
  have b0 : (ax_ui e0 32 st 1).1 31 = s.1 31 := by rw [(z_only_ui 32 st 1 e0).1 31 (by omega), a2.1 31 (by omega)]
  have hfw0 : z_fw (s.1 31) n st ((ax_ui e0 32 st 1).1 32) st := by
    refine z_fw_0 hst ?_ ?_
    · rw [z_ui, if_pos ⟨rfl, rfl⟩]
    · intro S h1 h2
      rw [z_ui, if_neg (fun z => by omega)]
      exact a3 S (by omega) h2
  obtain ⟨e1, c1, c2, c3⟩ := z_inv (f := b_X5_waysFrom_38 (nI (2 ^ n - 1))) (fun q => ∃ c, st ≤ c ∧ c ≤ 2 ^ n - 1 ∧ q.1 = nI c ∧ z_only 32 s q.2 ∧ z_fw (s.1 31) n st (q.2.1 32) c)
    (fun e => z_only 32 s e ∧ z_fw (s.1 31) n st (e.1 32) (2 ^ n - 1)) (fun q => 2 ^ n - q.1.toNatClampNeg) (by
    rintro ⟨_, u⟩ ⟨c, hc0, hc1, g1, g2, g3⟩
    dsimp only at g1 g2 g3
    subst g1
    have hcI : (nI c).toInt = (c : Int) := z_nI (by omega)
    have hcc := nI_cl (k := c) (by omega)
    unfold b_X5_waysFrom_38
    dsimp only
    by_cases hl : nI (2 ^ n - 1) ≤ nI c
    · left
      rw [if_pos hl]
      rw [z_le, hcI, hwI] at hl
      obtain rfl : c = 2 ^ n - 1 := by omega
      exact ⟨_, rfl, g2, g3⟩
    right
    rw [if_neg hl]
    rw [z_le, hcI, hwI] at hl
    have ms : 2 ^ n - (nI c + 1).toNatClampNeg < 2 ^ n - (nI c).toNatClampNeg := by
      rw [nI_s, nI_cl (by omega), hcc]; omega
    rw [z_ai (Sd := cx_C) (n := 4096) rfl (by omega) (by omega), Option.bind_some, hcc]
    by_cases h0 : u.1 32 c = 0
    · rw [if_pos h0]
      refine ⟨_, rfl, ⟨c + 1, by omega, by omega, nI_s c, g2, z_fw_s hc0 (by omega) g3 (fun _ _ => rfl) ?_⟩, by first | exact ms | (rw [hcc] at ms; exact ms)⟩
      intro M
      rw [h0, Int32.zero_mul, Int32.add_zero]
    · rw [if_neg h0]
      obtain ⟨e, k1, k2, k3, k4⟩ := nz_ways55 (s := u) hn (by rw [g2.1 5 (by omega), h54]) (c := c) (by omega) (nI (2 ^ n - 1))
      rw [k1, Option.bind_some]
      rw [g2.1 31 (by omega)] at k4
      exact ⟨_, rfl, ⟨c + 1, by omega, by omega, nI_s c, z_only_tr g2 k2, z_fw_s hc0 (by omega) g3 k3 k4⟩, by first | exact ms | (rw [hcc] at ms; exact ms)⟩)
    (a := (nI st, ax_ui e0 32 st 1)) ⟨st, Nat.le_refl st, by omega, rfl, z_only_tr a2 (z_only_ui 32 _ _ _), hfw0⟩
  refine ⟨e1, ?_, c2, c3⟩
  unfold f_X5_waysFrom
  rw [hw, a1, Option.bind_some, z_si (Sd := cx_C) (n := 4096) rfl (by omega) (by omega), Option.bind_some, hsc, c1, Option.bind_some, z_ai (Sd := cx_C) (n := 4096) rfl (by omega) (by omega), Option.bind_some, nI_cl (by omega), z_fw_ct hst c3]
/-! the reference's way -/
theorem nz_ord34 {s : ax_S} {n c : Nat} (hn : n ≤ 12) (h01 : s.1 0 1 = nI n) (hc : c < 2 ^ n) (hw : c ≠ 2 ^ n - 1) (h0 : s.2 20 c = 0) (hS : ∀ S, c < S → S < 2 ^ n → s.2 20 S = lN (z_ct (s.1 19) n S)) (l1 : Int32) :
    ∃ e, ax_lp (b_X10_ordersBut_34 l1 (nI c)) ((0 : Int32), s) = some e ∧ e.1 = s.1 ∧ e.2 20 c = lN (z_ct (s.1 19) n c) ∧ ∀ S, S ≠ c → e.2 20 S = s.2 20 S := by
  have h2n : 2 ^ n ≤ 4096 := (z_2le ⟨n, by omega⟩).2
  have hnI : (nI n).toInt = (n : Int) := z_nI (by omega)
  have hcI : (nI c).toInt = (c : Int) := z_nI (by omega)
  have hcc := nI_cl (k := c) (by omega)
  rw [z_ct_s (s.1 19) hc hw]
  refine z_inv (f := b_X10_ordersBut_34 l1 (nI c)) (fun q => ∃ t, t ≤ n ∧ q.1 = nI t ∧ q.2.1 = s.1 ∧ q.2.2 20 c = lN (z_ns (fun t => @ite Nat (z_may (s.1 19) c t) (Classical.propDecidable _) (z_ct (s.1 19) n (c ||| 2 ^ t)) 0) t) ∧ ∀ S, S ≠ c → q.2.2 20 S = s.2 20 S)
    (fun e => e.1 = s.1 ∧ e.2 20 c = lN (z_ns (fun t => @ite Nat (z_may (s.1 19) c t) (Classical.propDecidable _) (z_ct (s.1 19) n (c ||| 2 ^ t)) 0) n) ∧ ∀ S, S ≠ c → e.2 20 S = s.2 20 S) (fun q => n - q.1.toNatClampNeg) ?_
    (a := ((0 : Int32), s)) ⟨0, Nat.zero_le _, rfl, rfl, by rw [h0]; rfl, fun _ _ => rfl⟩
  rintro ⟨_, u⟩ ⟨t, ht, g1, g2, g3, g4⟩
  dsimp only at g1 g2 g3 g4
  subst g1
  have htI : (nI t).toInt = (t : Int) := z_nI (by omega)
  have htc := nI_cl (k := t) (by omega)
  unfold b_X10_ordersBut_34
  dsimp only
  rw [show u.1 0 1 = nI n by rw [g2, h01]]
  by_cases hl : nI n ≤ nI t
  · left
    rw [if_pos hl]
    rw [z_le, htI, hnI] at hl
    obtain rfl : t = n := by omega
    exact ⟨_, rfl, g2, g3, g4⟩
  right
  rw [if_neg hl]
  rw [z_le, htI, hnI] at hl
  have ms : n - (nI t + 1).toNatClampNeg < n - (nI t).toNatClampNeg := by
    rw [nI_s, nI_cl (by omega), htc]; omega
  have no : ¬ z_may (s.1 19) c t → ∃ t' : Nat, t' ≤ n ∧ nI t + 1 = nI t' ∧ u.1 = s.1 ∧ u.2 20 c = lN (z_ns (fun t => @ite Nat (z_may (s.1 19) c t) (Classical.propDecidable _) (z_ct (s.1 19) n (c ||| 2 ^ t)) 0) t') ∧ ∀ S, S ≠ c → u.2 20 S = s.2 20 S := by
    intro q
    refine ⟨t + 1, by omega, nI_s t, g2, ?_, g4⟩
    show _ = lN (_ + @ite Nat (z_may (s.1 19) c t) (Classical.propDecidable _) (z_ct (s.1 19) n (c ||| 2 ^ t)) 0)
    rw [if_neg q, Nat.add_zero, g3]
  by_cases h1 : (nI c >>> (nI t &&& 31)) &&& 1 = 0
  case neg =>
    rw [if_neg h1]
    rw [z_pR0 _ (by omega), z_pb_nI' (by omega)] at h1
    exact ⟨_, rfl, no (fun q => h1 q.1), by first | exact ms | (rw [htc] at ms; exact ms)⟩
  rw [if_pos h1, z_ai (Sd := cx_R) (a := 19) (n := 12) rfl (by omega) (by omega), Option.bind_some, htc, g2]
  rw [z_pR0 _ (by omega), z_pb_nI' (by omega)] at h1
  by_cases h2 : s.1 19 t &&& (nI c ^^^ -1) = 0
  case neg =>
    rw [if_neg h2]
    rw [z_pN] at h2
    exact ⟨_, rfl, no (fun q => h2 (fun o ho hb => by rw [z_pb_nI' ho]; exact q.2 o ho hb)), by first | exact ms | (rw [htc] at ms; exact ms)⟩
  rw [if_pos h2]
  rw [z_pN] at h2
  have hm : z_may (s.1 19) c t := ⟨h1, fun o ho hb => by rw [← z_pb_nI' ho]; exact h2 o ho hb⟩
  have hlt := z_or_lt hc (show t < n by omega)
  have hgt := z_or_gt hm.1
  have hpI : (nI (c ||| 2 ^ t)).toInt = ((c ||| 2 ^ t : Nat) : Int) := z_nI (by omega)
  have hpc := nI_cl (k := c ||| 2 ^ t) (by omega)
  rw [z_nIor c (by omega), z_al (Sd := cx_R) (i := nI c) (n := 4096) rfl (by omega) (by omega), Option.bind_some, z_al (Sd := cx_R) (i := nI (c ||| 2 ^ t)) (n := 4096) rfl (by omega) (by omega), Option.bind_some, z_sl (Sd := cx_R) (n := 4096) rfl (by omega) (by omega), Option.bind_some, hpc, hcc, g3, g4 _ (by omega), hS _ hgt hlt, lN_add]
  refine ⟨_, rfl, ⟨t + 1, by omega, nI_s t, g2, ?_, ?_⟩, by first | exact ms | (rw [htc] at ms; exact ms)⟩
  · show (if 20 = 20 ∧ c = c then _ else _) = lN (_ + @ite Nat (z_may (s.1 19) c t) (Classical.propDecidable _) (z_ct (s.1 19) n (c ||| 2 ^ t)) 0)
    rw [if_pos ⟨rfl, rfl⟩, if_pos hm]
  · intro S hS'
    show (if 20 = 20 ∧ S = c then _ else u.2 20 S) = _
    rw [if_neg (fun z => hS' z.2)]
    exact g4 S hS'
theorem nz_ordersBut {s : ax_S} {n st : Nat} (hn : n ≤ 12) (h01 : s.1 0 1 = nI n) (hst : st < 2 ^ n) : ∃ e, f_X10_ordersBut (nI st) s = some (lN (z_ct (s.1 19) n st), e) ∧ e.1 = s.1 := by
  have h2 := z_2le ⟨n, by omega⟩
  have h2a : 1 ≤ 2 ^ n := h2.1
  have h2n : 2 ^ n ≤ 4096 := h2.2
  have hw : ((1 : Int32) <<< ((s.1 0 1) &&& 31)) - (1 : Int32) = nI (2 ^ n - 1) := by
    rw [h01, z_2n ⟨n, by omega⟩]
    show nI (2 ^ n) - 1 = _
    have := nI_pred (2 ^ n - 1)
    rw [show 2 ^ n - 1 + 1 = 2 ^ n by omega] at this
    exact this
  have hwI : (nI (2 ^ n - 1)).toInt = ((2 ^ n - 1 : Nat) : Int) := z_nI (by omega)
  have hsI : (nI st).toInt = (st : Int) := z_nI (by omega)
  have e0 : (0 : Int32).toInt = 0 := by decide
  obtain ⟨v0, hv0⟩ : ∃ v : Int32, v = nI (2 ^ n - 1) - 1 := ⟨_, rfl⟩
  have hv0I : v0.toInt = ((2 ^ n - 1 : Nat) : Int) - 1 := by
    rw [hv0, z_sub (by rw [show (1 : Int32).toInt = 1 from by decide]; omega) (by rw [show (1 : Int32).toInt = 1 from by decide]; omega), hwI]
    rfl
  have key := z_inv (f := b_X10_ordersBut_20 (nI st)) (fun q => ∃ c : Nat, c ≤ 2 ^ n - 1 ∧ q.1.toInt = (c : Int) - 1 ∧ q.2.1 = s.1 ∧ ∀ S, c ≤ S → S < 2 ^ n → q.2.2 20 S = lN (z_ct (s.1 19) n S))
    (fun e => e.1 = s.1 ∧ ∀ S, S < 2 ^ n → e.2 20 S = lN (z_ct (s.1 19) n S)) (fun q => (q.1.toInt + 1).toNat) (by
    rintro ⟨v, u⟩ ⟨c, hc, g1, g2, g3⟩
    dsimp only at g1 g2 g3
    unfold b_X10_ordersBut_20
    dsimp only
    by_cases hl : v < 0
    · left
      rw [if_pos hl]
      rw [z_lt, e0] at hl
      obtain rfl : c = 0 := by omega
      exact ⟨_, rfl, g2, fun S h => g3 S (Nat.zero_le S) h⟩
    right
    rw [if_neg hl]
    rw [z_lt, e0] at hl
    obtain ⟨d, rfl⟩ : ∃ d, c = d + 1 := ⟨c - 1, by omega⟩
    have hdI : (nI d).toInt = (d : Int) := z_nI (by omega)
    have hdc := nI_cl (k := d) (by omega)
    have hvd : v = nI d := by rw [z_eq]; omega
    have hm0 : (v + -1).toInt = v.toInt - 1 := by
      rw [z_add (by rw [show (-1 : Int32).toInt = -1 from by decide]; omega) (by rw [show (-1 : Int32).toInt = -1 from by decide]; omega)]
      rfl
    obtain ⟨v', hv'⟩ : ∃ v', v' = v + -1 := ⟨_, rfl⟩
    rw [← hv'] at hm0 ⊢
    subst hvd
    rw [z_sl (Sd := cx_R) (n := 4096) rfl (by omega) (by omega), Option.bind_some, hdc]
    obtain ⟨e, k1, k2, k3, k4⟩ := nz_ord34 (s := ax_ul u 20 d 0) (n := n) (c := d) hn (by rw [z_ul1, g2, h01]) (by omega) (by omega) (by
      show (if 20 = 20 ∧ d = d then (0 : Int64) else _) = 0
      rw [if_pos ⟨rfl, rfl⟩]) (by
      intro S h1 h2
      show (if 20 = 20 ∧ S = d then (0 : Int64) else u.2 20 S) = lN (z_ct (u.1 19) n S)
      rw [if_neg (fun z => by omega), g3 S (by omega) h2, g2]) (nI st)
    rw [k1, Option.bind_some]
    refine ⟨_, rfl, ⟨d, by omega, by dsimp only; omega, ?_, ?_⟩, by dsimp only; omega⟩
    · show e.1 = s.1
      rw [k2, z_ul1, g2]
    · intro S h1 h2
      show e.2 20 S = _
      by_cases q : S = d
      · subst q
        rw [k3, z_ul1, g2]
      · rw [k4 S q]
        show (if 20 = 20 ∧ S = d then (0 : Int64) else u.2 20 S) = _
        rw [if_neg (fun z => q z.2)]
        exact g3 S (by omega) h2)
    (a := (v0, ax_ul s 20 (2 ^ n - 1) 1)) ⟨2 ^ n - 1, Nat.le_refl _, hv0I, rfl, by
      intro S h1 h2
      obtain rfl : S = 2 ^ n - 1 := by omega
      show (if 20 = 20 ∧ 2 ^ n - 1 = 2 ^ n - 1 then (1 : Int64) else _) = _
      rw [if_pos ⟨rfl, rfl⟩, z_ct_w]
      rfl⟩
  obtain ⟨e, k1, k2, k3⟩ := key
  refine ⟨e, ?_, k2⟩
  unfold f_X10_ordersBut
  rw [hw, z_sl (Sd := cx_R) (n := 4096) rfl (by omega) (by omega), Option.bind_some, nI_cl (by omega), ← hv0, k1, Option.bind_some, z_al (Sd := cx_R) (n := 4096) rfl (by omega) (by omega), Option.bind_some, nI_cl (by omega), k3 st hst]

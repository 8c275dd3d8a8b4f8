/-! led: the reference -/
def nz_o3 (y s : ax_S) : Prop := ∀ k, k ≠ 11 → k ≠ 12 → k ≠ 13 → s.1 k = y.1 k
def nz_enc (y s : ax_S) (f : Nat → Int) (c : Int) : Prop := ∀ m, m < 18 → nz_E y (1 + m) → f m = 10000 * ((s.1 12 (1 + m)).toInt - 1000000) + (s.1 13 (1 + m)).toInt ∧ (-200000 ≤ (s.1 12 (1 + m)).toInt ∧ (s.1 12 (1 + m)).toInt ≤ 200000) ∧ 0 ≤ (s.1 13 (1 + m)).toInt ∧ (s.1 13 (1 + m)).toInt ≤ c
theorem nz_nears {y s : ax_S} {f : Nat → Int} {c : Int} (henc : nz_enc y s f c) (hc : c ≤ 5000) {a b : Nat} (ha : a < 18) (hb : b < 18) (hEa : nz_E y (1 + a)) (hEb : nz_E y (1 + b)) {p v st : Int32} (hp : p.toInt = ((1 + a : Nat) : Int)) {w : Int} (hv : v.toInt = (s.1 12 (1 + b)).toInt + w) (hst : st.toInt = (s.1 13 (1 + b)).toInt + 1) (hlow : -12000000000 ≤ nz_rl f (b, a, 10000 * w + 1) a) :
    ∃ fl t, f_X10_nears p v st s = some (fl, t) ∧ nz_enc y t (nz_rl f (b, a, 10000 * w + 1)) (c + 1) ∧ (∀ k, k ≠ 12 → k ≠ 13 → t.1 k = s.1 k) ∧ ((fl = 0 ∧ nz_rl f (b, a, 10000 * w + 1) = f) ∨ (fl = 1 ∧ nz_rl f (b, a, 10000 * w + 1) ≠ f)) := by
  obtain ⟨fa, ra, sa0, sa1⟩ := henc a ha hEa
  obtain ⟨fb, rb, sb0, sb1⟩ := henc b hb hEb
  have cp := z_cl (a := p) (by omega)
  have hpc : p.toNatClampNeg = 1 + a := by omega
  have hU : nz_U = 1000000000 := rfl
  have hfU : f b ≠ nz_U := by omega
  have i12 : ax_ai cx_R s 12 p = some (s.1 12 (1 + a)) := by rw [z_ai (n := 19) rfl (by omega) (by omega), hpc]
  have i13 : ax_ai cx_R s 13 p = some (s.1 13 (1 + a)) := by rw [z_ai (n := 19) rfl (by omega) (by omega), hpc]
  by_cases hlt : f b + (10000 * w + 1) < f a
  · have hrl : nz_rl f (b, a, 10000 * w + 1) = fun m => if m = a then f b + (10000 * w + 1) else f m := by
      unfold nz_rl
      rw [if_pos ⟨hfU, hlt⟩]
    have hne : nz_rl f (b, a, 10000 * w + 1) ≠ f := by
      intro q
      have := congrFun q a
      rw [hrl] at this
      simp at this
      omega
    rw [hrl] at hlow hne ⊢
    simp only [if_true] at hlow
    refine ⟨1, ax_ui (ax_ui s 12 (1 + a) v) 13 (1 + a) st, ?_, ?_, ?_, Or.inr ⟨rfl, hne⟩⟩
    · have hj : j_X10_nears_30 p v st s = some ((1 : Int32), ax_ui (ax_ui s 12 (1 + a) v) 13 (1 + a) st) := by
        unfold j_X10_nears_30
        rw [z_si (n := 19) rfl (by omega) (by omega), Option.bind_some, z_si (n := 19) rfl (by omega) (by omega), Option.bind_some, hpc]
      unfold f_X10_nears
      rw [i12, Option.bind_some, hj]
      by_cases c1 : v < s.1 12 (1 + a)
      · rw [if_pos c1]
      · rw [if_neg c1, Option.bind_some]
        rw [z_lt] at c1
        rw [if_pos (by rw [z_eq]; omega), i13, Option.bind_some, if_neg (by rw [z_le]; omega)]
    · intro m hm hE
      by_cases hma : m = a
      · subst hma
        simp only [z_ui]
        simp
        omega
      · obtain ⟨q1, q2, q3, q4⟩ := henc m hm hE
        have h1 : ¬ (1 + m = 1 + a) := by omega
        simp only [z_ui]
        simp [h1, hma]
        omega
    · intro k h1 h2
      funext j
      simp only [z_ui]
      simp [h1, h2]
  · have hrl : nz_rl f (b, a, 10000 * w + 1) = f := by
      unfold nz_rl
      rw [if_neg (fun q => hlt q.2)]
    rw [hrl]
    refine ⟨0, s, ?_, ?_, fun _ _ _ => rfl, Or.inl ⟨rfl, rfl⟩⟩
    · unfold f_X10_nears
      rw [i12, Option.bind_some, Option.bind_some, if_neg (by rw [z_lt]; omega)]
      by_cases c2 : v = s.1 12 (1 + a)
      · rw [if_pos c2, i13, Option.bind_some]
        rw [z_eq] at c2
        rw [if_pos (by rw [z_le]; omega)]
      · rw [if_neg c2]
    · intro m hm hE
      obtain ⟨q1, q2, q3, q4⟩ := henc m hm hE
      exact ⟨q1, q2, q3, by omega⟩
theorem nz_sw_ne {G : Nat → Nat × Nat × Int} {f : Nat → Int} {j k : Nat} (h : j ≤ k) (hne : nz_sw G f j ≠ f) : nz_sw G f k ≠ f := by
  intro q
  apply hne
  funext m
  have a := nz_sw_step G f h m
  have b := nz_sw_step G f (Nat.zero_le j) m
  have c : nz_sw G f 0 m = f m := rfl
  rw [q] at a
  omega
theorem nz_leansCg {s y : ax_S} (h4 : s.1 4 = y.1 4) (h6 : s.1 6 = y.1 6) (p : Int32) : f_X10_leansOn p s = f_X10_leansOn p y := by
  unfold f_X10_leansOn ax_ai
  rw [h4, h6]
/-- one row, both ways -/
theorem nz_ledRow {y s : ax_S} {G : Nat → Nat × Nat × Int} {f : Nat → Int} {c : Int} {r a b : Nat} (henc : nz_enc y s (nz_sw G f (2 * r)) c) (hc : c ≤ 4990) (ha : a < 18) (hb : b < 18) (hEa : nz_E y (1 + a)) (hEb : nz_E y (1 + b)) {pa pb : Int32} (hpa : pa.toInt = ((1 + a : Nat) : Int)) (hpb : pb.toInt = ((1 + b : Nat) : Int)) {w w' : Int32} (hw : -200000 ≤ w.toInt ∧ w.toInt ≤ 200000) (hw' : -200000 ≤ w'.toInt ∧ w'.toInt ≤ 200000)
    (g0 : G (2 * r) = (b, a, 10000 * w.toInt + 1)) (g1 : G (2 * r + 1) = (a, b, 10000 * w'.toInt + 1)) (hlow : ∀ k, k ≤ 2 * r + 2 → ∀ m, m < 18 → -12000000000 ≤ nz_sw G f k m) (l1 l2 : Int32) (l3 : Int64) {mo : Int32} (hmo : (mo = 0 ∧ nz_sw G f (2 * r) = f) ∨ (mo = 1 ∧ nz_sw G f (2 * r) ≠ f)) :
    ∃ fl t, j_X10_led_159_246 l1 l2 l3 mo (nI r) pa pb w w' s = some (.inl (fl, nI r + 1, t)) ∧ nz_enc y t (nz_sw G f (2 * (r + 1))) (c + 2) ∧ (∀ k, k ≠ 12 → k ≠ 13 → t.1 k = s.1 k) ∧ ((fl = 0 ∧ nz_sw G f (2 * (r + 1)) = f) ∨ (fl = 1 ∧ nz_sw G f (2 * (r + 1)) ≠ f)) := by
  have cpa := z_cl (a := pa) (by omega)
  have cpb := z_cl (a := pb) (by omega)
  have hpac : pa.toNatClampNeg = 1 + a := by omega
  have hpbc : pb.toNatClampNeg = 1 + b := by omega
  have e1 : (1 : Int32).toInt = 1 := by decide
  obtain ⟨fb, rb, sb0, sb1⟩ := henc b hb hEb
  have sw1 : nz_sw G f (2 * r + 1) = nz_rl (nz_sw G f (2 * r)) (b, a, 10000 * w.toInt + 1) := by rw [← g0]; rfl
  have low1 := hlow (2 * r + 1) (by omega) a ha
  rw [sw1] at low1
  obtain ⟨f1, t1, k1, k2, k3, k4⟩ := nz_nears (v := s.1 12 (1 + b) + w) (st := s.1 13 (1 + b) + 1) henc (by omega) ha hb hEa hEb hpa (w := w.toInt) (z_add (by omega) (by omega)) (by rw [z_add (by omega) (by omega), e1]) low1
  rw [← sw1] at k2 k4
  obtain ⟨fa, ra, sa0, sa1⟩ := k2 a ha hEa
  have sw2 : nz_sw G f (2 * r + 2) = nz_rl (nz_sw G f (2 * r + 1)) (a, b, 10000 * w'.toInt + 1) := by rw [← g1]; rfl
  have low2 := hlow (2 * r + 2) (by omega) b hb
  rw [sw2] at low2
  obtain ⟨f2, t2, m1, m2, m3, m4⟩ := nz_nears (v := t1.1 12 (1 + a) + w') (st := t1.1 13 (1 + a) + 1) k2 (by omega) hb ha hEb hEa hpb (w := w'.toInt) (z_add (by omega) (by omega)) (by rw [z_add (by omega) (by omega), e1]) low2
  rw [← sw2] at m2 m4
  have i1 : ax_ai cx_R s 12 pb = some (s.1 12 (1 + b)) := by rw [z_ai (n := 19) rfl (by omega) (by omega), hpbc]
  have i2 : ax_ai cx_R s 13 pb = some (s.1 13 (1 + b)) := by rw [z_ai (n := 19) rfl (by omega) (by omega), hpbc]
  have i3 : ax_ai cx_R t1 12 pa = some (t1.1 12 (1 + a)) := by rw [z_ai (n := 19) rfl (by omega) (by omega), hpac]
  have i4 : ax_ai cx_R t1 13 pa = some (t1.1 13 (1 + a)) := by rw [z_ai (n := 19) rfl (by omega) (by omega), hpac]
  have hj : ∀ q : Option ((Int32 × Int32 × ax_S) ⊕ (Int32 × ax_S)), (if mo = 0 then (if f1 = 0 then (if f2 = 0 then some (.inl ((0 : Int32), nI r + 1, t2)) else some (.inl ((1 : Int32), nI r + 1, t2))) else some (.inl ((1 : Int32), nI r + 1, t2))) else some (.inl ((1 : Int32), nI r + 1, t2))) = q → j_X10_led_159_246 l1 l2 l3 mo (nI r) pa pb w w' s = q := by
    intro q hq
    unfold j_X10_led_159_246
    rw [i1, Option.bind_some, i2, Option.bind_some, k1, Option.bind_some]
    dsimp only
    rw [i3, Option.bind_some, i4, Option.bind_some, m1, Option.bind_some]
    exact hq
  have hfr : ∀ k, k ≠ 12 → k ≠ 13 → t2.1 k = s.1 k := fun k h1 h2 => (m3 k h1 h2).trans (k3 k h1 h2)
  have henc2 : nz_enc y t2 (nz_sw G f (2 * (r + 1))) (c + 2) := by
    rw [show 2 * (r + 1) = 2 * r + 2 by omega, show c + 2 = c + 1 + 1 by omega]; exact m2
  rw [show 2 * (r + 1) = 2 * r + 2 by omega] at henc2 ⊢
  have one : ¬ ((1 : Int32) = 0) := by decide
  rcases hmo with ⟨q1, q2⟩ | ⟨q1, q2⟩
  · rcases k4 with ⟨p1, p2⟩ | ⟨p1, p2⟩
    · rcases m4 with ⟨u1, u2⟩ | ⟨u1, u2⟩
      · exact ⟨0, t2, hj _ (by rw [if_pos q1, if_pos p1, if_pos u1]), henc2, hfr, Or.inl ⟨rfl, by rw [u2, p2, q2]⟩⟩
      · exact ⟨1, t2, hj _ (by rw [if_pos q1, if_pos p1, u1, if_neg one]), henc2, hfr, Or.inr ⟨rfl, by rw [p2, q2] at u2; exact u2⟩⟩
    · exact ⟨1, t2, hj _ (by rw [if_pos q1, p1, if_neg one]), henc2, hfr, Or.inr ⟨rfl, nz_sw_ne (j := 2 * r + 1) (by omega) (by rw [q2] at p2; exact p2)⟩⟩
  · exact ⟨1, t2, hj _ (by rw [q1, if_neg one]), henc2, hfr, Or.inr ⟨rfl, nz_sw_ne (j := 2 * r) (by omega) q2⟩⟩
theorem nz_ledSweep {y : ax_S} (hnu : pz_nu y) (hrw : pz_rw y) {B : Int64} {up p1 : Int32} (hup : up = 0 ∨ up = 1) {s : ax_S} (ho : nz_o3 y s) {f : Nat → Int} {c : Int} (hc : 0 ≤ c ∧ c ≤ 4900) (henc : nz_enc y s f c) (hlow : ∀ k, k ≤ 2 * (y.1 0 6).toNatClampNeg → ∀ m, m < 18 → -12000000000 ≤ nz_sw (nz_en (nz_raw y B up)) f k m) :
    ∃ fl t, ax_lp (b_X10_led_159 p1 up B) ((0 : Int32), (0 : Int32), s) = some (fl, t) ∧ nz_o3 y t ∧ nz_enc y t (nz_sw (nz_en (nz_raw y B up)) f (2 * (y.1 0 6).toNatClampNeg)) (c + 80) ∧ ((fl = 0 ∧ nz_sw (nz_en (nz_raw y B up)) f (2 * (y.1 0 6).toNatClampNeg) = f) ∨ (fl = 1 ∧ nz_sw (nz_en (nz_raw y B up)) f (2 * (y.1 0 6).toNatClampNeg) ≠ f)) := by
  have hnu' := hnu
  obtain ⟨n1, n2, n3, n4, n5, n6, n7, n8, n9, n10, n11, n12⟩ := hnu
  have c6 := z_cl n9
  have key := z_inv (f := b_X10_led_159 p1 up B) (fun a => ∃ r, r ≤ (y.1 0 6).toNatClampNeg ∧ a.2.1 = nI r ∧ nz_o3 y a.2.2 ∧ nz_enc y a.2.2 (nz_sw (nz_en (nz_raw y B up)) f (2 * r)) (c + 2 * (r : Int)) ∧ ((a.1 = 0 ∧ nz_sw (nz_en (nz_raw y B up)) f (2 * r) = f) ∨ (a.1 = 1 ∧ nz_sw (nz_en (nz_raw y B up)) f (2 * r) ≠ f)))
    (fun e => nz_o3 y e.2 ∧ nz_enc y e.2 (nz_sw (nz_en (nz_raw y B up)) f (2 * (y.1 0 6).toNatClampNeg)) (c + 80) ∧ ((e.1 = 0 ∧ nz_sw (nz_en (nz_raw y B up)) f (2 * (y.1 0 6).toNatClampNeg) = f) ∨ (e.1 = 1 ∧ nz_sw (nz_en (nz_raw y B up)) f (2 * (y.1 0 6).toNatClampNeg) ≠ f)))
    (fun a => (y.1 0 6).toNatClampNeg - a.2.1.toNatClampNeg) (by
    rintro ⟨mo, _, u⟩ ⟨r, hr, g1, g2, g3, g4⟩
    dsimp only at g1 g2 g3 g4
    subst g1
    have hrI : (nI r).toInt = (r : Int) := z_nI (by omega)
    have hrc := nI_cl (k := r) (by omega)
    have e06 : u.1 0 6 = y.1 0 6 := by rw [g2 0 (by omega) (by omega) (by omega)]
    unfold b_X10_led_159
    dsimp only
    rw [e06]
    by_cases hl : y.1 0 6 ≤ nI r
    · left
      rw [if_pos hl]
      rw [z_le, hrI] at hl
      obtain rfl : r = (y.1 0 6).toNatClampNeg := by omega
      refine ⟨_, rfl, g2, ?_, g4⟩
      intro m hm hE
      obtain ⟨q1, q2, q3, q4⟩ := g3 m hm hE
      exact ⟨q1, q2, q3, by dsimp only; omega⟩
    right
    rw [if_neg hl]
    rw [z_le, hrI] at hl
    have hr' : r < (y.1 0 6).toNatClampNeg := by omega
    have ms : (y.1 0 6).toNatClampNeg - (nI r + 1).toNatClampNeg < (y.1 0 6).toNatClampNeg - (nI r).toNatClampNeg := by
      rw [nI_s, nI_cl (by omega), hrc]; omega
    by_cases hb : lg_cmp (ax_lshr B (nI r) &&& 1) 1 = 0
    · rw [if_pos hb]
      rw [z_tR B (by omega)] at hb
      obtain ⟨l, q1, q2, q3, q4, q5, q6, q7⟩ := nz_leansR hnu' hrw (z_only_rf 11 y) hr'
      obtain ⟨hln, hth, hxy⟩ := nz_lnR hnu' hrw hr'
      have c5 := z_cl q6
      have e1 : (1 : Int32).toInt = 1 := by decide
      have u5 : u.1 5 = y.1 5 := g2 5 (by omega) (by omega) (by omega)
      have u7 : u.1 7 = y.1 7 := g2 7 (by omega) (by omega) (by omega)
      have u8 : u.1 8 = y.1 8 := g2 8 (by omega) (by omega) (by omega)
      have hpa : ((1 : Int32) + y.1 5 r).toInt = ((1 + (y.1 5 r).toNatClampNeg : Nat) : Int) := by rw [z_add (by omega) (by omega), e1]; omega
      have hnx : (-(y.1 7 r)).toInt = -(y.1 7 r).toInt := z_neg (by omega)
      have i7 : ax_ai cx_R u 7 (nI r) = some (y.1 7 r) := by rw [z_ai (n := 40) rfl (by omega) (by omega), hrc, u7]
      have i8 : ax_ai cx_R u 8 (nI r) = some (y.1 8 r) := by rw [z_ai (n := 40) rfl (by omega) (by omega), hrc, u8]
      rw [z_ai (Sd := cx_R) (a := 5) (n := 40) rfl (by omega) (by omega), Option.bind_some, hrc, u5, nz_leansCg (g2 4 (by omega) (by omega) (by omega)) (g2 6 (by omega) (by omega) (by omega)), q1, Option.bind_some, i7, i8, Option.bind_some, Option.bind_some]
      unfold j_X10_led_159_221
      rw [i7, i8, Option.bind_some, Option.bind_some]
      have fin : ∀ w w' : Int32, -200000 ≤ w.toInt ∧ w.toInt ≤ 200000 → -200000 ≤ w'.toInt ∧ w'.toInt ≤ 200000 → nz_raw y B up (2 * r) = (nz_ln y r, (y.1 5 r).toNatClampNeg, w.toInt) → nz_raw y B up (2 * r + 1) = ((y.1 5 r).toNatClampNeg, nz_ln y r, w'.toInt) → ∃ a', j_X10_led_159_246 p1 up B mo (nI r) ((1 : Int32) + y.1 5 r) l w w' u = some (.inl a') ∧ (∃ r, r ≤ (y.1 0 6).toNatClampNeg ∧ a'.2.1 = nI r ∧ nz_o3 y a'.2.2 ∧ nz_enc y a'.2.2 (nz_sw (nz_en (nz_raw y B up)) f (2 * r)) (c + 2 * (r : Int)) ∧ ((a'.1 = 0 ∧ nz_sw (nz_en (nz_raw y B up)) f (2 * r) = f) ∨ (a'.1 = 1 ∧ nz_sw (nz_en (nz_raw y B up)) f (2 * r) ≠ f))) ∧ (y.1 0 6).toNatClampNeg - a'.2.1.toNatClampNeg < (y.1 0 6).toNatClampNeg - (nI r).toNatClampNeg := by
        intro w w' hw hw' r0 r1
        obtain ⟨fl, t, k1, k2, k3, k4⟩ := nz_ledRow (G := nz_en (nz_raw y B up)) (r := r) g3 (by omega) (a := (y.1 5 r).toNatClampNeg) (b := nz_ln y r) (by omega) hln q4 q3 hpa q2 hw hw' (by unfold nz_en; rw [r0]) (by unfold nz_en; rw [r1]) (fun k hk => hlow k (by omega)) p1 up B g4
        refine ⟨_, k1, ⟨r + 1, by omega, nI_s r, fun k h1 h2 h3 => (k3 k h2 h3).trans (g2 k h1 h2 h3), ?_, k4⟩, by first | exact ms | (rw [hrc] at ms; exact ms)⟩
        rw [show c + 2 * ((r + 1 : Nat) : Int) = c + 2 * (r : Int) + 2 by omega]
        exact k2
      have hxy' := hxy
      rcases hup with hz | hz
      · have hz1 : ¬ up = 1 := by rw [hz]; decide
        rw [if_neg hz1, if_neg hz1]
        have F := fin (-(y.1 7 r)) (y.1 8 r) (by omega) (by omega) (by rw [nz_raw0 up hb, if_pos hz, hnx]) (by rw [nz_raw1 up hb, if_pos hz])
        rw [hrc] at F
        exact F
      · have hz0 : ¬ up = 0 := by rw [hz]; decide
        rw [if_pos hz, if_pos hz]
        have F := fin (y.1 8 r) (-(y.1 7 r)) (by omega) (by omega) (by rw [nz_raw0 up hb, if_neg hz0]) (by rw [nz_raw1 up hb, if_neg hz0, hnx])
        rw [hrc] at F
        exact F
    · rw [if_neg hb]
      rw [z_tR B (by omega)] at hb
      have same : nz_sw (nz_en (nz_raw y B up)) f (2 * (r + 1)) = nz_sw (nz_en (nz_raw y B up)) f (2 * r) := by
        have z : ∀ g : Nat → Int, nz_rl g (0, 0, 1) = g := fun g => nz_rl_ok (fun _ => by show g 0 ≤ g 0 + 1; omega)
        have r0 : nz_en (nz_raw y B up) (2 * r) = (0, 0, 1) := by unfold nz_en; rw [nz_rawN up (by rw [show 2 * r / 2 = r by omega]; exact hb)]; rfl
        have r1 : nz_en (nz_raw y B up) (2 * r + 1) = (0, 0, 1) := by unfold nz_en; rw [nz_rawN up (by rw [show (2 * r + 1) / 2 = r by omega]; exact hb)]; rfl
        show nz_rl (nz_rl (nz_sw (nz_en (nz_raw y B up)) f (2 * r)) (nz_en (nz_raw y B up) (2 * r))) (nz_en (nz_raw y B up) (2 * r + 1)) = _
        rw [r0, r1, z, z]
      refine ⟨_, rfl, ⟨r + 1, by omega, nI_s r, g2, ?_, ?_⟩, by first | exact ms | (rw [hrc] at ms; exact ms)⟩
      · rw [same]
        intro m hm hE
        obtain ⟨q1, q2, q3, q4⟩ := g3 m hm hE
        exact ⟨q1, q2, q3, by dsimp only; omega⟩
      · rw [same]; exact g4)
    (a := ((0 : Int32), (0 : Int32), s)) ⟨0, Nat.zero_le _, rfl, ho, by
      intro m hm hE
      obtain ⟨q1, q2, q3, q4⟩ := henc m hm hE
      exact ⟨q1, q2, q3, by dsimp only; omega⟩, Or.inl ⟨rfl, rfl⟩⟩
  obtain ⟨⟨fl, t⟩, k1, k2, k3, k4⟩ := key
  exact ⟨fl, t, k1, k2, k3, k4⟩
theorem nz_ledInit {y y' : ax_S} (hnu : pz_nu y) (hbk : pz_bk y) (ho : nz_o3 y y') {p1 up : Int32} (hup : up = 0 ∨ up = 1) : ∃ e, ax_lp (b_X10_led_32 p1 up) ((0 : Int32), y') = some e ∧ nz_o3 y e ∧ ∀ m, m < 18 → nz_E y (1 + m) → (e.1 12 (1 + m)).toInt = nz_H y up m ∧ (e.1 13 (1 + m)).toInt = 0 := by
  obtain ⟨n1, n2, n3, n4, n5, n6, n7, n8, n9, n10, n11, n12⟩ := hnu
  have cT := z_cl n5
  have cB := z_cl n7
  have key := z_inv (f := b_X10_led_32 p1 up) (fun a => ∃ k, k ≤ 19 ∧ a.1 = nI k ∧ nz_o3 y a.2 ∧ ∀ m, m < 18 → 1 + m < k → nz_E y (1 + m) → (a.2.1 12 (1 + m)).toInt = nz_H y up m ∧ (a.2.1 13 (1 + m)).toInt = 0)
    (fun e => nz_o3 y e ∧ ∀ m, m < 18 → nz_E y (1 + m) → (e.1 12 (1 + m)).toInt = nz_H y up m ∧ (e.1 13 (1 + m)).toInt = 0) (fun a => 19 - a.1.toNatClampNeg) (by
    rintro ⟨_, s⟩ ⟨k, hk, g1, g2, g3⟩
    dsimp only at g1 g2 g3
    subst g1
    have hkI : (nI k).toInt = (k : Int) := z_nI (by omega)
    have hkc := nI_cl (k := k) (by omega)
    have e19 : (19 : Int32).toInt = 19 := by decide
    have e1 : (1 : Int32).toInt = 1 := by decide
    have e12 : (12 : Int32).toInt = 12 := by decide
    have e13 : (13 : Int32).toInt = 13 := by decide
    have s0 : s.1 0 = y.1 0 := g2 0 (by omega) (by omega) (by omega)
    unfold b_X10_led_32
    dsimp only
    rw [s0]
    by_cases hl : (19 : Int32) ≤ nI k
    · left
      rw [if_pos hl]
      rw [z_le, hkI, e19] at hl
      exact ⟨_, rfl, g2, fun m hm hE => g3 m hm (by omega) hE⟩
    right
    rw [if_neg hl]
    rw [z_le, hkI, e19] at hl
    have ms : 19 - (nI k + 1).toNatClampNeg < 19 - (nI k).toNatClampNeg := by
      rw [nI_s, nI_cl (by omega), hkc]; omega
    have put : ∀ v : Int32, (∀ m, m < 18 → 1 + m = k → nz_E y (1 + m) → v.toInt = nz_H y up m) → ∃ a', (ax_si cx_R s 12 (nI k) v).bind (fun s126 => (ax_si cx_R s126 13 (nI k) (0 : Int32)).bind (fun s133 => some (.inl ((nI k + 1), s133)))) = (some (.inl a') : Option ((Int32 × ax_S) ⊕ ax_S)) ∧ (∃ k, k ≤ 19 ∧ a'.1 = nI k ∧ nz_o3 y a'.2 ∧ ∀ m, m < 18 → 1 + m < k → nz_E y (1 + m) → (a'.2.1 12 (1 + m)).toInt = nz_H y up m ∧ (a'.2.1 13 (1 + m)).toInt = 0) ∧ 19 - a'.1.toNatClampNeg < 19 - (nI k).toNatClampNeg := by
      intro v hv
      rw [z_si (n := 19) rfl (by omega) (by omega), Option.bind_some, z_si (n := 19) rfl (by omega) (by omega), Option.bind_some, hkc]
      refine ⟨_, rfl, ⟨k + 1, by omega, nI_s k, ?_, ?_⟩, by first | exact ms | (rw [hkc] at ms; exact ms)⟩
      · intro j h1 h2 h3
        rw [← g2 j h1 h2 h3]
        funext i
        simp only [z_ui]
        simp [h2, h3]
      · intro m hm hmk hE
        simp only [z_ui]
        by_cases q : 1 + m = k
        · simp [q]
          exact hv m hm q hE
        · have := g3 m hm (by omega) hE
          simp [q]
          exact this
    have hlo : ∀ m, nz_lo y m = if 12 ≤ m ∧ m < 12 + (y.1 0 2).toNatClampNeg then -(y.1 2 (m - 12)).toInt else -200000 := fun _ => rfl
    have hhi : ∀ m, nz_hi y m = if 12 ≤ m ∧ m < 12 + (y.1 0 2).toNatClampNeg then -(y.1 1 (m - 12)).toInt else 200000 := fun _ => rfl
    have one : ¬ ((1 : Int32) = 0) := by decide
    have j66 : (1 ≤ k ∧ (k : Int) ≤ (y.1 0 1).toInt) ∨ (13 ≤ k ∧ (k : Int) ≤ 12 + (y.1 0 2).toInt) → ∃ a', j_X10_led_32_66 p1 up (nI k) s = some (.inl a') ∧ (∃ k, k ≤ 19 ∧ a'.1 = nI k ∧ nz_o3 y a'.2 ∧ ∀ m, m < 18 → 1 + m < k → nz_E y (1 + m) → (a'.2.1 12 (1 + m)).toInt = nz_H y up m ∧ (a'.2.1 13 (1 + m)).toInt = 0) ∧ 19 - a'.1.toNatClampNeg < 19 - (nI k).toNatClampNeg := by
      intro hk2
      unfold j_X10_led_32_66 j_X10_led_32_71
      rw [if_neg one]
      by_cases h13 : (13 : Int32) ≤ nI k
      · rw [if_pos h13]
        rw [z_le, hkI, e13] at h13
        have hsub : (nI k - 13).toInt = (k : Int) - 13 := by rw [z_sub (by omega) (by omega), hkI, e13]
        have csub := z_cl (a := nI k - 13) (by omega)
        have hsc : (nI k - 13).toNatClampNeg = k - 13 := by omega
        have hbb := hbk (k - 13) (by omega)
        rcases hup with hz | hz
        · rw [if_neg (by rw [hz]; decide), z_ai (Sd := cx_R) (a := 2) (n := 6) rfl (by omega) (by omega), Option.bind_some, hsc, g2 2 (by omega) (by omega) (by omega)]
          refine put _ (fun m hm hmk hE => ?_)
          unfold nz_H
          rw [if_pos hz, hlo, if_pos (by omega), show m - 12 = k - 13 by omega]
          omega
        · rw [if_pos hz, z_ai (Sd := cx_R) (a := 1) (n := 6) rfl (by omega) (by omega), Option.bind_some, hsc, g2 1 (by omega) (by omega) (by omega)]
          refine put _ (fun m hm hmk hE => ?_)
          unfold nz_H
          rw [if_neg (by rw [hz]; decide), hhi, if_pos (by omega), show m - 12 = k - 13 by omega, z_neg (by omega)]
      · rw [if_neg h13]
        rw [z_le, hkI, e13] at h13
        refine put _ (fun m hm hmk hE => ?_)
        have e2 : (200000 : Int32).toInt = 200000 := by decide
        unfold nz_H
        rcases hup with hz | hz
        · rw [if_pos hz, hlo, if_neg (by omega), e2]; rfl
        · rw [if_neg (by rw [hz]; decide), hhi, if_neg (by omega), e2]
    rw [pz_in, Option.bind_some, pz_if0, hkI, e1]
    by_cases h1 : 1 ≤ (k : Int) ∧ (k : Int) ≤ (y.1 0 1).toInt
    · rw [if_pos h1]
      exact j66 (Or.inl (by omega))
    rw [if_neg h1, pz_in, Option.bind_some, pz_if0, hkI, e13, z_add (by omega) (by omega), e12]
    by_cases h2 : 13 ≤ (k : Int) ∧ (k : Int) ≤ 12 + (y.1 0 2).toInt
    · rw [if_pos h2]
      exact j66 (Or.inr (by omega))
    rw [if_neg h2]
    unfold j_X10_led_32_71
    rw [if_pos rfl]
    refine put _ (fun m hm hmk hE => ?_)
    exfalso
    rcases hE with q | q | q <;> omega)
    (a := ((0 : Int32), y')) ⟨0, by omega, rfl, ho, fun m _ h => by omega⟩
  exact key
/-- sweeps until nothing is nearer -/
theorem nz_ledRun {y : ax_S} (hnu : pz_nu y) (hrw : pz_rw y) {B : Int64} {up p1 : Int32} (hup : up = 0 ∨ up = 1) {f0 u : Nat → Int} (hu : nz_pot (nz_en (nz_raw y B up)) (2 * (y.1 0 6).toNatClampNeg) u) (hul : ∀ m, m < 18 → -12000000000 ≤ u m) (hu0 : ∀ m, m < 18 → u m ≤ f0 m) :
    ∀ (j k : Nat) (s : ax_S), j + k = 18 → nz_o3 y s → nz_enc y s (nz_F (nz_en (nz_raw y B up)) (2 * (y.1 0 6).toNatClampNeg) f0 k) (80 * (k : Int)) → k ≤ 17 → ∃ e, ax_lp (b_X10_led_148 p1 up B) ((1 : Int32), s) = some e ∧ nz_o3 y e ∧ ∃ n, nz_enc y e (nz_F (nz_en (nz_raw y B up)) (2 * (y.1 0 6).toNatClampNeg) f0 n) 1440 ∧ nz_sat (nz_en (nz_raw y B up)) (2 * (y.1 0 6).toNatClampNeg) (nz_F (nz_en (nz_raw y B up)) (2 * (y.1 0 6).toNatClampNeg) f0 n) := by
  have hends : ∀ e, e < 2 * (y.1 0 6).toNatClampNeg → (nz_en (nz_raw y B up) e).1 < 18 ∧ (nz_en (nz_raw y B up) e).2.1 < 18 := nz_raw_e hnu hrw B up
  have hind : ∀ e, e < 2 * (y.1 0 6).toNatClampNeg → ∀ g : Nat → Int, (∀ m, m < 18 → u m ≤ g m) → ∀ m, m < 18 → u m ≤ nz_rl g (nz_en (nz_raw y B up) e) m := by
    intro e he g hg m hm
    by_cases ho : nz_ok g (nz_en (nz_raw y B up) e)
    · rw [nz_rl_ok ho]; exact hg m hm
    · obtain ⟨o1, o2, o3⟩ := nz_rl_not ho
      have a1 := hg _ (hends e he).1
      have a2 := hu e he
      rw [o3]
      by_cases hmb : m = (nz_en (nz_raw y B up) e).2.1
      · simp only [hmb, if_true]; omega
      · simp only [hmb, if_false]; exact hg m hm
  have hF : ∀ k m, m < 18 → u m ≤ nz_F (nz_en (nz_raw y B up)) (2 * (y.1 0 6).toNatClampNeg) f0 k m := by
    intro k
    induction k with
    | zero => exact hu0
    | succ k ih => exact nz_sw_ind (G := nz_en (nz_raw y B up)) (N := 2 * (y.1 0 6).toNatClampNeg) (fun g => ∀ m, m < 18 → u m ≤ g m) hind ih _ (Nat.le_refl _)
  have hset := nz_settles (f := f0) hu hends (fun r _ => nz_raw_rev y B up r)
  intro j
  induction j with
  | zero => intro k s h1 _ _ h4; omega
  | succ j ih =>
    intro k s h1 h2 h3 h4
    have hlow : ∀ i, i ≤ 2 * (y.1 0 6).toNatClampNeg → ∀ m, m < 18 → -12000000000 ≤ nz_sw (nz_en (nz_raw y B up)) (nz_F (nz_en (nz_raw y B up)) (2 * (y.1 0 6).toNatClampNeg) f0 k) i m := by
      intro i hi m hm
      have a := nz_sw_ind (G := nz_en (nz_raw y B up)) (N := 2 * (y.1 0 6).toNatClampNeg) (fun g => ∀ m, m < 18 → u m ≤ g m) hind (hF k) i hi m hm
      have b := hul m hm
      omega
    obtain ⟨fl, t, k1, k2, k3, k4⟩ := nz_ledSweep hnu hrw (p1 := p1) hup h2 (c := 80 * (k : Int)) (by omega) h3 hlow
    have step : b_X10_led_148 p1 up B ((1 : Int32), s) = some (.inl (fl, t)) := by
      unfold b_X10_led_148
      dsimp only
      rw [if_neg (by decide), k1, Option.bind_some]
    rw [z_lpl step]
    rcases k4 with ⟨q1, q2⟩ | ⟨q1, q2⟩
    · refine ⟨t, ?_, k2, k, ?_, nz_sw_fix q2⟩
      · refine z_lpr ?_
        unfold b_X10_led_148
        dsimp only
        rw [if_pos q1]
      · rw [q2] at k3
        intro m hm hE
        obtain ⟨a1, a2, a3, a4⟩ := k3 m hm hE
        exact ⟨a1, a2, a3, by omega⟩
    · have hk := (hset k (fun q => q2 (nz_sat_fix q))).1
      rw [q1]
      refine ih (k + 1) t (by omega) k2 ?_ (by omega)
      rw [show (80 : Int) * ((k + 1 : Nat) : Int) = 80 * (k : Int) + 80 by omega]
      exact k3
theorem lq_led_ok : lq_led pz_I := by
  intro x y p e hI
  have hI' := hI
  obtain ⟨hsc, har, hsh, hnu, hbk, hrw, htx⟩ := hI
  have hnu' := hnu
  obtain ⟨n1, n2, n3, n4, n5, n6, n7, n8, n9, n10, n11, n12⟩ := hnu
  have s3 : x.1 0 10 = y.1 0 1 := hsc.2.2.1
  have cT := z_cl n5
  unfold f_X9_led f_X10_led
  rw [pz_isThingC, pz_isThingR _ _ n5, s3, pz_isEnd, pz_in01]
  simp only [Option.bind_some, pz_if0]
  by_cases hp : 0 ≤ p.toInt ∧ p.toInt < (y.1 0 1).toInt
  case neg => rw [if_neg hp, if_neg hp]; exact ⟨_, _, _, rfl, rfl, hI'⟩
  by_cases he : 0 ≤ e.toInt ∧ e.toInt ≤ 1
  case neg => rw [if_pos hp, if_pos hp, if_neg he, if_neg he]; exact ⟨_, _, _, rfl, rfl, hI'⟩
  rw [if_pos hp, if_pos hp, if_pos he, if_pos he, pz_KC hI', Option.bind_some]
  have cp := z_cl hp.1
  have e0 : (0 : Int32).toInt = 0 := by decide
  have e1 : (1 : Int32).toInt = 1 := by decide
  have hup : e = 0 ∨ e = 1 := by
    rw [z_eq, z_eq, e0, e1]; omega
  obtain ⟨fl, x', y', q1, q2, q3, q4, q5, q6⟩ := nz_all2 hI'
  rw [q1, q2, Option.bind_some, Option.bind_some]
  dsimp only
  rcases q6 with ⟨rfl, hS, hR⟩ | ⟨rfl, -⟩
  case inr =>
    rw [if_pos rfl, if_pos rfl]
    exact ⟨_, _, _, rfl, rfl, q5⟩
  rw [if_neg pz_one, if_neg pz_one]
  have ho : nz_o3 y y' := fun k h1 _ _ => q4.1 k h1
  obtain ⟨s0, i1, i2, i3⟩ := nz_ledInit hnu' hbk ho (p1 := p) hup
  have hs00 : s0.1 0 = y.1 0 := i2 0 (by omega) (by omega) (by omega)
  have heR : ∀ s, nz_o3 y s → pz_eR y s := fun s h => ⟨⟨by rw [h 0 (by omega) (by omega) (by omega)], by rw [h 0 (by omega) (by omega) (by omega)], by rw [h 0 (by omega) (by omega) (by omega)], by rw [h 0 (by omega) (by omega) (by omega)], by rw [h 0 (by omega) (by omega) (by omega)], by rw [h 0 (by omega) (by omega) (by omega)], by rw [h 0 (by omega) (by omega) (by omega)]⟩, fun k _ _ => h k (by omega) (by omega) (by omega), fun k _ _ => h k (by omega) (by omega) (by omega)⟩
  have hnus : pz_nu s0 := by unfold pz_nu; rw [hs00]; exact hnu'
  rw [i1, Option.bind_some, pz_KR hnus, pz_K_eR (heR s0 i2), Option.bind_some]
  obtain ⟨d1, d2, d3⟩ := nz_dir hnu' hbk hS (up := e)
  have hends := nz_raw_e hnu' hrw (pz_K y) e
  have hupot : nz_pot (nz_en (nz_raw y (pz_K y) e)) (2 * (y.1 0 6).toNatClampNeg) (fun m => 10000 * (nz_T x' e m - 1000000)) := by
    intro i hi
    have := d2 i hi
    show 10000 * (nz_T x' e (nz_raw y (pz_K y) e i).2.1 - 1000000) ≤ 10000 * (nz_T x' e (nz_raw y (pz_K y) e i).1 - 1000000) + (10000 * (nz_raw y (pz_K y) e i).2.2 + 1)
    omega
  obtain ⟨s, j1, j2, n, j3, j4⟩ := nz_ledRun hnu' hrw (p1 := p) hup (f0 := fun m => 10000 * (nz_H y e m - 1000000)) hupot (fun m hm => by have := d1 m hm; omega) (fun m hm => by have := d1 m hm; omega) 18 0 s0 (by omega) i2 (by
    intro m hm hE
    obtain ⟨a, b⟩ := i3 m hm hE
    have := d1 m hm
    show 10000 * (nz_H y e m - 1000000) = _ ∧ _
    omega) (by omega)
  rw [j1, Option.bind_some]
  have hreal := nz_real_F (G := nz_en (nz_raw y (pz_K y) e)) (N := 2 * (y.1 0 6).toNatClampNeg) (f0 := fun m => 10000 * (nz_H y e m - 1000000)) n
  have hle := nz_F_le (nz_en (nz_raw y (pz_K y) e)) (2 * (y.1 0 6).toNatClampNeg) (fun m => 10000 * (nz_H y e m - 1000000)) n
  have hlb := nz_F_lb hupot hends (f := fun m => 10000 * (nz_H y e m - 1000000)) (fun m hm _ => by have := d1 m hm; omega) n
  generalize hfe : nz_F (nz_en (nz_raw y (pz_K y) e)) (2 * (y.1 0 6).toNatClampNeg) (fun m => 10000 * (nz_H y e m - 1000000)) n = f at j3 j4 hreal hle hlb
  have hU : nz_U = 1000000000 := rfl
  have hfU : ∀ m, m < 18 → f m ≤ -8000000000 := by
    intro m hm
    have a := hle m
    have b := d1 m hm
    omega
  have hst : ∀ m, m < 18 → 0 ≤ f m % 10000 ∧ f m % 10000 ≤ 5000 := by
    intro m hm
    by_cases hE : nz_E y (1 + m)
    · obtain ⟨a1, a2, a3, a4⟩ := j3 m hm hE
      omega
    · rcases hreal m with q | ⟨i, a1, a2, a3⟩
      · dsimp only at q
        omega
      · exfalso
        change (nz_raw y (pz_K y) e i).2.1 = m at a2
        change f (nz_raw y (pz_K y) e i).1 + (10000 * (nz_raw y (pz_K y) e i).2.2 + 1) ≤ f m at a3
        by_cases ht : pz_tb (pz_K y) (i / 2) = true
        · obtain ⟨l, -, -, b3, b4, -⟩ := nz_leansR hnu' hrw (z_only_rf 11 y) (r := i / 2) (by omega)
          by_cases hev : i = 2 * (i / 2)
          · rw [hev, nz_raw0 e ht] at a2
            dsimp only at a2
            rw [← a2] at hE
            exact hE b4
          · have h3 : i = 2 * (i / 2) + 1 := by omega
            rw [h3, nz_raw1 e ht] at a2
            dsimp only at a2
            rw [← a2] at hE
            exact hE b3
        · rw [nz_rawN e ht] at a2 a3
          dsimp only at a2 a3
          rw [← a2] at a3
          omega
  have hpotr : nz_pot (nz_raw y (pz_K y) e) (2 * (y.1 0 6).toNatClampNeg) (fun m => f m / 10000 + 1000000) := by
    intro i hi
    obtain ⟨b1, b2⟩ := hends i hi
    have a1 : f (nz_raw y (pz_K y) e i).2.1 ≤ f (nz_raw y (pz_K y) e i).1 + (10000 * (nz_raw y (pz_K y) e i).2.2 + 1) := j4 i hi (fun q => by
      have := hfU _ b1
      change f (nz_raw y (pz_K y) e i).1 = nz_U at q
      omega)
    have a2 := hst _ b1
    have a3 := hst _ b2
    dsimp only
    omega
  have hTr : ∀ m, m < 18 → f m / 10000 + 1000000 = nz_T x' e m := by
    have hge : ∀ m, m < 18 → nz_T x' e m ≤ f m / 10000 + 1000000 := by
      intro m hm
      have a := hlb m hm (by have := hfU m hm; omega)
      omega
    intro m hm
    have a := d3 (fun m => f m / 10000 + 1000000) (fun m hm => ⟨hge m hm, by
      have a := hle m
      omega⟩) hpotr m hm
    have b := hge m hm
    omega
  obtain ⟨t', c1, c2⟩ := nz_stepsC hnu' hbk hrw hS (up := e) (p := p) (by omega) (f0 := fun m => 10000 * (nz_H y e m - 1000000)) (f := f) (st := fun m => f m % 10000) j4 hreal (fun m _ => rfl) hle (fun m hm => by have := hTr m hm; omega) hst
  have hEp : nz_E y (1 + p.toNatClampNeg) := Or.inr (Or.inl (by omega))
  have h1p : ((1 : Int32) + p).toInt = 1 + p.toInt := by rw [z_add (by omega) (by omega), e1]
  have c1p := z_cl (a := (1 : Int32) + p) (by omega)
  have h1c : ((1 : Int32) + p).toNatClampNeg = 1 + p.toNatClampNeg := by omega
  rw [z_ai (Sd := cx_R) (a := 13) (n := 19) rfl (by omega) (by omega), Option.bind_some, h1c]
  have hval : nI (f p.toNatClampNeg % 10000).toNat = s.1 13 (1 + p.toNatClampNeg) := by
    have a := j3 p.toNatClampNeg (by omega) hEp
    rw [z_eq, z_nI (by omega)]
    omega
  have hIf : pz_I t' s := pz_fr hI' (pz_eC_tr (nz_fr_eC q3) ⟨c2 0 (by omega) (by omega), c2 2 (by omega) (by omega), c2 3 (by omega) (by omega), by rw [c2 7 (by omega) (by omega)], fun k _ _ => c2 k (by omega) (by omega), fun k _ _ => c2 k (by omega) (by omega)⟩) (heR s j2)
  refine ⟨s.1 13 (1 + p.toNatClampNeg), t', s, ?_, rfl, hIf⟩
  rw [← hval]
  rcases hup with hz | hz
  · rw [if_neg (by rw [hz]; decide)]
    rw [hz] at c1
    rw [c1]
    subst hz
    rfl
  · rw [if_pos hz]
    rw [hz] at c1
    rw [c1]
    subst hz
    rfl

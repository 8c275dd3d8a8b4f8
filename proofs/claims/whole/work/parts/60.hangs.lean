/-! between, hangs -/
theorem z_two {α ε β η : Type} {f : α → Option (α ⊕ ε)} {g : β → Option (β ⊕ η)} (R : α → β → Prop) (Q : ε → η → Prop) (μ : α → Nat) (h : ∀ a b, R a b → (∃ e e', ax_lp f a = some e ∧ ax_lp g b = some e' ∧ Q e e') ∨ ∃ a' b', ax_lp f a = ax_lp f a' ∧ ax_lp g b = ax_lp g b' ∧ R a' b' ∧ μ a' < μ a) {a : α} {b : β} (hab : R a b) : ∃ e e', ax_lp f a = some e ∧ ax_lp g b = some e' ∧ Q e e' := by
  have : ∀ (n : Nat) (a : α) (b : β), μ a < n → R a b → ∃ e e', ax_lp f a = some e ∧ ax_lp g b = some e' ∧ Q e e' := by
    intro n
    induction n with
    | zero => intro a b h1; omega
    | succ n ih =>
      intro a b h1 h2
      rcases h a b h2 with q | ⟨a', b', q1, q2, q3, q4⟩
      · exact q
      · obtain ⟨e, e', h3, h4, h5⟩ := ih a' b' (by omega) q3
        exact ⟨e, e', q1.trans h3, q2.trans h4, h5⟩
  exact this (μ a + 1) a b (by omega) hab
theorem z_lpl {α ε : Type} {f : α → Option (α ⊕ ε)} {a a' : α} (h : f a = some (.inl a')) : ax_lp f a = ax_lp f a' := by
  rw [z_lp, h]; rfl
theorem z_lpr {α ε : Type} {f : α → Option (α ⊕ ε)} {a : α} {e : ε} (h : f a = some (.inr e)) : ax_lp f a = some e := by
  rw [z_lp, h]; rfl
theorem nz_btw {x' y' y : ax_S} {B : Int64} (hnu : pz_nu y) (hbk : pz_bk y) (hS : nz_Sol x' y B) (hR : nz_Rm y' y B) {a : Int32} (ha : 0 ≤ a.toInt ∧ a.toInt < (y.1 0 1).toInt) :
    ∃ t, f_X6_measureFrom a x' = some t ∧ z_only 17 x' t ∧ ∀ b : Int32, 0 ≤ b.toInt → b.toInt < (y.1 0 1).toInt → ∃ w, f_X6_mostBehind a b t = some w ∧ ax_ai cx_R y' 11 ((19 : Int32) * ((1 : Int32) + a) + 1 + b) = some w ∧ nz_mx y B a.toNatClampNeg b.toNatClampNeg w.toInt ∧ -400000 ≤ w.toInt ∧ w.toInt ≤ 400000 := by
  have hnu' := hnu
  obtain ⟨n1, n2, n3, n4, n5, n6, n7, n8, n9, n10, n11, n12⟩ := hnu
  have ca := z_cl ha.1
  have ct := z_cl n5
  obtain ⟨t, f1, o1, k1⟩ := nz_measure hnu' hbk hS (a := a) ⟨ha.1, by omega⟩
  refine ⟨t, f1, o1, ?_⟩
  intro b hb0 hb1
  have cb := z_cl hb0
  obtain ⟨w, w1, w2⟩ := k1 b hb0 (by omega)
  have e1 : (1 : Int32).toInt = 1 := by decide
  have h1p : ((1 : Int32) + a).toInt = 1 + a.toInt := by rw [z_add (by omega) (by omega), e1]
  have h19 : ((19 : Int32) * ((1 : Int32) + a)).toInt = 19 * (1 + a.toInt) := by
    rw [z_mul (by simp only [Int32.reduceToInt]; omega) (by simp only [Int32.reduceToInt]; omega), h1p]
    simp only [Int32.reduceToInt]
  have h20 : ((19 : Int32) * ((1 : Int32) + a) + 1).toInt = 19 * (1 + a.toInt) + 1 := by
    rw [z_add (by omega) (by omega), h19, e1]
  have h21 : ((19 : Int32) * ((1 : Int32) + a) + 1 + b).toInt = 19 * (1 + a.toInt) + 1 + b.toInt := by
    rw [z_add (by omega) (by omega), h20]
  have h21c : ((19 : Int32) * ((1 : Int32) + a) + 1 + b).toNatClampNeg = 19 * (1 + a.toNatClampNeg) + (1 + b.toNatClampNeg) := by
    have := z_cl (a := (19 : Int32) * ((1 : Int32) + a) + 1 + b) (by omega)
    omega
  have Ea : nz_E y (1 + a.toNatClampNeg) := by unfold nz_E; omega
  have Eb : nz_E y (1 + b.toNatClampNeg) := by unfold nz_E; omega
  obtain ⟨⟨v, hv1, hv2⟩, hv3⟩ := hR _ _ Ea Eb
  have mx : nz_mx y B a.toNatClampNeg b.toNatClampNeg (nz_D y' (1 + a.toNatClampNeg) (1 + b.toNatClampNeg)) := by
    refine ⟨⟨v, hv1, ?_⟩, ?_⟩
    · rw [nz_ws, nz_ws] at hv2; exact hv2
    · intro u hu
      have := hv3 u hu
      rw [nz_ws, nz_ws] at this; exact this
  have hw : w = y'.1 11 (19 * (1 + a.toNatClampNeg) + (1 + b.toNatClampNeg)) := by
    rw [z_eq]; exact nz_mx_eq w2 mx
  refine ⟨w, w1, ?_, w2, ?_⟩
  · rw [z_ai (Sd := cx_R) (x := y') (a := 11) (n := 361) rfl (by omega) (by omega), h21c, hw]
  · obtain ⟨⟨u, hu1, hu2⟩, -⟩ := w2
    have a1 := hu1.1 a.toNatClampNeg (by omega)
    have a2 := hu1.1 b.toNatClampNeg (by omega)
    have a3 := nz_lohi hnu' hbk a.toNatClampNeg
    have a4 := nz_lohi hnu' hbk b.toNatClampNeg
    omega
theorem pz_twoR {y : ax_S} (h0 : 0 ≤ (y.1 0 1).toInt) (t o : Int32) : f_X10_areTwo t o y = some (if (0 ≤ t.toInt ∧ t.toInt < (y.1 0 1).toInt) ∧ (0 ≤ o.toInt ∧ o.toInt < (y.1 0 1).toInt) ∧ t.toInt ≠ o.toInt then 1 else 0) := by
  unfold f_X10_areTwo
  rw [pz_isThingR _ _ h0, pz_isThingR _ _ h0, Option.bind_some, pz_if0]
  by_cases h1 : 0 ≤ t.toInt ∧ t.toInt < (y.1 0 1).toInt
  case neg =>
    rw [if_neg h1, if_neg (by omega)]
  rw [if_pos h1, Option.bind_some, pz_if0]
  by_cases h2 : 0 ≤ o.toInt ∧ o.toInt < (y.1 0 1).toInt
  case neg =>
    rw [if_neg h2, if_neg (by omega)]
  rw [if_pos h2]
  by_cases h3 : t = o
  · rw [if_pos h3, if_neg (by rw [h3]; omega)]
  · rw [if_neg h3]
    rw [z_eq] at h3
    rw [if_pos ⟨h1, h2, h3⟩]
theorem lq_between_ok : lq_between pz_I := by
  intro x y p q e hI
  have hI' := hI
  obtain ⟨hsc, har, hsh, hnu, hbk, hrw, htx⟩ := hI
  have h5 : 0 ≤ (y.1 0 1).toInt := hnu.2.2.2.2.1
  unfold f_X9_between f_X10_between
  rw [pz_two hI', Option.bind_some, pz_if0, pz_twoR h5, Option.bind_some, pz_if0]
  by_cases c : (0 ≤ p.toInt ∧ p.toInt < (y.1 0 1).toInt) ∧ (0 ≤ q.toInt ∧ q.toInt < (y.1 0 1).toInt) ∧ p.toInt ≠ q.toInt
  case neg => rw [if_neg c, if_neg c]; exact ⟨_, x, y, rfl, rfl, hI'⟩
  rw [if_pos c, if_pos c, pz_isEnd, Option.bind_some, pz_if0, pz_in01, Option.bind_some, pz_if0]
  by_cases c2 : 0 ≤ e.toInt ∧ e.toInt ≤ 1
  case neg => rw [if_neg c2, if_neg c2]; exact ⟨_, x, y, rfl, rfl, hI'⟩
  rw [if_pos c2, if_pos c2, pz_KC hI', Option.bind_some]
  obtain ⟨fl, x', y', h1, h2, h3, h4, h5, h6⟩ := nz_all2 hI'
  rw [h1, Option.bind_some, h2, Option.bind_some]
  dsimp only
  rcases h6 with ⟨rfl, k, k'⟩ | ⟨rfl, -⟩
  case inr => exact ⟨_, x', y', rfl, rfl, h5⟩
  rw [if_neg pz_one, if_neg pz_one]
  by_cases he : e = 1
  · rw [if_pos he, if_neg (by rw [he]; decide)]
    obtain ⟨t, t1, t2, t3⟩ := nz_btw hnu hbk k k' c.2.1
    obtain ⟨w, w1, w2, -⟩ := t3 p c.1.1 c.1.2
    rw [t1, Option.bind_some, w1, w2]
    exact ⟨w, t, y', rfl, rfl, nz_frI h5 (nz_fr_only (by omega) (by omega) t2)⟩
  · have h0 : e = 0 := by
      rw [z_eq, show (0 : Int32).toInt = 0 from by decide]
      rw [z_eq, show (1 : Int32).toInt = 1 from by decide] at he
      omega
    rw [if_neg he, if_pos h0]
    obtain ⟨t, t1, t2, t3⟩ := nz_btw hnu hbk k k' c.1
    obtain ⟨w, w1, w2, -⟩ := t3 q c.2.1.1 c.2.1.2
    rw [t1, Option.bind_some, w1, w2]
    exact ⟨-w, t, y', rfl, rfl, nz_frI h5 (nz_fr_only (by omega) (by omega) t2)⟩
/-! one number for a span -/
def nz_kv (lo hi : Int32) : Int64 := lo.toInt64 * 1000000 + hi.toInt64
theorem nz_kv_val {lo hi : Int32} (h1 : -200000 ≤ lo.toInt ∧ lo.toInt ≤ 200000) (h2 : -200000 ≤ hi.toInt ∧ hi.toInt ≤ 200000) : (nz_kv lo hi).toInt = lo.toInt * 1000000 + hi.toInt := by
  unfold nz_kv
  have e : (1000000 : Int64).toInt = 1000000 := by decide
  rw [Int64.toInt_add, Int64.toInt_mul, Int32.toInt_toInt64, Int32.toInt_toInt64, e]
  have hp : (2 : Int) ^ 64 = 18446744073709551616 := by decide
  rw [Int.bmod_eq_of_le (n := lo.toInt * 1000000) (by omega) (by omega), Int.bmod_eq_of_le (by omega) (by omega)]
theorem nz_kv_inj {lo hi lo' hi' : Int32} (h1 : -200000 ≤ lo.toInt ∧ lo.toInt ≤ 200000) (h2 : -200000 ≤ hi.toInt ∧ hi.toInt ≤ 200000) (h1' : -200000 ≤ lo'.toInt ∧ lo'.toInt ≤ 200000) (h2' : -200000 ≤ hi'.toInt ∧ hi'.toInt ≤ 200000) : nz_kv lo hi = nz_kv lo' hi' ↔ lo = lo' ∧ hi = hi' := by
  constructor
  · intro h
    have := congrArg Int64.toInt h
    rw [nz_kv_val h1 h2, nz_kv_val h1' h2'] at this
    rw [z_eq, z_eq]
    omega
  · rintro ⟨rfl, rfl⟩; rfl
theorem nz_kv_ne {lo hi : Int32} (h1 : -200000 ≤ lo.toInt ∧ lo.toInt ≤ 200000) (h2 : -200000 ≤ hi.toInt ∧ hi.toInt ≤ 200000) : nz_kv lo hi ≠ (-9223372036854775808 : Int64) := by
  intro h
  have := congrArg Int64.toInt h
  rw [nz_kv_val h1 h2, show (-9223372036854775808 : Int64).toInt = -9223372036854775808 from by decide] at this
  omega
theorem nz_key2 {x y : ax_S} (hI : pz_I x y) (B : Int64) {p : Int32} (hp : 0 ≤ p.toInt ∧ p.toInt < (y.1 0 1).toInt) : ∃ k x' y' fl, f_X6_spanKey p B x = some (k, x') ∧ f_X10_works B y = some (fl, y') ∧ nz_fr x x' ∧ z_only 11 y y' ∧ pz_I x' y' ∧
    ((fl = 1 ∧ (∃ v, nz_S y B v) ∧ ∃ lo hi, f_X10_endOf p 0 y' = some lo ∧ f_X10_endOf p 1 y' = some hi ∧ k = nz_kv lo hi ∧ (-200000 ≤ lo.toInt ∧ lo.toInt ≤ 200000) ∧ (-200000 ≤ hi.toInt ∧ hi.toInt ≤ 200000)) ∨ (fl = 0 ∧ k = -9223372036854775808 ∧ ∀ v, ¬ nz_S y B v)) := by
  obtain ⟨fl, x', y', h1, h2, h3, h4, h5, h6⟩ := nz_solve2 hI B
  obtain ⟨hsc, har, hsh, hnu, hbk, hrw, htx⟩ := hI
  unfold f_X6_spanKey
  rw [h1, Option.bind_some]
  dsimp only
  rcases h6 with ⟨rfl, k, k'⟩ | ⟨rfl, k⟩
  · obtain ⟨lo, l1, l2, l3⟩ := nz_end hnu hbk k k' hp (e := 0) (by decide)
    obtain ⟨hi, u1, u2, u3⟩ := nz_end hnu hbk k k' hp (e := 1) (by decide)
    refine ⟨nz_kv lo hi, x', y', 1, ?_, h2, h3, h4, h5, Or.inl ⟨rfl, ⟨_, k.2.1⟩, lo, hi, l2, u2, rfl, l3, u3⟩⟩
    rw [if_neg pz_one, l1, Option.bind_some, u1, Option.bind_some]; rfl
  · exact ⟨_, x', y', 0, rfl, h2, h3, h4, h5, Or.inr ⟨rfl, rfl, k⟩⟩
theorem z_tb_bit (l : Int64) {r : Nat} (h : r < 64) : lg_cmp (l &&& ax_lshl 1 (nI r)) 0 = 0 ↔ pz_tb l r = false := by
  rw [z_cmp0]
  constructor
  · intro q
    have : pz_tb (l &&& ax_lshl 1 (nI r)) r = pz_tb 0 r := by rw [q]
    rw [z_tb_and, z_tb_one h, z_tb_zero] at this
    simpa using this
  · intro q
    apply z_tb_ext
    intro k hk
    rw [z_tb_and, z_tb_one h, z_tb_zero]
    by_cases hkr : k = r
    · subst hkr; rw [q]; rfl
    · simp [hkr]
theorem nz_S_sub {y : ax_S} {B B' : Int64} (h : ∀ r, pz_tb B' r = true → pz_tb B r = true) {v : Nat → Int} (hv : nz_S y B v) : nz_S y B' v := ⟨hv.1, fun r hr ht => hv.2 r hr (h r ht)⟩
theorem nz_S_eR {y y' : ax_S} (h : z_only 11 y y') (B : Int64) : nz_S y' B = nz_S y B := by
  funext v
  unfold nz_S nz_R nz_lo nz_hi nz_ln
  rw [h.1 0 (by omega), h.1 1 (by omega), h.1 2 (by omega), h.1 4 (by omega), h.1 5 (by omega), h.1 6 (by omega), h.1 7 (by omega), h.1 8 (by omega)]
theorem pz_K_eR {y y' : ax_S} (h : pz_eR y y') : pz_K y' = pz_K y := by
  obtain ⟨⟨h0, h1, h2, h6, h14, -, -⟩, h7, -⟩ := h
  have e : ∀ d n, pz_kb y' d n = pz_kb y d n := by
    intro d n
    induction n with
    | zero => rfl
    | succ n ih =>
      unfold pz_kb
      rw [ih]
      unfold pz_kn
      rw [h7 9 (by omega) (by omega), h7 10 (by omega) (by omega)]
  unfold pz_K pz_vd
  rw [h0, h6, h14, e]
theorem pz_asL2 : f_X9_asLong (-2) = some (-9223372036854775806 : Int64) := congrArg some (by decide)
theorem pz_asL3 : f_X9_asLong (-3) = some (-9223372036854775805 : Int64) := congrArg some (by decide)
theorem pz_asL4 : f_X9_asLong (-4) = some (-9223372036854775804 : Int64) := congrArg some (by decide)
theorem lq_hangs_ok : lq_hangs pz_I := by
  intro x y p hI
  have hI' := hI
  obtain ⟨hsc, har, hsh, hnu, hbk, hrw, htx⟩ := hI
  have h5 : 0 ≤ (y.1 0 1).toInt := hnu.2.2.2.2.1
  have hnr : 0 ≤ (y.1 0 6).toInt ∧ (y.1 0 6).toInt ≤ 40 := ⟨hnu.2.2.2.2.2.2.2.2.1, hnu.2.2.2.2.2.2.2.2.2.1⟩
  have c6 := z_cl hnr.1
  unfold f_X9_hangs f_X10_hangs
  rw [pz_isThingC, Option.bind_some, pz_if0, pz_isThingR _ _ h5, Option.bind_some, pz_if0, hsc.2.2.1]
  by_cases c : 0 ≤ p.toInt ∧ p.toInt < (y.1 0 1).toInt
  case neg =>
    rw [if_neg c, if_neg c, pz_asL2]
    exact ⟨_, x, y, rfl, rfl, hI'⟩
  rw [if_pos c, if_pos c, pz_KC hI', Option.bind_some]
  obtain ⟨fl, x1, y1, f1, f2, f3, f4, f5, f6⟩ := nz_all3 hI'
  rw [f1, Option.bind_some, f2, Option.bind_some]
  dsimp only
  rcases f6 with ⟨rfl, v, hv⟩ | ⟨rfl, -⟩
  case inr =>
    rw [if_pos rfl, if_pos rfl, pz_asL3]
    exact ⟨_, x1, y1, rfl, rfl, f5⟩
  rw [if_neg pz_one, if_neg pz_one]
  -- the whole span: the class works it out anew, the reference has it
  obtain ⟨k, x2, y2, fl2, g1, g2, g3, g4, g5, g6⟩ := nz_key2 (nz_frI hI' f3) (pz_K y) c
  have g2' : f_X10_canAll y = some (fl2, y2) := nz_canAllR hnu g2 (by
    rcases g6 with ⟨q, -⟩ | ⟨q, -⟩
    · exact Or.inr q
    · exact Or.inl q)
  have e12 : (1, y1) = (fl2, y2) := Option.some.inj (f2.symm.trans g2')
  obtain ⟨rfl, rfl⟩ : fl2 = 1 ∧ y2 = y1 := ⟨(congrArg Prod.fst e12).symm, (congrArg Prod.snd e12).symm⟩
  rcases g6 with ⟨-, -, lo, hi, l1, l2, rfl, l3, l4⟩ | ⟨q, -, -⟩
  case inr => exact absurd q pz_one
  have hK1 : pz_K y2 = pz_K y := pz_K_eR (nz_eR f4)
  rw [g1, Option.bind_some, l1, Option.bind_some, l2, Option.bind_some, pz_KR g5.2.2.2.1, Option.bind_some, hK1]
  dsimp only
  have key := z_two (f := b_X9_hangs_53 p (pz_K y) (nz_kv lo hi)) (g := b_X10_hangs_49 p lo hi (pz_K y))
    (fun a b => ∃ k, k ≤ (y.1 0 6).toNatClampNeg ∧ a.2.1 = nI k ∧ b.2.1 = nI k ∧ a.1 = b.1 ∧ nz_fr x a.2.2 ∧ z_only 11 y b.2.2 ∧ pz_I a.2.2 b.2.2)
    (fun e e' => e.1 = e'.1 ∧ pz_I e.2 e'.2) (fun a => (y.1 0 6).toNatClampNeg - a.2.1.toNatClampNeg) (by
    rintro ⟨a1, _, s⟩ ⟨b1, _, t⟩ ⟨k, hk, h1, h2, h3, h4, h5, h6⟩
    dsimp only at h1 h2 h3 h4 h5 h6
    subst h1 h2 h3
    have hkI : (nI k).toInt = (k : Int) := z_nI (by omega)
    have hkc := nI_cl (k := k) (by omega)
    have e27 : s.1 2 7 = y.1 0 6 := by rw [h4.1 2 (by omega) (by omega), hsc.2.2.2.2.2.1]
    have e06 : t.1 0 6 = y.1 0 6 := by rw [h5.1 0 (by omega)]
    have e01 : t.1 0 1 = y.1 0 1 := by rw [h5.1 0 (by omega)]
    by_cases hl : y.1 0 6 ≤ nI k
    · left
      refine ⟨(a1, s), (a1, t), z_lpr ?_, z_lpr ?_, rfl, h6⟩
      · unfold b_X9_hangs_53; dsimp only; rw [e27, if_pos hl]
      · unfold b_X10_hangs_49; dsimp only; rw [e06, if_pos hl]
    · right
      rw [z_le, hkI] at hl
      have hl' : ¬ y.1 0 6 ≤ nI k := by rw [z_le, hkI]; exact hl
      have ms : (y.1 0 6).toNatClampNeg - (nI k + 1).toNatClampNeg < (y.1 0 6).toNatClampNeg - (nI k).toNatClampNeg := by
        rw [nI_s k, nI_cl (by omega), hkc]; omega
      cases hb : pz_tb (pz_K y) k with
      | false =>
        refine ⟨(a1, nI k + 1, s), (a1, nI k + 1, t), z_lpl ?_, z_lpl ?_, ⟨k + 1, by omega, nI_s k, nI_s k, rfl, h4, h5, h6⟩, ms⟩
        · unfold b_X9_hangs_53
          dsimp only
          rw [e27, if_neg hl', if_pos ((z_tb_bit _ (by omega)).mpr hb)]
        · unfold b_X10_hangs_49
          dsimp only
          rw [e06, if_neg hl', if_neg (by rw [z_tR _ (by omega), hb]; decide)]
      | true =>
        obtain ⟨kk, x3, y3, fl3, m1, m2, m3, m4, m5, m6⟩ := nz_key2 h6 (pz_K y &&& (ax_lshl 1 (nI k) ^^^ -1)) (p := p) (by rw [e01]; exact c)
        have hsub : nz_S t (pz_K y &&& (ax_lshl 1 (nI k) ^^^ -1)) v := by
          rw [nz_S_eR h5]
          refine nz_S_sub ?_ hv
          intro r hr
          rw [z_tb_and] at hr
          simp at hr
          exact hr.1
        rcases m6 with ⟨rfl, -, lo', hi', w1, w2, rfl, w3, w4⟩ | ⟨-, -, w⟩
        case inr => exact absurd hsub (w v)
        have ec : lg_cmp (nz_kv lo' hi') (nz_kv lo hi) = 0 ↔ lo' = lo ∧ hi' = hi := by
          rw [z_cmp0, nz_kv_inj w3 w4 l3 l4]
        have goC : ∀ u, b_X9_hangs_53 p (pz_K y) (nz_kv lo hi) (a1, nI k, s) = some (.inl (u, nI k + 1, x3)) ↔ (if lo' = lo ∧ hi' = hi then a1 else a1 ||| ax_lshl 1 (nI k)) = u := by
          intro u
          unfold b_X9_hangs_53
          dsimp only
          rw [e27, if_neg hl', if_neg (by rw [z_tb_bit _ (by omega), hb]; decide), m1, Option.bind_some]
          dsimp only
          by_cases hc : lo' = lo ∧ hi' = hi
          · rw [if_pos (ec.mpr hc), if_pos hc]; simp
          · rw [if_neg (fun q => hc (ec.mp q)), if_neg hc]; simp
        have goR : ∀ u, b_X10_hangs_49 p lo hi (pz_K y) (a1, nI k, t) = some (.inl (u, nI k + 1, y3)) ↔ (if lo' = lo ∧ hi' = hi then a1 else a1 ||| ax_lshl 1 (nI k)) = u := by
          intro u
          unfold b_X10_hangs_49
          dsimp only
          rw [e06, if_neg hl', if_pos (by rw [z_tR _ (by omega), hb]), m2, Option.bind_some]
          dsimp only
          rw [w1, Option.bind_some]
          by_cases hc1 : lo' = lo
          · rw [if_pos hc1, w2, Option.bind_some]
            by_cases hc2 : hi' = hi
            · rw [if_pos hc2, if_pos ⟨hc1, hc2⟩]
              simp
            · rw [if_neg hc2, if_neg (fun q => hc2 q.2)]; simp
          · rw [if_neg hc1, if_neg (fun q => hc1 q.1)]; simp
        exact ⟨(_, nI k + 1, x3), (_, nI k + 1, y3), z_lpl ((goC _).mpr rfl), z_lpl ((goR _).mpr rfl), ⟨k + 1, by omega, nI_s k, nI_s k, rfl, nz_fr_tr h4 m3, z_only_tr h5 m4, m5⟩, ms⟩)
    (a := ((0 : Int64), (0 : Int32), x2)) (b := ((0 : Int64), (0 : Int32), y2)) ⟨0, Nat.zero_le _, rfl, rfl, rfl, nz_fr_tr f3 g3, f4, g5⟩
  obtain ⟨⟨r, xe⟩, ⟨r', ye⟩, q1, q2, q3, q4⟩ := key
  dsimp only at q3 q4
  subst q3
  rw [q1, q2]
  exact ⟨r, xe, ye, rfl, rfl, q4⟩

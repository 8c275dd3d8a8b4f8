/-! changed -/
theorem pz_nearer (n c d : Int32) : f_X7_nearer n c d = some (if d.toInt < c.toInt ∧ (n.toInt = -1 ∨ c.toInt < n.toInt) then c else n) := by
  unfold f_X7_nearer j_X7_nearer_19 j_X7_nearer_15 j_X7_nearer_20
  rw [if_pos rfl, if_neg pz_one]
  have e1 : (-1 : Int32).toInt = -1 := by decide
  by_cases h1 : c ≤ d
  · rw [if_pos h1]
    rw [z_le] at h1
    rw [if_neg (by omega)]
  · rw [if_neg h1]
    rw [z_le] at h1
    by_cases h2 : n = -1
    · rw [if_pos h2]
      rw [z_eq, e1] at h2
      rw [if_pos (by omega)]
    · rw [if_neg h2]
      rw [z_eq, e1] at h2
      by_cases h3 : n ≤ c
      · rw [if_pos h3]
        rw [z_le] at h3
        rw [if_neg (by omega)]
      · rw [if_neg h3]
        rw [z_le] at h3
        rw [if_pos (by omega)]
/-- the next day of news behind D -/
def nz_nx (y : ax_S) (D : Int) (n : Nat) (w : Int) : Prop := (w = -1 ∧ ∀ r, r < n → (y.1 9 r).toInt ≤ D ∧ (y.1 10 r).toInt ≤ D) ∨ (D < w ∧ (∃ r, r < n ∧ ((y.1 9 r).toInt = w ∨ (y.1 10 r).toInt = w)) ∧ ∀ r, r < n → ((y.1 9 r).toInt ≤ D ∨ w ≤ (y.1 9 r).toInt) ∧ ((y.1 10 r).toInt ≤ D ∨ w ≤ (y.1 10 r).toInt))
theorem nz_next {x y : ax_S} (hI : pz_I x y) (D : Int32) (hD : 0 ≤ D.toInt) : ∃ w, f_X7_nextDayOfNews D x = some w ∧ nz_nx y D.toInt (y.1 0 6).toNatClampNeg w.toInt := by
  obtain ⟨hsc, har, hsh, hnu, hbk, hrw, htx⟩ := hI
  have hnr : 0 ≤ (y.1 0 6).toInt ∧ (y.1 0 6).toInt ≤ 40 := ⟨hnu.2.2.2.2.2.2.2.2.1, hnu.2.2.2.2.2.2.2.2.2.1⟩
  have c6 := z_cl hnr.1
  obtain ⟨a1, a2, a3, a4, a5, a6, a7, a8, a9, a10, -⟩ := har
  have e1 : (-1 : Int32).toInt = -1 := by decide
  have key := z_inv (f := b_X7_nextDayOfNews_4 D x) (fun a => ∃ k, k ≤ (y.1 0 6).toNatClampNeg ∧ a.2 = nI k ∧ nz_nx y D.toInt k a.1.toInt) (fun w => nz_nx y D.toInt (y.1 0 6).toNatClampNeg w.toInt) (fun a => (y.1 0 6).toNatClampNeg - a.2.toNatClampNeg) (by
    rintro ⟨n, _⟩ ⟨k, hk, h1, h2⟩
    dsimp only at h1 h2
    subst h1
    have hkI : (nI k).toInt = (k : Int) := z_nI (by omega)
    have hkc := nI_cl (k := k) (by omega)
    unfold b_X7_nextDayOfNews_4
    dsimp only
    rw [hsc.2.2.2.2.2.1]
    by_cases hl : y.1 0 6 ≤ nI k
    · left
      rw [if_pos hl]
      rw [z_le, hkI] at hl
      have : k = (y.1 0 6).toNatClampNeg := by omega
      subst this
      exact ⟨n, rfl, h2⟩
    · right
      rw [if_neg hl]
      rw [z_le, hkI] at hl
      rw [z_ai (Sd := cx_C) (x := x) (a := 24) (n := 40) rfl (by omega) (by omega), Option.bind_some, pz_nearer, Option.bind_some, z_ai (Sd := cx_C) (x := x) (a := 25) (n := 40) rfl (by omega) (by omega), Option.bind_some, pz_nearer, Option.bind_some, hkc, a9, a10]
      refine ⟨_, rfl, ⟨k + 1, by omega, nI_s k, ?_⟩, ?_⟩
      · dsimp only
        have half : ∀ (n : Int32) (A : Nat → Int) (c : Int32), True → True := fun _ _ _ _ => trivial
        generalize hn1 : (if D.toInt < (y.1 9 k).toInt ∧ (n.toInt = -1 ∨ (y.1 9 k).toInt < n.toInt) then y.1 9 k else n) = n1
        have f1 : (n1.toInt = n.toInt ∧ ¬ (D.toInt < (y.1 9 k).toInt ∧ (n.toInt = -1 ∨ (y.1 9 k).toInt < n.toInt))) ∨ (n1.toInt = (y.1 9 k).toInt ∧ D.toInt < (y.1 9 k).toInt ∧ (n.toInt = -1 ∨ (y.1 9 k).toInt < n.toInt)) := by
          rw [← hn1]
          by_cases q : D.toInt < (y.1 9 k).toInt ∧ (n.toInt = -1 ∨ (y.1 9 k).toInt < n.toInt)
          · rw [if_pos q]; exact Or.inr ⟨rfl, q⟩
          · rw [if_neg q]; exact Or.inl ⟨rfl, q⟩
        generalize hn2 : (if D.toInt < (y.1 10 k).toInt ∧ (n1.toInt = -1 ∨ (y.1 10 k).toInt < n1.toInt) then y.1 10 k else n1) = n2
        have f2 : (n2.toInt = n1.toInt ∧ ¬ (D.toInt < (y.1 10 k).toInt ∧ (n1.toInt = -1 ∨ (y.1 10 k).toInt < n1.toInt))) ∨ (n2.toInt = (y.1 10 k).toInt ∧ D.toInt < (y.1 10 k).toInt ∧ (n1.toInt = -1 ∨ (y.1 10 k).toInt < n1.toInt)) := by
          rw [← hn2]
          by_cases q : D.toInt < (y.1 10 k).toInt ∧ (n1.toInt = -1 ∨ (y.1 10 k).toInt < n1.toInt)
          · rw [if_pos q]; exact Or.inr ⟨rfl, q⟩
          · rw [if_neg q]; exact Or.inl ⟨rfl, q⟩
        rcases h2 with ⟨g1, g2⟩ | ⟨g1, ⟨r0, g2, g3⟩, g4⟩
        · by_cases hz : n2.toInt = -1
          · left
            refine ⟨hz, ?_⟩
            intro r hr
            by_cases hrk : r = k
            · subst hrk; omega
            · exact g2 r (by omega)
          · right
            refine ⟨by omega, ⟨k, by omega, by omega⟩, ?_⟩
            intro r hr
            by_cases hrk : r = k
            · subst hrk; omega
            · have := g2 r (by omega); omega
        · right
          refine ⟨by omega, ?_, ?_⟩
          · by_cases hz : n2.toInt = n.toInt
            · exact ⟨r0, by omega, by omega⟩
            · exact ⟨k, by omega, by omega⟩
          · intro r hr
            by_cases hrk : r = k
            · subst hrk; omega
            · have := g4 r (by omega); omega
      · dsimp only
        rw [nI_s k, nI_cl (by omega)]
        omega)
    (a := ((-1 : Int32), (0 : Int32))) ⟨0, Nat.zero_le _, rfl, Or.inl ⟨e1, fun r hr => absurd hr (Nat.not_lt_zero r)⟩⟩
  obtain ⟨w, h1, h2⟩ := key
  refine ⟨w, ?_, h2⟩
  unfold f_X7_nextDayOfNews
  rw [h1]; rfl
theorem nz_kb_same {y : ax_S} {d e : Int32} {n : Nat} (h : ∀ r, r < n → pz_kn y d r = pz_kn y e r) : pz_kb y d n = pz_kb y e n := by
  induction n with
  | zero => rfl
  | succ n ih =>
    unfold pz_kb
    rw [ih (fun r hr => h r (by omega)), h n (by omega)]
theorem nz_kb_eR {y y' : ax_S} (h9 : y'.1 9 = y.1 9) (h10 : y'.1 10 = y.1 10) (d : Int32) (n : Nat) : pz_kb y' d n = pz_kb y d n := by
  induction n with
  | zero => rfl
  | succ n ih =>
    unfold pz_kb
    rw [ih]
    unfold pz_kn
    rw [h9, h10]
/-- what the number of a span says -/
def nz_ks (y : ax_S) (p : Nat) (B : Int64) (k : Int64) : Prop := (k = -9223372036854775808 ∧ ∀ v, ¬ nz_S y B v) ∨ ∃ lo hi : Int32, k = nz_kv lo hi ∧ (∃ v, nz_S y B v ∧ v p = hi.toInt) ∧ (∃ v, nz_S y B v ∧ v p = lo.toInt) ∧ ∀ v, nz_S y B v → lo.toInt ≤ v p ∧ v p ≤ hi.toInt
theorem nz_ks_eq {y : ax_S} {p : Nat} {B k k' : Int64} (h : nz_ks y p B k) (h' : nz_ks y p B k') : k = k' := by
  rcases h with ⟨h1, h2⟩ | ⟨lo, hi, h1, ⟨v, h2, h3⟩, ⟨u, h4, h5⟩, h6⟩ <;> rcases h' with ⟨g1, g2⟩ | ⟨lo', hi', g1, ⟨v', g2, g3⟩, ⟨u', g4, g5⟩, g6⟩
  · rw [h1, g1]
  · exact absurd g2 (h2 _)
  · exact absurd h2 (g2 _)
  · have a1 := g6 v h2
    have a2 := g6 u h4
    have a3 := h6 v' g2
    have a4 := h6 u' g4
    have e1 : lo = lo' := by rw [z_eq]; omega
    have e2 : hi = hi' := by rw [z_eq]; omega
    rw [h1, g1, e1, e2]
theorem nz_keyC {x y : ax_S} (hI : pz_I x y) {B k : Int64} {x' : ax_S} {p : Int32} (hp : 0 ≤ p.toInt ∧ p.toInt < (y.1 0 1).toInt) (h : f_X6_spanKey p B x = some (k, x')) : nz_ks y p.toNatClampNeg B k := by
  obtain ⟨fl, t, f1, r1, c1⟩ := nz_solve hI B
  obtain ⟨hsc, har, hsh, hnu, hbk, hrw, htx⟩ := hI
  have hth : (y.1 0 1).toInt ≤ 12 := hnu.2.2.2.2.2.1
  have cp := z_cl hp.1
  unfold f_X6_spanKey at h
  rw [f1, Option.bind_some] at h
  dsimp only at h
  rcases c1 with ⟨rfl, l1, s15, s16, hmm⟩ | ⟨rfl, q⟩
  · rw [if_neg pz_one] at h
    unfold f_X6_endOfThing at h
    rw [if_neg (by decide), if_pos rfl, z_ai (Sd := cx_C) (x := t) (a := 16) (n := 18) rfl hp.1 (by omega), z_ai (Sd := cx_C) (x := t) (a := 15) (n := 18) rfl hp.1 (by omega)] at h
    simp only [Option.bind_some, Option.some.injEq, Prod.mk.injEq] at h
    have a1 := s16.1 p.toNatClampNeg (by omega)
    have a2 := nz_lohi hnu hbk p.toNatClampNeg
    have e16 : nz_V 16 t p.toNatClampNeg = (t.1 16 p.toNatClampNeg).toInt := rfl
    dsimp only at a1
    have ng : (-(t.1 16 p.toNatClampNeg)).toInt = -(t.1 16 p.toNatClampNeg).toInt := z_neg (by omega)
    right
    refine ⟨_, _, h.1.symm, ⟨_, s15, rfl⟩, ⟨_, s16, ng.symm⟩, ?_⟩
    intro v hv
    have := hmm v hv p.toNatClampNeg (by omega)
    rw [ng]
    exact ⟨this.2, this.1⟩
  · rw [if_pos rfl] at h
    simp only [Option.some.injEq, Prod.mk.injEq] at h
    exact Or.inl ⟨h.1.symm, q⟩
/-- what the reference last saw -/
def nz_st (t : ax_S) (k : Int64) : Prop := (t.1 0 18 = 1 ∧ k = nz_kv (t.1 0 19) (t.1 0 20) ∧ (-200000 ≤ (t.1 0 19).toInt ∧ (t.1 0 19).toInt ≤ 200000) ∧ (-200000 ≤ (t.1 0 20).toInt ∧ (t.1 0 20).toInt ≤ 200000)) ∨ (t.1 0 18 = 0 ∧ k = -9223372036854775808 ∧ t.1 0 19 = 0 ∧ t.1 0 20 = 0)
def nz_frR (y t : ax_S) : Prop := (∀ k, k ≠ 0 → k ≠ 11 → t.1 k = y.1 k) ∧ (∀ j, j ≠ 18 → j ≠ 19 → j ≠ 20 → t.1 0 j = y.1 0 j)
theorem nz_frR_eR {y t : ax_S} (h : nz_frR y t) : pz_eR y t := ⟨⟨h.2 0 (by omega) (by omega) (by omega), h.2 1 (by omega) (by omega) (by omega), h.2 2 (by omega) (by omega) (by omega), h.2 6 (by omega) (by omega) (by omega), h.2 14 (by omega) (by omega) (by omega), h.2 30 (by omega) (by omega) (by omega), h.2 41 (by omega) (by omega) (by omega)⟩, fun k _ _ => h.1 k (by omega) (by omega), fun k _ _ => h.1 k (by omega) (by omega)⟩
theorem nz_S_frR {y t : ax_S} (h : nz_frR y t) (B : Int64) : nz_S t B = nz_S y B := by
  funext v
  unfold nz_S nz_R nz_lo nz_hi nz_ln
  rw [h.2 2 (by omega) (by omega) (by omega), h.2 6 (by omega) (by omega) (by omega), h.1 1 (by omega) (by omega), h.1 2 (by omega) (by omega), h.1 4 (by omega) (by omega), h.1 5 (by omega) (by omega), h.1 6 (by omega) (by omega), h.1 7 (by omega) (by omega), h.1 8 (by omega) (by omega)]
/-- a span by the rows of a day, on both sides -/
theorem nz_other {x y s t : ax_S} (hs : nz_fr x s) (ht : nz_frR y t) (hI : pz_I s t) {p : Int32} (hp : 0 ≤ p.toInt ∧ p.toInt < (y.1 0 1).toInt) (d : Int32) : ∃ k s' t' z, f_X6_spanKey p (pz_kb y d (y.1 0 6).toNatClampNeg) s = some (k, s') ∧ f_X10_isOther p d t = some (z, t') ∧ nz_fr x s' ∧ nz_frR y t' ∧ pz_I s' t' ∧ nz_st t' k ∧ nz_ks y p.toNatClampNeg (pz_kb y d (y.1 0 6).toNatClampNeg) k ∧ (∀ kq, nz_st t kq → (z = 0 ↔ k = kq)) := by
  have e6 : t.1 0 6 = y.1 0 6 := ht.2 6 (by omega) (by omega) (by omega)
  have e1 : t.1 0 1 = y.1 0 1 := ht.2 1 (by omega) (by omega) (by omega)
  have hkb : pz_kb t d (t.1 0 6).toNatClampNeg = pz_kb y d (y.1 0 6).toNatClampNeg := by rw [e6]; exact nz_kb_eR (ht.1 9 (by omega) (by omega)) (ht.1 10 (by omega) (by omega)) _ _
  obtain ⟨k, s', t1, fl, f1, f2, f3, f4, f5, f6⟩ := nz_key2 hI (pz_kb y d (y.1 0 6).toNatClampNeg) (p := p) (by rw [e1]; exact hp)
  have hks := nz_keyC hI (p := p) (by rw [e1]; exact hp) f1
  have hks' : nz_ks y p.toNatClampNeg (pz_kb y d (y.1 0 6).toNatClampNeg) k := by
    unfold nz_ks at hks ⊢
    rw [nz_S_frR ht] at hks
    exact hks
  have e18 : t1.1 0 18 = t.1 0 18 := by rw [f4.1 0 (by omega)]
  have e19 : t1.1 0 19 = t.1 0 19 := by rw [f4.1 0 (by omega)]
  have e20 : t1.1 0 20 = t.1 0 20 := by rw [f4.1 0 (by omega)]
  have fin : ∀ (g lo hi : Int32), (g = 0 ∨ g = 1) → (∀ kq, nz_st t kq → ((g = t.1 0 18 ∧ lo = t.1 0 19 ∧ hi = t.1 0 20) ↔ k = kq)) → nz_st (ax_ui (ax_ui (ax_ui t1 0 18 g) 0 19 lo) 0 20 hi) k → ∃ z t', j_X10_isOther_40 g lo hi t1 = some (z, t') ∧ nz_frR y t' ∧ pz_I s' t' ∧ nz_st t' k ∧ (∀ kq, nz_st t kq → (z = 0 ↔ k = kq)) := by
    intro g lo hi hg hiff hst
    have hzb : ax_zb g = some g := by rcases hg with rfl | rfl; exact z_zb0; exact z_zb1
    have hfr : nz_frR y (ax_ui (ax_ui (ax_ui t1 0 18 g) 0 19 lo) 0 20 hi) := by
      refine ⟨fun q q0 q11 => ?_, fun j j1 j2 j3 => ?_⟩
      · rw [(z_only_ui 0 _ _ _).1 q q0, (z_only_ui 0 _ _ _).1 q q0, (z_only_ui 0 _ _ _).1 q q0, f4.1 q q11]
        exact ht.1 q q0 q11
      · rw [z_ui, if_neg (by omega), z_ui, if_neg (by omega), z_ui, if_neg (by omega), f4.1 0 (by omega)]
        exact ht.2 j j1 j2 j3
    have hII : pz_I s' (ax_ui (ax_ui (ax_ui t1 0 18 g) 0 19 lo) 0 20 hi) := by
      refine pz_fr f5 (pz_eC_rf _) ⟨⟨?_, ?_, ?_, ?_, ?_, ?_, ?_⟩, fun q q1 q2 => ?_, fun q q1 q2 => ?_⟩
      all_goals first | (rw [z_ui, if_neg (by omega), z_ui, if_neg (by omega), z_ui, if_neg (by omega)]) | (rw [(z_only_ui 0 _ _ _).1 q (by omega), (z_only_ui 0 _ _ _).1 q (by omega), (z_only_ui 0 _ _ _).1 q (by omega)])
    unfold j_X10_isOther_40 j_X10_isOther_68 j_X10_isOther_73
    rw [hzb, z_zb1, z_zb0, e18, e19, e20]
    simp only [Option.bind_some]
    by_cases q1 : g = t.1 0 18
    · rw [if_pos q1]
      by_cases q2 : lo = t.1 0 19
      · rw [if_pos q2]
        by_cases q3 : hi = t.1 0 20
        · rw [if_pos q3]
          exact ⟨0, _, rfl, hfr, hII, hst, fun kq hk => ⟨fun _ => (hiff kq hk).mp ⟨q1, q2, q3⟩, fun _ => rfl⟩⟩
        · rw [if_neg q3]
          exact ⟨1, _, rfl, hfr, hII, hst, fun kq hk => ⟨fun q => absurd q pz_one, fun q => absurd ((hiff kq hk).mpr q).2.2 q3⟩⟩
      · rw [if_neg q2]
        exact ⟨1, _, rfl, hfr, hII, hst, fun kq hk => ⟨fun q => absurd q pz_one, fun q => absurd ((hiff kq hk).mpr q).2.1 q2⟩⟩
    · rw [if_neg q1]
      exact ⟨1, _, rfl, hfr, hII, hst, fun kq hk => ⟨fun q => absurd q pz_one, fun q => absurd ((hiff kq hk).mpr q).1 q1⟩⟩
  have v18 : ∀ g lo hi : Int32, (ax_ui (ax_ui (ax_ui t1 0 18 g) 0 19 lo) 0 20 hi).1 0 18 = g := by
    intro g lo hi
    rw [z_ui, if_neg (by omega), z_ui, if_neg (by omega), z_ui, if_pos ⟨rfl, rfl⟩]
  have v19 : ∀ g lo hi : Int32, (ax_ui (ax_ui (ax_ui t1 0 18 g) 0 19 lo) 0 20 hi).1 0 19 = lo := by
    intro g lo hi
    rw [z_ui, if_neg (by omega), z_ui, if_pos ⟨rfl, rfl⟩]
  have v20 : ∀ g lo hi : Int32, (ax_ui (ax_ui (ax_ui t1 0 18 g) 0 19 lo) 0 20 hi).1 0 20 = hi := by
    intro g lo hi
    rw [z_ui, if_pos ⟨rfl, rfl⟩]
  have hun : f_X10_isOther p d t = (if fl = 0 then j_X10_isOther_24 p fl 0 t1 else (f_X10_endOf p 0 t1).bind (fun q17 => j_X10_isOther_24 p fl q17 t1)) := by
    unfold f_X10_isOther
    rw [pz_knownR hI.2.2.2.1, Option.bind_some, hkb, f2, Option.bind_some]
  rcases f6 with ⟨rfl, -, lo, hi, l1, l2, rfl, l3, l4⟩ | ⟨rfl, rfl, -⟩
  · obtain ⟨z, t', g1, g2, g3, g4, g5⟩ := fin 1 lo hi (Or.inr rfl) (by
      intro kq hk
      rcases hk with ⟨k1, k2, k3, k4⟩ | ⟨k1, k2, k3, k4⟩
      · rw [k2, nz_kv_inj l3 l4 k3 k4, k1]
        constructor
        · rintro ⟨-, q⟩; exact q
        · intro q; exact ⟨rfl, q⟩
      · rw [k1, k2]
        constructor
        · rintro ⟨q, -⟩; exact absurd q pz_one
        · intro q; exact absurd q (nz_kv_ne l3 l4)) (by
      left
      rw [v18, v19, v20]
      exact ⟨rfl, rfl, l3, l4⟩)
    refine ⟨_, s', t', z, f1, ?_, nz_fr_tr hs f3, g2, g3, g4, hks', g5⟩
    rw [hun, if_neg pz_one, l1, Option.bind_some]
    unfold j_X10_isOther_24
    rw [if_neg pz_one, l2, Option.bind_some, g1]
  · obtain ⟨z, t', g1, g2, g3, g4, g5⟩ := fin 0 0 0 (Or.inl rfl) (by
      intro kq hk
      rcases hk with ⟨k1, k2, k3, k4⟩ | ⟨k1, k2, k3, k4⟩
      · rw [k2, k1]
        constructor
        · rintro ⟨q, -⟩; exact absurd q.symm pz_one
        · intro q; exact absurd q.symm (nz_kv_ne k3 k4)
      · rw [k1, k2, k3, k4]; simp) (by
      right
      rw [v18, v19, v20]
      exact ⟨rfl, rfl, rfl, rfl⟩)
    refine ⟨_, s', t', z, f1, ?_, nz_fr_tr hs f3, g2, g3, g4, hks', g5⟩
    rw [hun, if_pos rfl]
    unfold j_X10_isOther_24
    rw [if_pos rfl, g1]

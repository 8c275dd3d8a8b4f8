/-! the net: whether rows can be; from when to when -/
theorem nz_sat_pot {G : Nat → Nat × Nat × Int} {N : Nat} {f : Nat → Int} (h : nz_sat G N f) (hends : ∀ e, e < N → (G e).1 < 18 ∧ (G e).2.1 < 18) (hU : ∀ m, m < 18 → f m ≠ nz_U) : nz_pot G N f := fun e he => h e he (hU _ (hends e he).1)
theorem nz_canHold {x y : ax_S} (hI : pz_I x y) (B : Int64) : ∃ fl t, f_X6_canHold B x = some (fl, t) ∧ nz_Ld t y B ∧ nz_fr x t ∧
    ((fl = 1 ∧ nz_S y B (nz_V 15 t) ∧ ∀ v, nz_S y B v → ∀ m, m < 18 → v m ≤ nz_V 15 t m) ∨ (fl = 0 ∧ ∀ v, ¬ nz_S y B v)) := by
  obtain ⟨t1, f1, l1, r1⟩ := nz_load hI B
  obtain ⟨hsc, har, hsh, hnu, hbk, hrw, htx⟩ := hI
  obtain ⟨t2, f2, o2, v2⟩ := nz_cp (p := 14) (q := 15) rfl rfl t1
  have l2 := nz_Ld_only (by omega) o2 l1
  have hV2 : ∀ m, m < 18 → nz_V 15 t2 m = nz_hi y m := by
    intro m hm
    show (t2.1 15 m).toInt = _
    rw [v2 m hm]
    exact (l1.2.2 m hm).2
  have hU : nz_U = 1000000000 := rfl
  obtain ⟨fl, t3, f3, o3, d3, b3, p3, c3⟩ := nz_settle (p := 15) rfl (by omega) 1 l2.1 (by
    intro m hm
    rw [hV2 m hm]
    have := nz_lohi hnu hbk m
    omega) (by
    intro m hm
    rw [hV2 m hm]
    have := nz_lohi hnu hbk m
    omega)
  have l3 := nz_Ld_only (by omega) o3 l2
  have fr3 : nz_fr x t3 := nz_fr_tr r1 (nz_fr_tr (nz_fr_only (by omega) (by omega) o2) (nz_fr_only (by omega) (by omega) o3))
  have hup : ∀ m, m < 18 → nz_V 15 t3 m ≤ nz_hi y m := by
    intro m hm
    have := d3 m
    rw [hV2 m hm] at this
    exact this
  have hne : ∀ m, m < 18 → nz_V 15 t3 m ≠ nz_U := by
    intro m hm
    have := hup m hm
    have := nz_lohi hnu hbk m
    omega
  have hbound : ∀ v, nz_S y B v → ∀ m, m < 18 → v m ≤ nz_V 15 t3 m := by
    intro v hv m hm
    refine p3 v ((nz_pot1 l2 v).mpr hv.2) ?_ m hm (hne m hm)
    intro m hm _
    rw [hV2 m hm]
    exact (hv.1 m hm).2
  unfold f_X6_canHold
  rw [f1, Option.bind_some, f2, Option.bind_some, f3, Option.bind_some]
  dsimp only
  rcases c3 with ⟨q1, q2⟩ | ⟨q1, q2⟩
  case inr =>
    rw [if_pos q1]
    refine ⟨0, t3, rfl, l3, fr3, Or.inr ⟨rfl, ?_⟩⟩
    intro v hv
    exact q2 v ((nz_pot1 l2 v).mpr hv.2)
  rw [if_neg (by rw [q1]; decide)]
  have hpot := nz_sat_pot q2 (nz_N_e l2.1 1) hne
  have hR : nz_R y B (nz_V 15 t3) := (nz_pot1 l2 _).mp hpot
  have key := z_inv (f := b_X6_canHold_36 t3) (fun a => ∃ k, k ≤ 18 ∧ a = nI k ∧ ∀ m, m < k → nz_lo y m ≤ nz_V 15 t3 m)
    (fun e => ∃ g, (Sum.elim (fun e36 => some (((1 : Int32), t3))) (fun r => some (r)) e : Option (Int32 × ax_S)) = some (g, t3) ∧ ((g = 1 ∧ ∀ m, m < 18 → nz_lo y m ≤ nz_V 15 t3 m) ∨ (g = 0 ∧ ∃ m, m < 18 ∧ nz_V 15 t3 m < nz_lo y m)))
    (fun a => 18 - a.toNatClampNeg) (by
    rintro i ⟨k, hk, h1, h2⟩
    subst h1
    have hkI : (nI k).toInt = (k : Int) := z_nI (by omega)
    have hkc := nI_cl (k := k) (by omega)
    unfold b_X6_canHold_36
    by_cases hl : (18 : Int32) ≤ nI k
    · left
      rw [if_pos hl]
      rw [z_le, hkI] at hl
      simp only [Int32.reduceToInt] at hl
      exact ⟨_, rfl, 1, rfl, Or.inl ⟨rfl, fun m hm => h2 m (by omega)⟩⟩
    · rw [if_neg hl]
      rw [z_le, hkI] at hl
      simp only [Int32.reduceToInt] at hl
      rw [z_ai (Sd := cx_C) (x := t3) (a := 15) (n := 18) rfl (by omega) (by omega), Option.bind_some, z_ai (Sd := cx_C) (x := t3) (a := 13) (n := 18) rfl (by omega) (by omega), Option.bind_some, hkc]
      have e13 : (t3.1 13 k).toInt = nz_lo y k := (l3.2.2 k (by omega)).1
      by_cases hc : t3.1 13 k ≤ t3.1 15 k
      · right
        rw [if_pos hc]
        rw [z_le, e13] at hc
        refine ⟨_, rfl, ⟨k + 1, by omega, nI_s k, ?_⟩, ?_⟩
        · intro m hm
          by_cases hmk : m = k
          · subst hmk; exact hc
          · exact h2 m (by omega)
        · rw [nI_s k, nI_cl (by omega)]
          omega
      · left
        rw [if_neg hc]
        rw [z_le, e13] at hc
        refine ⟨_, rfl, 0, rfl, Or.inr ⟨rfl, k, by omega, ?_⟩⟩
        show (t3.1 15 k).toInt < _
        omega)
    (a := (0 : Int32)) ⟨0, Nat.zero_le _, rfl, fun m hm => absurd hm (Nat.not_lt_zero m)⟩
  obtain ⟨e, k1, g, k2, k3⟩ := key
  refine ⟨g, t3, ?_, l3, fr3, ?_⟩
  · rw [k1, Option.bind_some, k2]
  · rcases k3 with ⟨w1, w2⟩ | ⟨w1, m, w2, w3⟩
    · left
      exact ⟨w1, ⟨fun m hm => ⟨w2 m hm, hup m hm⟩, hR⟩, hbound⟩
    · right
      refine ⟨w1, ?_⟩
      intro v hv
      have h1 := hbound v hv m w2
      have h2 := (hv.1 m w2).1
      omega
theorem nz_turn {p : Nat} (hp : ax_len cx_C 1 p = some 18) (h13 : p ≠ 13) {s : ax_S} (hlo : ∀ m, m < 18 → -200000 ≤ nz_V 13 s m ∧ nz_V 13 s m ≤ 200000) : ∃ t, f_X6_turnFloorInto p s = some t ∧ z_only p s t ∧ ∀ m, m < 18 → nz_V p t m = -nz_V 13 s m := by
  have key := z_inv (f := b_X6_turnFloorInto_2 p) (fun a => ∃ k, k ≤ 18 ∧ a.1 = nI k ∧ z_only p s a.2 ∧ ∀ m, m < k → nz_V p a.2 m = -nz_V 13 s m)
    (fun t => z_only p s t ∧ ∀ m, m < 18 → nz_V p t m = -nz_V 13 s m) (fun a => 18 - a.1.toNatClampNeg) (by
    rintro ⟨i, t⟩ ⟨k, hk, h1, h2, h3⟩
    dsimp only at h1 h2 h3
    subst h1
    have hkI : (nI k).toInt = (k : Int) := z_nI (by omega)
    have hkc := nI_cl (k := k) (by omega)
    unfold b_X6_turnFloorInto_2
    dsimp only
    by_cases hl : (18 : Int32) ≤ nI k
    · left
      rw [if_pos hl]
      rw [z_le, hkI] at hl
      simp only [Int32.reduceToInt] at hl
      exact ⟨t, rfl, h2, fun m hm => h3 m (by omega)⟩
    · right
      rw [if_neg hl]
      rw [z_le, hkI] at hl
      simp only [Int32.reduceToInt] at hl
      rw [z_ai (Sd := cx_C) (x := t) (a := 13) (n := 18) rfl (by omega) (by omega), Option.bind_some, z_si (x := t) hp (by omega) (by omega), Option.bind_some, hkc]
      have e13 : (t.1 13 k).toInt = nz_V 13 s k := by
        rw [h2.1 13 (by omega)]; rfl
      have hb := hlo k (by omega)
      have ng : (-(t.1 13 k)).toInt = -(t.1 13 k).toInt := z_neg (by omega)
      refine ⟨_, rfl, ⟨k + 1, by omega, nI_s k, z_only_tr h2 (z_only_ui _ _ _ _), ?_⟩, ?_⟩
      · intro m hm
        dsimp only
        rw [nz_V_ui]
        dsimp only
        by_cases q : m = k
        · rw [if_pos q, ng, e13, q]
        · rw [if_neg q]
          exact h3 m (by omega)
      · dsimp only
        rw [nI_s k, nI_cl (by omega)]
        omega)
    (a := ((0 : Int32), s)) ⟨0, Nat.zero_le _, rfl, z_only_rf p s, fun m hm => absurd hm (Nat.not_lt_zero m)⟩
  obtain ⟨t, h1, h2, h3⟩ := key
  refine ⟨t, ?_, h2, h3⟩
  unfold f_X6_turnFloorInto
  rw [h1]; rfl
/-- solved: the greatest and the least -/
def nz_Sol (t y : ax_S) (B : Int64) : Prop := nz_Ld t y B ∧ nz_S y B (nz_V 15 t) ∧ nz_S y B (fun m => -nz_V 16 t m) ∧ ∀ v, nz_S y B v → ∀ m, m < 18 → v m ≤ nz_V 15 t m ∧ -nz_V 16 t m ≤ v m
theorem nz_solve {x y : ax_S} (hI : pz_I x y) (B : Int64) : ∃ fl t, f_X6_solve B x = some (fl, t) ∧ nz_fr x t ∧ ((fl = 1 ∧ nz_Sol t y B) ∨ (fl = 0 ∧ ∀ v, ¬ nz_S y B v)) := by
  obtain ⟨g, t1, f1, l1, r1, c1⟩ := nz_canHold hI B
  obtain ⟨hsc, har, hsh, hnu, hbk, hrw, htx⟩ := hI
  unfold f_X6_solve
  rw [f1, Option.bind_some]
  dsimp only
  rcases c1 with ⟨q1, q2, q3⟩ | ⟨q1, q2⟩
  case inr =>
    rw [if_pos q1]
    exact ⟨0, t1, rfl, r1, Or.inr ⟨rfl, q2⟩⟩
  rw [if_neg (by rw [q1]; decide)]
  have hU : nz_U = 1000000000 := rfl
  obtain ⟨t2, f2, o2, v2⟩ := nz_turn (p := 16) rfl (by omega) (s := t1) (by
    intro m hm
    rw [(l1.2.2 m hm).1]
    have := nz_lohi hnu hbk m
    omega)
  have l2 := nz_Ld_only (by omega) o2 l1
  have hV2 : ∀ m, m < 18 → nz_V 16 t2 m = -nz_lo y m := by
    intro m hm
    rw [v2 m hm, (l1.2.2 m hm).1]
  obtain ⟨fl, t3, f3, o3, d3, b3, p3, c3⟩ := nz_settle (p := 16) rfl (by omega) 0 l2.1 (by
    intro m hm
    rw [hV2 m hm]
    have := nz_lohi hnu hbk m
    omega) (by
    intro m hm
    rw [hV2 m hm]
    have := nz_lohi hnu hbk m
    omega)
  have l3 := nz_Ld_only (by omega) o3 l2
  have fr3 : nz_fr x t3 := nz_fr_tr r1 (nz_fr_tr (nz_fr_only (by omega) (by omega) o2) (nz_fr_only (by omega) (by omega) o3))
  have e15 : nz_V 15 t3 = nz_V 15 t1 := by
    unfold nz_V
    rw [o3.1 15 (by omega), o2.1 15 (by omega)]
  have hup : ∀ m, m < 18 → nz_V 16 t3 m ≤ -nz_lo y m := by
    intro m hm
    have := d3 m
    rw [hV2 m hm] at this
    exact this
  have hne : ∀ m, m < 18 → nz_V 16 t3 m ≠ nz_U := by
    intro m hm
    have := hup m hm
    have := nz_lohi hnu hbk m
    omega
  have hbound : ∀ v, nz_S y B v → ∀ m, m < 18 → -nz_V 16 t3 m ≤ v m := by
    intro v hv m hm
    have := p3 (fun m => -v m) ((nz_pot0 l2 v).mpr hv.2) (by
      intro m hm _
      rw [hV2 m hm]
      have := (hv.1 m hm).1
      show -v m ≤ _
      omega) m hm (hne m hm)
    skip
    omega
  rw [f2, Option.bind_some, f3, Option.bind_some]
  dsimp only
  rcases c3 with ⟨w1, w2⟩ | ⟨w1, w2⟩
  case inr => exact absurd ((nz_pot0 l2 _).mpr q2.2) (w2 _)
  refine ⟨1, t3, ?_, fr3, Or.inl ⟨rfl, l3, ?_, ?_, ?_⟩⟩
  · rw [w1, z_zb1]; rfl
  · rw [e15]; exact q2
  · have hpot := nz_sat_pot w2 (nz_N_e l2.1 0) hne
    have hR : nz_R y B (fun m => -nz_V 16 t3 m) := by
      refine (nz_pot0 l2 _).mp ?_
      have : (fun m => -(fun m => -nz_V 16 t3 m) m) = nz_V 16 t3 := by
        funext m
        show - -nz_V 16 t3 m = _
        omega
      rw [this]
      exact hpot
    refine ⟨fun m hm => ?_, hR⟩
    have h1 := hup m hm
    have h2 := hbound _ q2 m hm
    have h3 := (q2.1 m hm).2
    dsimp only
    omega
  · intro v hv m hm
    refine ⟨?_, hbound v hv m hm⟩
    rw [e15]
    exact q3 v hv m hm
/-- the most that one is behind another -/
def nz_mx (y : ax_S) (B : Int64) (a b : Nat) (w : Int) : Prop := (∃ v, nz_S y B v ∧ v b - v a = w) ∧ ∀ v, nz_S y B v → v b - v a ≤ w
theorem nz_mx_eq {y : ax_S} {B : Int64} {a b : Nat} {w w' : Int} (h : nz_mx y B a b w) (h' : nz_mx y B a b w') : w = w' := by
  obtain ⟨⟨v, h1, h2⟩, h3⟩ := h
  obtain ⟨⟨v', h1', h2'⟩, h3'⟩ := h'
  have := h3 v' h1'
  have := h3' v h1
  omega
theorem nz_measure {t y : ax_S} {B : Int64} (hnu : pz_nu y) (hbk : pz_bk y) (hS : nz_Sol t y B) {a : Int32} (ha : 0 ≤ a.toInt ∧ a.toInt < 18) :
    ∃ t', f_X6_measureFrom a t = some t' ∧ z_only 17 t t' ∧ ∀ b : Int32, 0 ≤ b.toInt → b.toInt < 18 → ∃ w, f_X6_mostBehind a b t' = some w ∧ nz_mx y B a.toNatClampNeg b.toNatClampNeg w.toInt := by
  obtain ⟨l1, s15, s16, hmm⟩ := hS
  have hU : nz_U = 1000000000 := rfl
  have ca := z_cl ha.1
  obtain ⟨t1, f1, o1, v1⟩ := nz_fill (p := 17) (n := 18) rfl (by omega) (1000000000 : Int32) t
  have o2 : z_only 17 t1 (ax_ui t1 17 a.toNatClampNeg 0) := z_only_ui _ _ _ _
  have l2 := nz_Ld_only (by omega) (z_only_tr o1 o2) l1
  have hV2 : ∀ m, m < 18 → nz_V 17 (ax_ui t1 17 a.toNatClampNeg 0) m = if m = a.toNatClampNeg then 0 else nz_U := by
    intro m hm
    rw [nz_V_ui]
    dsimp only
    by_cases q : m = a.toNatClampNeg
    · rw [if_pos q, if_pos q]; rfl
    · rw [if_neg q, if_neg q]
      show (t1.1 17 m).toInt = _
      rw [v1 m hm]; decide
  obtain ⟨fl, t3, f3, o3, d3, b3, p3, c3⟩ := nz_settle (p := 17) (s := ax_ui t1 17 a.toNatClampNeg 0) rfl (by omega) 1 l2.1 (by
    intro m hm
    rw [hV2 m hm]
    split <;> omega) (by
    intro m hm
    rw [hV2 m hm]
    split <;> omega)
  have hlo := nz_lohi hnu hbk
  have l3 := nz_Ld_only (by omega) o3 l2
  have o13 : z_only 17 t t3 := z_only_tr o1 (z_only_tr o2 o3)
  have e15 : nz_V 15 t3 = nz_V 15 t := by unfold nz_V; rw [o13.1 15 (by omega)]
  have e16 : nz_V 16 t3 = nz_V 16 t := by unfold nz_V; rw [o13.1 16 (by omega)]
  have hsat : nz_sat (nz_G (ax_ui t1 17 a.toNatClampNeg 0) 1) (2 * nz_n (ax_ui t1 17 a.toNatClampNeg 0)) (nz_V 17 t3) := by
    rcases c3 with ⟨-, q⟩ | ⟨-, q⟩
    · exact q
    · exact absurd ((nz_pot1 l2 _).mpr s15.2) (q _)
  have hbd : ∀ v, nz_R y B v → ∀ m, m < 18 → nz_V 17 t3 m ≠ nz_U → v m - v a.toNatClampNeg ≤ nz_V 17 t3 m := by
    intro v hv m hm hne
    refine p3 (fun m => v m - v a.toNatClampNeg) ?_ ?_ m hm hne
    · have hp := (nz_pot1 l2 v).mpr hv
      intro e he
      have := hp e he
      dsimp only
      omega
    · intro m hm hne
      rw [hV2 m hm] at hne ⊢
      by_cases q : m = a.toNatClampNeg
      · rw [if_pos q, q]; omega
      · rw [if_neg q] at hne; exact absurd rfl hne
  have hda : nz_V 17 t3 a.toNatClampNeg ≤ 0 := by
    have := d3 a.toNatClampNeg
    rw [hV2 _ (by omega), if_pos rfl] at this
    exact this
  have hda2 : nz_V 17 t3 a.toNatClampNeg = 0 := by
    have := hbd _ s15.2 a.toNatClampNeg (by omega) (by omega)
    omega
  have ha15 := s15.1 a.toNatClampNeg (by omega)
  have ha16 := s16.1 a.toNatClampNeg (by omega)
  have haa := hlo a.toNatClampNeg
  have hord := (hmm _ s16 a.toNatClampNeg (by omega)).1
  dsimp only at hord ha16
  -- the days at which it is so far behind
  have hw : nz_S y B (fun n => if -nz_V 16 t a.toNatClampNeg + nz_V 17 t3 n < nz_V 15 t n then -nz_V 16 t a.toNatClampNeg + nz_V 17 t3 n else nz_V 15 t n) := by
    refine ⟨?_, ?_⟩
    · intro m hm
      have h1 := s15.1 m hm
      have h2 := s16.1 m hm
      dsimp only at h2 ⊢
      split
      · refine ⟨?_, by omega⟩
        by_cases hne : nz_V 17 t3 m = nz_U
        · rw [hne]
          have := hlo m
          omega
        · have := hbd _ s16.2 m hm hne
          skip
          omega
      · exact h1
    · refine (nz_pot1 l2 _).mp ?_
      intro e he
      have hp := (nz_pot1 l2 _).mpr s15.2 e he
      have hq := hsat e he
      obtain ⟨g1, g2⟩ := nz_N_e l2.1 1 e he
      have h1 := s15.1 _ g1
      have h2 := hlo (nz_G (ax_ui t1 17 a.toNatClampNeg 0) 1 e).1
      dsimp only
      by_cases hne : nz_V 17 t3 (nz_G (ax_ui t1 17 a.toNatClampNeg 0) 1 e).1 = nz_U
      · have c : ¬ (-nz_V 16 t a.toNatClampNeg + nz_V 17 t3 (nz_G (ax_ui t1 17 a.toNatClampNeg 0) 1 e).1 < nz_V 15 t (nz_G (ax_ui t1 17 a.toNatClampNeg 0) 1 e).1) := by rw [hne]; omega
        rw [if_neg c]
        split <;> omega
      · have := hq hne
        split <;> split <;> omega
  refine ⟨t3, ?_, o13, ?_⟩
  · unfold f_X6_measureFrom
    rw [f1, Option.bind_some, z_si (x := t1) (a := 17) (n := 18) rfl ha.1 (by omega), Option.bind_some, f3]; rfl
  · intro b hb0 hb1
    have cb := z_cl hb0
    have hb15 := s15.1 b.toNatClampNeg (by omega)
    have hbb := hlo b.toNatClampNeg
    have hs : (t3.1 15 b.toNatClampNeg + t3.1 16 a.toNatClampNeg).toInt = nz_V 15 t b.toNatClampNeg + nz_V 16 t a.toNatClampNeg := by
      have h1 : (t3.1 15 b.toNatClampNeg).toInt = nz_V 15 t b.toNatClampNeg := congrFun e15 _
      have h2 : (t3.1 16 a.toNatClampNeg).toInt = nz_V 16 t a.toNatClampNeg := congrFun e16 _
      rw [z_add (by omega) (by omega), h1, h2]
    refine ⟨ax_min (t3.1 17 b.toNatClampNeg) (t3.1 15 b.toNatClampNeg + t3.1 16 a.toNatClampNeg), ?_, ?_⟩
    · unfold f_X6_mostBehind
      rw [z_ai (Sd := cx_C) (x := t3) (a := 15) (n := 18) rfl hb0 (by omega), Option.bind_some, z_ai (Sd := cx_C) (x := t3) (a := 16) (n := 18) rfl ha.1 (by omega), Option.bind_some, z_ai (Sd := cx_C) (x := t3) (a := 17) (n := 18) rfl hb0 (by omega), Option.bind_some]
    · have hval : (ax_min (t3.1 17 b.toNatClampNeg) (t3.1 15 b.toNatClampNeg + t3.1 16 a.toNatClampNeg)).toInt = if nz_V 15 t b.toNatClampNeg + nz_V 16 t a.toNatClampNeg < nz_V 17 t3 b.toNatClampNeg then nz_V 15 t b.toNatClampNeg + nz_V 16 t a.toNatClampNeg else nz_V 17 t3 b.toNatClampNeg := by
        unfold ax_min
        by_cases hc : t3.1 15 b.toNatClampNeg + t3.1 16 a.toNatClampNeg < t3.1 17 b.toNatClampNeg
        · rw [if_pos hc]
          rw [z_lt, hs] at hc
          rw [if_pos (show nz_V 15 t b.toNatClampNeg + nz_V 16 t a.toNatClampNeg < nz_V 17 t3 b.toNatClampNeg from hc)]
          exact hs
        · rw [if_neg hc]
          rw [z_lt, hs] at hc
          rw [if_neg (show ¬ nz_V 15 t b.toNatClampNeg + nz_V 16 t a.toNatClampNeg < nz_V 17 t3 b.toNatClampNeg from hc)]
          rfl
      rw [hval]
      refine ⟨⟨_, hw, ?_⟩, ?_⟩
      · rw [hda2]
        split <;> split <;> split <;> omega
      · intro v hv
        have h1 := hmm v hv b.toNatClampNeg (by omega)
        have h2 := hmm v hv a.toNatClampNeg (by omega)
        split
        · omega
        · by_cases hne : nz_V 17 t3 b.toNatClampNeg = nz_U
          · rw [hne]
            have := hv.1 a.toNatClampNeg (by omega)
            have := hv.1 b.toNatClampNeg (by omega)
            omega
          · exact hbd v hv.2 _ (by omega) hne

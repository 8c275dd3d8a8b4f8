/-! the net: the class's sweeps -/
theorem nz_sw_low18 {G : Nat → Nat × Nat × Int} {N : Nat} {f : Nat → Int} {W B : Int} (hw : ∀ e, e < N → -W ≤ (G e).2.2) (hends : ∀ e, e < N → (G e).1 < 18 ∧ (G e).2.1 < 18) (hW : 0 ≤ W) (h : ∀ m, m < 18 → B ≤ f m) : ∀ k : Nat, k ≤ N → ∀ m, m < 18 → B - W * k ≤ nz_sw G f k m := by
  intro k
  induction k with
  | zero => intro _ m hm; have := h m hm; show _ ≤ f m; simp; omega
  | succ k ih =>
    intro hk m hm18
    have ih := ih (by omega)
    have hm := ih m hm18
    have ha := ih (G k).1 (hends k (by omega)).1
    have hwk := hw k (by omega)
    have e1 : W * ((k + 1 : Nat) : Int) = W * k + W := by
      rw [Int.natCast_add, Int.mul_add]; simp
    show _ ≤ nz_rl (nz_sw G f k) (G k) m
    by_cases ho : nz_ok (nz_sw G f k) (G k)
    · rw [nz_rl_ok ho]; omega
    · obtain ⟨o1, o2, o3⟩ := nz_rl_not ho
      rw [o3]
      by_cases hmb : m = (G k).2.1
      · simp only [hmb, if_true]; omega
      · simp only [hmb, if_false]; omega
def z_only (p : Nat) (s s' : ax_S) : Prop := (∀ k, k ≠ p → s'.1 k = s.1 k) ∧ s'.2 = s.2
theorem z_only_rf (p : Nat) (s : ax_S) : z_only p s s := ⟨fun _ _ => rfl, rfl⟩
theorem z_only_tr {p : Nat} {a b c : ax_S} (h : z_only p a b) (h' : z_only p b c) : z_only p a c := ⟨fun k hk => (h'.1 k hk).trans (h.1 k hk), h'.2.trans h.2⟩
theorem z_only_ui (p j : Nat) (v : Int32) (s : ax_S) : z_only p s (ax_ui s p j v) := by
  refine ⟨fun k hk => ?_, rfl⟩
  funext i
  rw [z_ui, if_neg (fun q => hk q.1)]
def nz_V (p : Nat) (s : ax_S) : Nat → Int := fun m => (s.1 p m).toInt
theorem nz_V_ui (p j : Nat) (v : Int32) (s : ax_S) : nz_V p (ax_ui s p j v) = fun m => if m = j then v.toInt else nz_V p s m := by
  funext m
  show ((ax_ui s p j v).1 p m).toInt = _
  rw [z_ui]
  by_cases h : m = j
  · rw [if_pos ⟨rfl, h⟩, if_pos h]
  · rw [if_neg (fun q => h q.2), if_neg h]; rfl
/-- one row's step: taken, or not -/
theorem nz_one {p : Nat} (hp : ax_len cx_C 1 p = some 18) {t : ax_S} {a b w : Int32} (ha : 0 ≤ a.toInt ∧ a.toInt < 18) (hb : 0 ≤ b.toInt ∧ b.toInt < 18) (hw : -200000 ≤ w.toInt ∧ w.toInt ≤ 200000)
    (hv : -1500000000 ≤ nz_V p t a.toNatClampNeg ∧ nz_V p t a.toNatClampNeg ≤ 1000000000) {γ : Type} (k1 : Option γ) (k2 : ax_S → Option γ) :
    ∃ t', z_only p t t' ∧ nz_V p t' = nz_rl (nz_V p t) (a.toNatClampNeg, b.toNatClampNeg, w.toInt) ∧
      ((nz_V p t' = nz_V p t ∧ t' = t ∧ (ax_ai cx_C t p a).bind (fun v83 => (if v83 = (1000000000 : Int32) then k1 else (ax_ai cx_C t p a).bind (fun v92 => (ax_ai cx_C t p b).bind (fun v99 => (if v99 ≤ (v92 + w) then k1 else (ax_ai cx_C t p a).bind (fun v109 => (ax_si cx_C t p b (v109 + w)).bind k2)))))) = k1)
      ∨ (nz_V p t' ≠ nz_V p t ∧ (ax_ai cx_C t p a).bind (fun v83 => (if v83 = (1000000000 : Int32) then k1 else (ax_ai cx_C t p a).bind (fun v92 => (ax_ai cx_C t p b).bind (fun v99 => (if v99 ≤ (v92 + w) then k1 else (ax_ai cx_C t p a).bind (fun v109 => (ax_si cx_C t p b (v109 + w)).bind k2)))))) = k2 t')) := by
  have ea := z_ai (x := t) hp ha.1 (show a.toInt < (18 : Nat) by omega)
  have eb := z_ai (x := t) hp hb.1 (show b.toInt < (18 : Nat) by omega)
  have hva : nz_V p t a.toNatClampNeg = (t.1 p a.toNatClampNeg).toInt := rfl
  have hvb : nz_V p t b.toNatClampNeg = (t.1 p b.toNatClampNeg).toInt := rfl
  have hs : (t.1 p a.toNatClampNeg + w).toInt = (t.1 p a.toNatClampNeg).toInt + w.toInt := z_add (by omega) (by omega)
  by_cases ho : nz_ok (nz_V p t) (a.toNatClampNeg, b.toNatClampNeg, w.toInt)
  · refine ⟨t, z_only_rf p t, (nz_rl_ok ho).symm, Or.inl ⟨rfl, rfl, ?_⟩⟩
    rw [ea, Option.bind_some]
    by_cases hU : t.1 p a.toNatClampNeg = (1000000000 : Int32)
    · rw [if_pos hU]
    · rw [if_neg hU, Option.bind_some, eb, Option.bind_some]
      have h1 := ho (by
        show nz_V p t a.toNatClampNeg ≠ nz_U
        intro q
        apply hU
        rw [z_eq, ← hva, q]
        decide)
      have h2 : t.1 p b.toNatClampNeg ≤ t.1 p a.toNatClampNeg + w := by
        rw [z_le, hs]
        exact h1
      rw [if_pos h2]
  · obtain ⟨o1, o2, o3⟩ := nz_rl_not ho
    have hU : ¬ t.1 p a.toNatClampNeg = (1000000000 : Int32) := by
      intro q
      apply o1
      show (t.1 p a.toNatClampNeg).toInt = nz_U
      rw [q]; decide
    have h2 : ¬ t.1 p b.toNatClampNeg ≤ t.1 p a.toNatClampNeg + w := by
      rw [z_le, hs]
      have : nz_V p t a.toNatClampNeg + w.toInt < nz_V p t b.toNatClampNeg := o2
      omega
    have e3 : nz_V p (ax_ui t p b.toNatClampNeg (t.1 p a.toNatClampNeg + w)) = nz_rl (nz_V p t) (a.toNatClampNeg, b.toNatClampNeg, w.toInt) := by
      rw [o3, nz_V_ui, hs]; rfl
    refine ⟨ax_ui t p b.toNatClampNeg (t.1 p a.toNatClampNeg + w), z_only_ui _ _ _ _, e3, Or.inr ⟨?_, ?_⟩⟩
    · rw [e3]; exact nz_rl_ne ho
    · rw [ea, Option.bind_some, if_neg hU, Option.bind_some, eb, Option.bind_some, if_neg h2, Option.bind_some, z_si (x := t) hp hb.1 (show b.toInt < (18 : Nat) by omega), Option.bind_some]
theorem nz_rl2_ne {f : Nat → Int} {e e' : Nat × Nat × Int} (h : nz_rl f e ≠ f) : nz_rl (nz_rl f e) e' ≠ f := by
  intro q
  apply h
  funext m
  have h1 := nz_rl_le f e m
  have h2 := nz_rl_le (nz_rl f e) e' m
  rw [q] at h2
  omega
theorem nz_j116 {p : Nat} (hp : ax_len cx_C 1 p = some 18) {t : ax_S} {a b w l2 l3 l4 : Int32} (ha : 0 ≤ a.toInt ∧ a.toInt < 18) (hb : 0 ≤ b.toInt ∧ b.toInt < 18) (hw : -200000 ≤ w.toInt ∧ w.toInt ≤ 200000)
    (hv : -1500000000 ≤ nz_V p t a.toNatClampNeg ∧ nz_V p t a.toNatClampNeg ≤ 1000000000) :
    ∃ fl t', j_X6_sweep_5_116 p l2 l3 l4 b a w t = some (.inl (fl, l4 + 1, t')) ∧ z_only p t t' ∧ nz_V p t' = nz_rl (nz_V p t) (a.toNatClampNeg, b.toNatClampNeg, w.toInt) ∧ ((fl = l3 ∧ nz_V p t' = nz_V p t) ∨ (fl = 1 ∧ nz_V p t' ≠ nz_V p t)) := by
  obtain ⟨t', h1, h2, h3⟩ := nz_one hp ha hb hw hv (some (.inl (l3, (l4 + 1), t))) (fun s149 => (some (.inl ((1 : Int32), (l4 + 1), s149)) : Option ((Int32 × Int32 × ax_S) ⊕ (Int32 × ax_S))))
  rcases h3 with ⟨h4, h5, h6⟩ | ⟨h4, h6⟩
  · subst h5
    exact ⟨l3, t', h6, h1, h2, Or.inl ⟨rfl, h4⟩⟩
  · exact ⟨1, t', h6, h1, h2, Or.inr ⟨rfl, h4⟩⟩
theorem nz_j78 {p : Nat} (hp : ax_len cx_C 1 p = some 18) {t : ax_S} {a b w w' l2 l3 l4 : Int32} (ha : 0 ≤ a.toInt ∧ a.toInt < 18) (hb : 0 ≤ b.toInt ∧ b.toInt < 18) (hw : -200000 ≤ w.toInt ∧ w.toInt ≤ 200000) (hw' : -200000 ≤ w'.toInt ∧ w'.toInt ≤ 200000)
    (hv : -1400000000 ≤ nz_V p t a.toNatClampNeg ∧ nz_V p t a.toNatClampNeg ≤ 1000000000) (hv' : -1400000000 ≤ nz_V p t b.toNatClampNeg ∧ nz_V p t b.toNatClampNeg ≤ 1000000000) :
    ∃ fl t', j_X6_sweep_5_78 p l2 l3 l4 a b w w' t = some (.inl (fl, l4 + 1, t')) ∧ z_only p t t' ∧ nz_V p t' = nz_rl (nz_rl (nz_V p t) (a.toNatClampNeg, b.toNatClampNeg, w.toInt)) (b.toNatClampNeg, a.toNatClampNeg, w'.toInt) ∧ ((fl = l3 ∧ nz_V p t' = nz_V p t) ∨ (fl = 1 ∧ nz_V p t' ≠ nz_V p t)) := by
  obtain ⟨t', h1, h2, h3⟩ := nz_one hp ha hb hw ⟨by omega, hv.2⟩ (j_X6_sweep_5_116 p l2 l3 l4 a b w' t) (fun s113 => j_X6_sweep_5_116 p l2 (1 : Int32) l4 a b w' s113)
  have hvt : -1500000000 ≤ nz_V p t' b.toNatClampNeg ∧ nz_V p t' b.toNatClampNeg ≤ 1000000000 := by
    have q1 := nz_rl_le (nz_V p t) (a.toNatClampNeg, b.toNatClampNeg, w.toInt) b.toNatClampNeg
    rw [← h2] at q1
    refine ⟨?_, by omega⟩
    rw [h2]
    by_cases ho : nz_ok (nz_V p t) (a.toNatClampNeg, b.toNatClampNeg, w.toInt)
    · rw [nz_rl_ok ho]; omega
    · obtain ⟨-, -, o3⟩ := nz_rl_not ho
      rw [o3]
      simp only [if_true]
      omega
  rcases h3 with ⟨h4, h5, h6⟩ | ⟨h4, h6⟩
  · subst h5
    obtain ⟨fl, t2, k1, k2, k3, k4⟩ := nz_j116 (l2 := l2) (l3 := l3) (l4 := l4) hp hb ha hw' hvt
    refine ⟨fl, t2, ?_, k2, ?_, k4⟩
    · unfold j_X6_sweep_5_78; rw [h6]; exact k1
    · rw [k3, ← h2]
  · obtain ⟨fl, t2, k1, k2, k3, k4⟩ := nz_j116 (l2 := l2) (l3 := 1) (l4 := l4) hp hb ha hw' hvt
    refine ⟨1, t2, ?_, z_only_tr h1 k2, ?_, Or.inr ⟨rfl, ?_⟩⟩
    · have : fl = 1 := by rcases k4 with q | q <;> exact q.1
      subst this
      unfold j_X6_sweep_5_78; rw [h6]; exact k1
    · rw [k3, ← h2]
    · rw [k3, h2]
      rw [h2] at h4
      exact nz_rl2_ne h4
/-- a net's rows, as ways -/
def nz_G (s : ax_S) (up : Int32) (e : Nat) : Nat × Nat × Int :=
  if e % 2 = 0 then ((s.1 9 (e / 2)).toNatClampNeg, (s.1 10 (e / 2)).toNatClampNeg, if up = 0 then -(s.1 11 (e / 2)).toInt else (s.1 12 (e / 2)).toInt)
  else ((s.1 10 (e / 2)).toNatClampNeg, (s.1 9 (e / 2)).toNatClampNeg, if up = 0 then (s.1 12 (e / 2)).toInt else -(s.1 11 (e / 2)).toInt)
def nz_n (s : ax_S) : Nat := (s.1 1 6).toNatClampNeg
def nz_N (s : ax_S) : Prop := 0 ≤ (s.1 1 6).toInt ∧ (s.1 1 6).toInt ≤ 40 ∧ ∀ r : Nat, r < nz_n s → (0 ≤ (s.1 9 r).toInt ∧ (s.1 9 r).toInt < 18) ∧ (0 ≤ (s.1 10 r).toInt ∧ (s.1 10 r).toInt < 18) ∧ (-200000 ≤ (s.1 11 r).toInt ∧ (s.1 11 r).toInt ≤ 200000) ∧ (-200000 ≤ (s.1 12 r).toInt ∧ (s.1 12 r).toInt ≤ 200000)
theorem nz_G0 (s : ax_S) (up : Int32) (r : Nat) : nz_G s up (2 * r) = ((s.1 9 r).toNatClampNeg, (s.1 10 r).toNatClampNeg, if up = 0 then -(s.1 11 r).toInt else (s.1 12 r).toInt) := by
  unfold nz_G
  rw [if_pos (by omega), show 2 * r / 2 = r by omega]
theorem nz_G1 (s : ax_S) (up : Int32) (r : Nat) : nz_G s up (2 * r + 1) = ((s.1 10 r).toNatClampNeg, (s.1 9 r).toNatClampNeg, if up = 0 then (s.1 12 r).toInt else -(s.1 11 r).toInt) := by
  unfold nz_G
  rw [if_neg (by omega), show (2 * r + 1) / 2 = r by omega]
theorem nz_G_only {p : Nat} (hp : 15 ≤ p) {s t : ax_S} (h : z_only p s t) (up : Int32) : nz_G t up = nz_G s up := by
  funext e
  unfold nz_G
  rw [h.1 9 (by omega), h.1 10 (by omega), h.1 11 (by omega), h.1 12 (by omega)]
theorem nz_n_only {p : Nat} (hp : 15 ≤ p) {s t : ax_S} (h : z_only p s t) : nz_n t = nz_n s := by
  unfold nz_n
  rw [h.1 1 (by omega)]
theorem nz_N_only {p : Nat} (hp : 15 ≤ p) {s t : ax_S} (h : z_only p s t) (hN : nz_N s) : nz_N t := by
  unfold nz_N
  rw [nz_n_only hp h, h.1 9 (by omega), h.1 10 (by omega), h.1 11 (by omega), h.1 12 (by omega), h.1 1 (by omega)]
  exact hN
theorem nz_N_w {s : ax_S} (hN : nz_N s) (up : Int32) : ∀ e, e < 2 * nz_n s → -200000 ≤ (nz_G s up e).2.2 := by
  intro e he
  obtain ⟨-, -, h⟩ := hN
  obtain ⟨-, -, h3, h4⟩ := h (e / 2) (by omega)
  unfold nz_G
  split <;> (dsimp only; split <;> omega)
theorem nz_N_e {s : ax_S} (hN : nz_N s) (up : Int32) : ∀ e, e < 2 * nz_n s → (nz_G s up e).1 < 18 ∧ (nz_G s up e).2.1 < 18 := by
  intro e he
  obtain ⟨-, -, h⟩ := hN
  obtain ⟨h1, h2, -⟩ := h (e / 2) (by omega)
  have a1 := z_cl h1.1
  have a2 := z_cl h2.1
  unfold nz_G
  split <;> (dsimp only; omega)
theorem nz_sweep {p : Nat} (hp : ax_len cx_C 1 p = some 18) (hpp : 15 ≤ p) (up : Int32) {s : ax_S} (hN : nz_N s) {L : Int} (hL : -1000000000 ≤ L) (hlo : ∀ m, m < 18 → L ≤ nz_V p s m) (hhi : ∀ m, m < 18 → nz_V p s m ≤ nz_U) :
    ∃ fl t, f_X6_sweep p up s = some (fl, t) ∧ z_only p s t ∧ nz_V p t = nz_sw (nz_G s up) (nz_V p s) (2 * nz_n s) ∧ ((fl = 0 ∧ nz_V p t = nz_V p s) ∨ (fl = 1 ∧ nz_V p t ≠ nz_V p s)) := by
  have hN' := hN
  obtain ⟨n0, n1, nr⟩ := hN
  have hn : (nz_n s : Int) = (s.1 1 6).toInt := z_cl n0
  have hlow := nz_sw_low18 (f := nz_V p s) (nz_N_w hN' up) (nz_N_e hN' up) (by decide) hlo
  have hup : ∀ k m, m < 18 → nz_sw (nz_G s up) (nz_V p s) k m ≤ nz_U := by
    intro k m hm
    have h1 := nz_sw_step (nz_G s up) (nz_V p s) (Nat.zero_le k) m
    have h2 := hhi m hm
    have h3 : nz_sw (nz_G s up) (nz_V p s) 0 m = nz_V p s m := rfl
    omega
  have key := z_inv (f := b_X6_sweep_5 p up)
    (fun a => ∃ k, k ≤ nz_n s ∧ a.2.1 = nI k ∧ z_only p s a.2.2 ∧ nz_V p a.2.2 = nz_sw (nz_G s up) (nz_V p s) (2 * k) ∧ ((a.1 = 0 ∧ nz_V p a.2.2 = nz_V p s) ∨ (a.1 = 1 ∧ nz_V p a.2.2 ≠ nz_V p s)))
    (fun e => z_only p s e.2 ∧ nz_V p e.2 = nz_sw (nz_G s up) (nz_V p s) (2 * nz_n s) ∧ ((e.1 = 0 ∧ nz_V p e.2 = nz_V p s) ∨ (e.1 = 1 ∧ nz_V p e.2 ≠ nz_V p s)))
    (fun a => nz_n s - a.2.1.toNatClampNeg) (by
    rintro ⟨l3, l4, t⟩ ⟨k, hk, h1, h2, h3, h4⟩
    dsimp only at h1 h2 h3 h4
    subst h1
    have hkI : (nI k).toInt = (k : Int) := z_nI (by omega)
    have hkc : (nI k).toNatClampNeg = k := by
      have := z_cl (a := nI k) (by omega)
      omega
    unfold b_X6_sweep_5
    dsimp only
    by_cases hlast : t.1 1 6 ≤ nI k
    · left
      refine ⟨(l3, t), by rw [if_pos hlast], h2, ?_, h4⟩
      rw [z_le, h2.1 1 (by omega), hkI] at hlast
      dsimp only
      rw [h3, show k = nz_n s by omega]
    · right
      rw [if_neg hlast]
      rw [z_le, h2.1 1 (by omega), hkI] at hlast
      have hk' : k < nz_n s := by omega
      obtain ⟨ra, rb, rx, ry⟩ := nr k hk'
      have i9 := z_ai (Sd := cx_C) (x := t) (a := 9) (n := 40) (i := nI k) rfl (by omega) (by omega)
      have i10 := z_ai (Sd := cx_C) (x := t) (a := 10) (n := 40) (i := nI k) rfl (by omega) (by omega)
      have i11 := z_ai (Sd := cx_C) (x := t) (a := 11) (n := 40) (i := nI k) rfl (by omega) (by omega)
      have i12 := z_ai (Sd := cx_C) (x := t) (a := 12) (n := 40) (i := nI k) rfl (by omega) (by omega)
      rw [hkc, h2.1 9 (by omega)] at i9
      rw [hkc, h2.1 10 (by omega)] at i10
      rw [hkc, h2.1 11 (by omega)] at i11
      rw [hkc, h2.1 12 (by omega)] at i12
      rw [i9, Option.bind_some, i10, Option.bind_some]
      have hnx : (-(s.1 11 k)).toInt = -(s.1 11 k).toInt := z_neg (by omega)
      have ca := z_cl ra.1
      have cb := z_cl rb.1
      have va1 := hlow (2 * k) (by omega) (s.1 9 k).toNatClampNeg (by omega)
      have va2 := hup (2 * k) (s.1 9 k).toNatClampNeg (by omega)
      have vb1 := hlow (2 * k) (by omega) (s.1 10 k).toNatClampNeg (by omega)
      have vb2 := hup (2 * k) (s.1 10 k).toNatClampNeg (by omega)
      rw [← h3] at va1 va2 vb1 vb2
      have hU : nz_U = 1000000000 := rfl
      have go : ∀ w w' : Int32, -200000 ≤ w.toInt ∧ w.toInt ≤ 200000 → -200000 ≤ w'.toInt ∧ w'.toInt ≤ 200000 → nz_G s up (2 * k) = ((s.1 9 k).toNatClampNeg, (s.1 10 k).toNatClampNeg, w.toInt) → nz_G s up (2 * k + 1) = ((s.1 10 k).toNatClampNeg, (s.1 9 k).toNatClampNeg, w'.toInt) →
        ∃ a', j_X6_sweep_5_78 p up l3 (nI k) (s.1 9 k) (s.1 10 k) w w' t = some (.inl a') ∧ (∃ k, k ≤ nz_n s ∧ a'.2.1 = nI k ∧ z_only p s a'.2.2 ∧ nz_V p a'.2.2 = nz_sw (nz_G s up) (nz_V p s) (2 * k) ∧ ((a'.1 = 0 ∧ nz_V p a'.2.2 = nz_V p s) ∨ (a'.1 = 1 ∧ nz_V p a'.2.2 ≠ nz_V p s))) ∧ nz_n s - a'.2.1.toNatClampNeg < nz_n s - (nI k).toNatClampNeg := by
        intro w w' hw hw' g0 g1
        obtain ⟨fl, t', e1, e2, e3, e4⟩ := nz_j78 (t := t) (l2 := up) (l3 := l3) (l4 := nI k) hp ra rb hw hw' ⟨by omega, by omega⟩ ⟨by omega, by omega⟩
        refine ⟨(fl, nI k + 1, t'), e1, ⟨k + 1, hk', nI_s k, z_only_tr h2 e2, ?_, ?_⟩, ?_⟩
        · dsimp only
          rw [e3, show 2 * (k + 1) = 2 * k + 1 + 1 by omega]
          show _ = nz_rl (nz_rl (nz_sw (nz_G s up) (nz_V p s) (2 * k)) (nz_G s up (2 * k))) (nz_G s up (2 * k + 1))
          rw [g0, g1, h3]
        · dsimp only
          rcases e4 with ⟨f1, f2⟩ | ⟨f1, f2⟩
          · rw [f1, f2]; exact h4
          · right
            refine ⟨f1, ?_⟩
            intro q
            apply f2
            funext m
            have b1 := nz_rl_le (nz_V p t) ((s.1 9 k).toNatClampNeg, (s.1 10 k).toNatClampNeg, w.toInt) m
            have b2 := nz_rl_le (nz_rl (nz_V p t) ((s.1 9 k).toNatClampNeg, (s.1 10 k).toNatClampNeg, w.toInt)) ((s.1 10 k).toNatClampNeg, (s.1 9 k).toNatClampNeg, w'.toInt) m
            rw [← e3, q] at b2
            have b3 := nz_sw_step (nz_G s up) (nz_V p s) (Nat.zero_le (2 * k)) m
            rw [← h3] at b3
            have b4 : nz_sw (nz_G s up) (nz_V p s) 0 m = nz_V p s m := rfl
            rw [q]
            omega
        · dsimp only
          rw [nI_s k, hkc]
          have : (nI (k + 1)).toNatClampNeg = k + 1 := by
            have a1 : (nI (k + 1)).toInt = ((k + 1 : Nat) : Int) := z_nI (by omega)
            have := z_cl (a := nI (k + 1)) (by omega)
            omega
          omega
      by_cases hz : up = 0
      · rw [if_pos hz, i11, Option.bind_some]
        unfold j_X6_sweep_5_54
        rw [if_pos hz, i12, Option.bind_some]
        refine go _ _ (by omega) ry ?_ ?_
        · rw [nz_G0, if_pos hz, hnx]
        · rw [nz_G1, if_pos hz]
      · rw [if_neg hz, i12, Option.bind_some]
        unfold j_X6_sweep_5_54
        rw [if_neg hz, i11, Option.bind_some]
        refine go _ _ ry (by omega) ?_ ?_
        · rw [nz_G0, if_neg hz]
        · rw [nz_G1, if_neg hz, hnx])
    (a := ((0 : Int32), (0 : Int32), s)) ⟨0, Nat.zero_le _, rfl, z_only_rf p s, rfl, Or.inl ⟨rfl, rfl⟩⟩
  obtain ⟨⟨fl, t⟩, h1, h2, h3, h4⟩ := key
  refine ⟨fl, t, ?_, h2, h3, h4⟩
  unfold f_X6_sweep
  rw [h1, Option.bind_some]
  dsimp only
  rcases h4 with ⟨q, -⟩ | ⟨q, -⟩
  · dsimp only at q; rw [q, z_zb0]; rfl
  · dsimp only at q; rw [q, z_zb1]; rfl

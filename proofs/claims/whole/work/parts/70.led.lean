/-! led: the fewest steps, over whole numbers -/
def nz_en (g : Nat → Nat × Nat × Int) (e : Nat) : Nat × Nat × Int := ((g e).1, (g e).2.1, 10000 * (g e).2.2 + 1)
def nz_real (G : Nat → Nat × Nat × Int) (N : Nat) (f0 f : Nat → Int) : Prop := ∀ m, f m = f0 m ∨ ∃ e, e < N ∧ (G e).2.1 = m ∧ f (G e).1 + (G e).2.2 ≤ f m
theorem nz_real_rl {G : Nat → Nat × Nat × Int} {N : Nat} {f0 f : Nat → Int} (h : nz_real G N f0 f) {e : Nat} (he : e < N) : nz_real G N f0 (nz_rl f (G e)) := by
  by_cases ho : nz_ok f (G e)
  · rw [nz_rl_ok ho]; exact h
  · obtain ⟨o1, o2, o3⟩ := nz_rl_not ho
    have hle := nz_rl_le f (G e)
    intro m
    by_cases hm : m = (G e).2.1
    · right
      refine ⟨e, he, hm.symm, ?_⟩
      have h1 := hle (G e).1
      have h2 : nz_rl f (G e) m = f (G e).1 + (G e).2.2 := by rw [o3]; simp [hm]
      omega
    · have h2 : nz_rl f (G e) m = f m := by rw [o3]; simp [hm]
      rw [h2]
      rcases h m with q | ⟨e', a1, a2, a3⟩
      · exact Or.inl q
      · right
        refine ⟨e', a1, a2, ?_⟩
        have := hle (G e').1
        omega
theorem nz_real_F {G : Nat → Nat × Nat × Int} {N : Nat} {f0 : Nat → Int} : ∀ k, nz_real G N f0 (nz_F G N f0 k) := by
  intro k
  induction k with
  | zero => intro m; exact Or.inl rfl
  | succ k ih => exact nz_sw_ind (G := G) (N := N) (nz_real G N f0) (fun e he f hf => nz_real_rl hf he) ih N (Nat.le_refl N)
/-! steps side by side -/
def nz_js (G : Nat → Nat × Nat × Int) (g : Nat → Int) : Nat → (Nat → Int)
  | 0 => g
  | e + 1 => fun m => if m = (G e).2.1 ∧ g (G e).1 + (G e).2.2 < nz_js G g e m then g (G e).1 + (G e).2.2 else nz_js G g e m
theorem nz_js_s (G : Nat → Nat × Nat × Int) (g : Nat → Int) (e m : Nat) : nz_js G g (e + 1) m = if m = (G e).2.1 ∧ g (G e).1 + (G e).2.2 < nz_js G g e m then g (G e).1 + (G e).2.2 else nz_js G g e m := rfl
theorem nz_js_le (G : Nat → Nat × Nat × Int) (g : Nat → Int) (m : Nat) : ∀ e, nz_js G g e m ≤ g m := by
  intro e
  induction e with
  | zero => exact Int.le_refl _
  | succ e ih =>
    rw [nz_js_s]
    split <;> omega
theorem nz_js_edge (G : Nat → Nat × Nat × Int) (g : Nat → Int) {e' : Nat} : ∀ e, e' < e → nz_js G g e (G e').2.1 ≤ g (G e').1 + (G e').2.2 := by
  intro e
  induction e with
  | zero => intro h; omega
  | succ e ih =>
    intro h
    rw [nz_js_s]
    by_cases he : e' = e
    · subst he
      split <;> omega
    · have := ih (by omega)
      split <;> omega
theorem nz_js_or (G : Nat → Nat × Nat × Int) (g : Nat → Int) (m : Nat) : ∀ e, nz_js G g e m = g m ∨ ∃ e', e' < e ∧ (G e').2.1 = m ∧ nz_js G g e m = g (G e').1 + (G e').2.2 := by
  intro e
  induction e with
  | zero => exact Or.inl rfl
  | succ e ih =>
    rw [nz_js_s]
    by_cases h : m = (G e).2.1 ∧ g (G e).1 + (G e).2.2 < nz_js G g e m
    · rw [if_pos h]
      exact Or.inr ⟨e, by omega, h.1.symm, rfl⟩
    · rw [if_neg h]
      rcases ih with q | ⟨e', q1, q2, q3⟩
      · exact Or.inl q
      · exact Or.inr ⟨e', by omega, q2, q3⟩
def nz_jk (G : Nat → Nat × Nat × Int) (N : Nat) (g : Nat → Int) : Nat → (Nat → Int)
  | 0 => g
  | k + 1 => nz_js G (nz_jk G N g k) N
/-- settled values hold the end and the steps that lead to it -/
theorem nz_led1 {g : Nat → Nat × Nat × Int} {N : Nat} (hends : ∀ e, e < N → (g e).1 < 18 ∧ (g e).2.1 < 18) {f0 f T H st : Nat → Int} (hsat : nz_sat (nz_en g) N f) (hreal : nz_real (nz_en g) N f0 f) (h0 : ∀ m, m < 18 → f0 m = 10000 * (H m - 1000000)) (hH : ∀ m, m < 18 → H m ≤ 200000)
    (hf : ∀ m, m < 18 → f m = 10000 * (T m - 1000000) + st m) (hst : ∀ m, m < 18 → 0 ≤ st m ∧ st m ≤ 5000) (hT : ∀ m, m < 18 → T m ≤ 200000) :
    (∀ e, e < N → f (g e).2.1 ≤ f (g e).1 + (10000 * (g e).2.2 + 1)) ∧ (∀ m, m < 18 → (st m = 0 ∧ T m = H m) ∨ ∃ e, e < N ∧ (g e).2.1 = m ∧ T m = T (g e).1 + (g e).2.2 ∧ st m = st (g e).1 + 1) := by
  have hU : nz_U = 1000000000 := rfl
  have hs : ∀ e, e < N → f (g e).2.1 ≤ f (g e).1 + (10000 * (g e).2.2 + 1) := by
    intro e he
    refine hsat e he (fun q => ?_)
    have h1 := hf _ (hends e he).1
    have h2 := hst _ (hends e he).1
    have h3 := hT _ (hends e he).1
    change f (g e).1 = nz_U at q
    omega
  refine ⟨hs, ?_⟩
  intro m hm
  have a1 := hf m hm
  have a2 := hst m hm
  rcases hreal m with q | ⟨e, e1, e2, e3⟩
  · left
    have := h0 m hm
    omega
  · right
    change (g e).2.1 = m at e2
    change f (g e).1 + (10000 * (g e).2.2 + 1) ≤ f m at e3
    have b1 := hs e e1
    rw [e2] at b1
    have b2 := hf _ (hends e e1).1
    have b3 := hst _ (hends e e1).1
    exact ⟨e, e1, e2, by omega, by omega⟩
theorem nz_led2 {g : Nat → Nat × Nat × Int} {N : Nat} (hends : ∀ e, e < N → (g e).1 < 18 ∧ (g e).2.1 < 18) {T H st : Nat → Int} (hst : ∀ m, m < 18 → 0 ≤ st m)
    (hr : ∀ m, m < 18 → (st m = 0 ∧ T m = H m) ∨ ∃ e, e < N ∧ (g e).2.1 = m ∧ T m = T (g e).1 + (g e).2.2 ∧ st m = st (g e).1 + 1) : ∀ m, m < 18 → st m ≤ 17 := by
  have key : ∀ (j : Nat) (m : Nat), m < 18 → st m = (j : Int) → j + 1 ≤ nz_cnt (fun i => st i ≤ (j : Int)) 18 := by
    intro j
    induction j with
    | zero =>
      intro m hm h
      exact nz_cnt_lt (p := fun _ => False) (q := fun i => st i ≤ ((0 : Nat) : Int)) (fun _ q => q.elim) hm (fun q => q) (by omega) |> fun q => by omega
    | succ j ih =>
      intro m hm h
      rcases hr m hm with q | ⟨e, e1, e2, e3, e4⟩
      · omega
      · have h1 := ih (g e).1 (hends e e1).1 (by omega)
        have h2 := nz_cnt_lt (p := fun i => st i ≤ (j : Int)) (q := fun i => st i ≤ ((j + 1 : Nat) : Int)) (fun i q => by omega) hm (by omega) (by omega)
        omega
  intro m hm
  have h0 := hst m hm
  have h1 := key (st m).toNat m hm (by omega)
  have h2 := nz_cnt_le (fun i => st i ≤ ((st m).toNat : Int)) 18
  omega
/-- and so many steps side by side lead there, not fewer -/
theorem nz_led3 {G : Nat → Nat × Nat × Int} {M : Nat} (hG : ∀ e, e < M → (G e).1 < 18 ∧ (G e).2.1 < 18) {T H st f : Nat → Int} (hf : ∀ m, m < 18 → f m = 10000 * (T m - 1000000) + st m) (hst : ∀ m, m < 18 → 0 ≤ st m)
    (hs : ∀ e, e < M → f (G e).2.1 ≤ f (G e).1 + (10000 * (G e).2.2 + 1)) (hf0 : ∀ m, m < 18 → f m ≤ 10000 * (H m - 1000000)) {h : Nat → Int} (hh : ∀ m, m < 18 → h m = H m) :
    ∀ k m, m < 18 → f m ≤ 10000 * (nz_jk G M h k m - 1000000) + k := by
  intro k
  induction k with
  | zero =>
    intro m hm
    have := hf0 m hm
    have h1 := hh m hm
    show f m ≤ 10000 * (h m - 1000000) + ((0 : Nat) : Int)
    omega
  | succ k ih =>
    intro m hm
    show f m ≤ 10000 * (nz_js G (nz_jk G M h k) M m - 1000000) + ((k + 1 : Nat) : Int)
    rcases nz_js_or G (nz_jk G M h k) m M with q | ⟨e, e1, e2, e3⟩
    · have := ih m hm
      omega
    · have h1 := hs e e1
      rw [e2] at h1
      have h2 := ih _ (hG e e1).1
      omega
theorem nz_led4 {G : Nat → Nat × Nat × Int} {M : Nat} {T H st h : Nat → Int} (hh : ∀ m, m < 18 → h m = H m) (hst : ∀ m, m < 18 → 0 ≤ st m)
    (hr : ∀ m, m < 18 → (st m = 0 ∧ T m = H m) ∨ ∃ a w, a < 18 ∧ T m = T a + w ∧ st m = st a + 1 ∧ ∀ g : Nat → Int, nz_js G g M m ≤ g a + w) :
    ∀ (k : Nat) m, m < 18 → st m = (k : Int) → nz_jk G M h k m ≤ T m := by
  intro k
  induction k with
  | zero =>
    intro m hm h0
    rcases hr m hm with q | ⟨a, w, a1, a2, a3, a4⟩
    · show h m ≤ T m
      have := hh m hm
      omega
    · have := hst a a1
      omega
  | succ k ih =>
    intro m hm h0
    rcases hr m hm with q | ⟨a, w, a1, a2, a3, a4⟩
    · omega
    · have h1 := ih a a1 (by omega)
      have h2 := a4 (nz_jk G M h k)
      show nz_js G (nz_jk G M h k) M m ≤ T m
      omega
/-! led: the class's steps -/
def nz_o78 (s t : ax_S) : Prop := ∀ k, k ≠ 17 → k ≠ 18 → t.1 k = s.1 k
theorem nz_o78_only {p : Nat} (hp : p = 17 ∨ p = 18) {s t u : ax_S} (h : nz_o78 s t) (h' : z_only p t u) : nz_o78 s u := fun k h1 h2 => (h'.1 k (by omega)).trans (h k h1 h2)
theorem nz_o78_tr {a b c : ax_S} (h : nz_o78 a b) (h' : nz_o78 b c) : nz_o78 a c := fun k h1 h2 => (h' k h1 h2).trans (h k h1 h2)
theorem nz_o78_N {s t : ax_S} (h : nz_o78 s t) (up : Int32) : nz_n t = nz_n s ∧ nz_G t up = nz_G s up ∧ (nz_N s → nz_N t) := by
  have e1 := h 1 (by omega) (by omega)
  have e9 := h 9 (by omega) (by omega)
  have e10 := h 10 (by omega) (by omega)
  have e11 := h 11 (by omega) (by omega)
  have e12 := h 12 (by omega) (by omega)
  refine ⟨by unfold nz_n; rw [e1], ?_, ?_⟩
  · funext e
    unfold nz_G
    rw [e9, e10, e11, e12]
  · intro hN
    unfold nz_N nz_n
    rw [e1, e9, e10, e11, e12]
    exact hN
/-- one row's step aside -/
theorem nz_jstep {s u : ax_S} {a b : Int32} (ha : 0 ≤ a.toInt ∧ a.toInt < 18) (hb : 0 ≤ b.toInt ∧ b.toInt < 18) {w : Int32} (hw : -200000 ≤ w.toInt ∧ w.toInt ≤ 200000) (hb17 : ∀ m, m < 18 → -300000 ≤ nz_V 17 s m ∧ nz_V 17 s m ≤ 300000) (h17 : u.1 17 = s.1 17) {G : Nat → Nat × Nat × Int} {e : Nat} (hG : G e = (a.toNatClampNeg, b.toNatClampNeg, w.toInt)) (h18 : ∀ m, m < 18 → nz_V 18 u m = nz_js G (nz_V 17 s) e m) :
    ax_ai cx_C u 18 b = some (u.1 18 b.toNatClampNeg) ∧ ax_ai cx_C u 17 a = some (s.1 17 a.toNatClampNeg) ∧ ax_si cx_C u 18 b (ax_min (u.1 18 b.toNatClampNeg) (s.1 17 a.toNatClampNeg + w)) = some (ax_ui u 18 b.toNatClampNeg (ax_min (u.1 18 b.toNatClampNeg) (s.1 17 a.toNatClampNeg + w))) ∧ (∀ m, m < 18 → nz_V 18 (ax_ui u 18 b.toNatClampNeg (ax_min (u.1 18 b.toNatClampNeg) (s.1 17 a.toNatClampNeg + w))) m = nz_js G (nz_V 17 s) (e + 1) m) := by
  have ca := z_cl ha.1
  have cb := z_cl hb.1
  refine ⟨z_ai (n := 18) rfl hb.1 (by omega), ?_, z_si (n := 18) rfl hb.1 (by omega), ?_⟩
  · rw [z_ai (n := 18) rfl ha.1 (by omega), h17]
  · intro m hm
    have va := hb17 a.toNatClampNeg (by omega)
    have hva : nz_V 17 s a.toNatClampNeg = (s.1 17 a.toNatClampNeg).toInt := rfl
    have hadd : (s.1 17 a.toNatClampNeg + w).toInt = (s.1 17 a.toNatClampNeg).toInt + w.toInt := z_add (by omega) (by omega)
    have hvb := h18 b.toNatClampNeg (by omega)
    have hvb' : nz_V 18 u b.toNatClampNeg = (u.1 18 b.toNatClampNeg).toInt := rfl
    rw [nz_V_ui, nz_js_s, hG]
    dsimp only
    by_cases hmb : m = b.toNatClampNeg
    · rw [if_pos hmb]
      subst hmb
      unfold ax_min
      by_cases hlt : s.1 17 a.toNatClampNeg + w < u.1 18 b.toNatClampNeg
      · rw [if_pos hlt]
        rw [z_lt] at hlt
        rw [if_pos ⟨rfl, by omega⟩]
        omega
      · rw [if_neg hlt]
        rw [z_lt] at hlt
        rw [if_neg (by omega)]
        omega
    · rw [if_neg hmb, if_neg (fun q => hmb q.1)]
      exact h18 m hm
theorem nz_stepOnce {s : ax_S} (hN : nz_N s) (up : Int32) (hb17 : ∀ m, m < 18 → -300000 ≤ nz_V 17 s m ∧ nz_V 17 s m ≤ 300000) :
    ∃ t, f_X6_stepOnce up s = some t ∧ nz_o78 s t ∧ ∀ m, m < 18 → nz_V 17 t m = nz_js (nz_G s up) (nz_V 17 s) (2 * nz_n s) m := by
  have hN' := hN
  obtain ⟨n0, n1, nr⟩ := hN
  have hn : (nz_n s : Int) = (s.1 1 6).toInt := z_cl n0
  obtain ⟨s1, c1, c2, c3⟩ := nz_cp (p := 17) (q := 18) rfl rfl s
  have key := z_inv (f := b_X6_stepOnce_17 up)
    (fun a => ∃ k, k ≤ nz_n s ∧ a.1 = nI k ∧ z_only 18 s a.2 ∧ ∀ m, m < 18 → nz_V 18 a.2 m = nz_js (nz_G s up) (nz_V 17 s) (2 * k) m)
    (fun e => z_only 18 s e ∧ ∀ m, m < 18 → nz_V 18 e m = nz_js (nz_G s up) (nz_V 17 s) (2 * nz_n s) m)
    (fun a => nz_n s - a.1.toNatClampNeg) (by
    rintro ⟨_, u⟩ ⟨k, hk, g1, g2, g3⟩
    dsimp only at g1 g2 g3
    subst g1
    have hkI : (nI k).toInt = (k : Int) := z_nI (by omega)
    have hkc := nI_cl (k := k) (by omega)
    have u1 : u.1 1 = s.1 1 := g2.1 1 (by omega)
    unfold b_X6_stepOnce_17
    dsimp only
    rw [u1]
    by_cases hl : s.1 1 6 ≤ nI k
    · left
      rw [if_pos hl]
      rw [z_le, hkI] at hl
      obtain rfl : k = nz_n s := by omega
      exact ⟨_, rfl, g2, g3⟩
    right
    rw [if_neg hl]
    rw [z_le, hkI] at hl
    have hk' : k < nz_n s := by omega
    obtain ⟨ra, rb, rx, ry⟩ := nr k hk'
    have i9 := z_ai (Sd := cx_C) (x := u) (a := 9) (n := 40) (i := nI k) rfl (by omega) (by omega)
    have i10 := z_ai (Sd := cx_C) (x := u) (a := 10) (n := 40) (i := nI k) rfl (by omega) (by omega)
    have i11 : ∀ v : ax_S, v.1 11 = s.1 11 → ax_ai cx_C v 11 (nI k) = some (s.1 11 k) := fun v hv => by
      rw [z_ai (Sd := cx_C) (x := v) (a := 11) (n := 40) (i := nI k) rfl (by omega) (by omega), hkc, hv]
    have i12 : ∀ v : ax_S, v.1 12 = s.1 12 → ax_ai cx_C v 12 (nI k) = some (s.1 12 k) := fun v hv => by
      rw [z_ai (Sd := cx_C) (x := v) (a := 12) (n := 40) (i := nI k) rfl (by omega) (by omega), hkc, hv]
    rw [hkc, g2.1 9 (by omega)] at i9
    rw [hkc, g2.1 10 (by omega)] at i10
    have hnx : (-(s.1 11 k)).toInt = -(s.1 11 k).toInt := z_neg (by omega)
    rw [i9, Option.bind_some, i10, Option.bind_some]
    have ms : nz_n s - (nI k + 1).toNatClampNeg < nz_n s - (nI k).toNatClampNeg := by
      rw [nI_s, nI_cl (by omega), hkc]; omega
    by_cases hz : up = 0
    · have gg0 : nz_G s up (2 * k) = ((s.1 9 k).toNatClampNeg, (s.1 10 k).toNatClampNeg, (-(s.1 11 k)).toInt) := by rw [nz_G0, if_pos hz, hnx]
      have gg1 : nz_G s up (2 * k + 1) = ((s.1 10 k).toNatClampNeg, (s.1 9 k).toNatClampNeg, (s.1 12 k).toInt) := by rw [nz_G1, if_pos hz]
      obtain ⟨q1, q2, q3, q4⟩ := nz_jstep (s := s) (u := u) ra rb (w := -(s.1 11 k)) (by omega) hb17 (g2.1 17 (by omega)) gg0 g3
      have g2' := z_only_tr g2 (z_only_ui 18 (s.1 10 k).toNatClampNeg (ax_min (u.1 18 (s.1 10 k).toNatClampNeg) (s.1 17 (s.1 9 k).toNatClampNeg + -(s.1 11 k))) u)
      generalize hv : ax_ui u 18 (s.1 10 k).toNatClampNeg (ax_min (u.1 18 (s.1 10 k).toNatClampNeg) (s.1 17 (s.1 9 k).toNatClampNeg + -(s.1 11 k))) = v at q3 q4 g2'
      obtain ⟨p1, p2, p3, p4⟩ := nz_jstep (s := s) (u := v) rb ra (w := s.1 12 k) (by omega) hb17 (g2'.1 17 (by omega)) gg1 q4
      rw [q1, Option.bind_some, q2, Option.bind_some, if_pos hz, i11 u (g2.1 11 (by omega)), Option.bind_some]
      unfold j_X6_stepOnce_17_79
      rw [q3, Option.bind_some, p1, Option.bind_some, p2, Option.bind_some, if_pos hz, i12 v (g2'.1 12 (by omega)), Option.bind_some, p3, Option.bind_some]
      exact ⟨_, rfl, ⟨k + 1, by omega, nI_s k, z_only_tr g2' (z_only_ui 18 _ _ _), p4⟩, by first | exact ms | (rw [hkc] at ms; exact ms)⟩
    · have gg0 : nz_G s up (2 * k) = ((s.1 9 k).toNatClampNeg, (s.1 10 k).toNatClampNeg, (s.1 12 k).toInt) := by rw [nz_G0, if_neg hz]
      have gg1 : nz_G s up (2 * k + 1) = ((s.1 10 k).toNatClampNeg, (s.1 9 k).toNatClampNeg, (-(s.1 11 k)).toInt) := by rw [nz_G1, if_neg hz, hnx]
      obtain ⟨q1, q2, q3, q4⟩ := nz_jstep (s := s) (u := u) ra rb (w := s.1 12 k) (by omega) hb17 (g2.1 17 (by omega)) gg0 g3
      have g2' := z_only_tr g2 (z_only_ui 18 (s.1 10 k).toNatClampNeg (ax_min (u.1 18 (s.1 10 k).toNatClampNeg) (s.1 17 (s.1 9 k).toNatClampNeg + s.1 12 k)) u)
      generalize hv : ax_ui u 18 (s.1 10 k).toNatClampNeg (ax_min (u.1 18 (s.1 10 k).toNatClampNeg) (s.1 17 (s.1 9 k).toNatClampNeg + s.1 12 k)) = v at q3 q4 g2'
      obtain ⟨p1, p2, p3, p4⟩ := nz_jstep (s := s) (u := v) rb ra (w := -(s.1 11 k)) (by omega) hb17 (g2'.1 17 (by omega)) gg1 q4
      rw [q1, Option.bind_some, q2, Option.bind_some, if_neg hz, i12 u (g2.1 12 (by omega)), Option.bind_some]
      unfold j_X6_stepOnce_17_79
      rw [q3, Option.bind_some, p1, Option.bind_some, p2, Option.bind_some, if_neg hz, i11 v (g2'.1 11 (by omega)), Option.bind_some, p3, Option.bind_some]
      exact ⟨_, rfl, ⟨k + 1, by omega, nI_s k, z_only_tr g2' (z_only_ui 18 _ _ _), p4⟩, by first | exact ms | (rw [hkc] at ms; exact ms)⟩)
    (a := ((0 : Int32), s1)) ⟨0, Nat.zero_le _, rfl, c2, fun m hm => by
      show (s1.1 18 m).toInt = (s.1 17 m).toInt
      rw [c3 m hm]⟩
  obtain ⟨e, k1, k2, k3⟩ := key
  obtain ⟨t, d1, d2, d3⟩ := nz_cp (p := 18) (q := 17) rfl rfl e
  refine ⟨t, ?_, nz_o78_only (Or.inl rfl) (nz_o78_only (Or.inr rfl) (fun _ _ _ => rfl) k2) d2, ?_⟩
  · unfold f_X6_stepOnce
    rw [c1, Option.bind_some, k1, Option.bind_some, d1, Option.bind_some]
  · intro m hm
    rw [← k3 m hm]
    show (t.1 17 m).toInt = (e.1 18 m).toInt
    rw [d3 m hm]

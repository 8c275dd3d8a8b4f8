/-! led: the class's loop -/
theorem nz_js_congr {G : Nat → Nat × Nat × Int} {N : Nat} (hG : ∀ e, e < N → (G e).1 < 18 ∧ (G e).2.1 < 18) {g g' : Nat → Int} (h : ∀ m, m < 18 → g m = g' m) : ∀ e, e ≤ N → ∀ m, m < 18 → nz_js G g e m = nz_js G g' e m := by
  intro e
  induction e with
  | zero => intro _ m hm; exact h m hm
  | succ e ih =>
    intro he m hm
    rw [nz_js_s, nz_js_s, ih (by omega) m hm, h _ (hG e he).1]
theorem nz_jk_b {G : Nat → Nat × Nat × Int} {N : Nat} (hG : ∀ e, e < N → (G e).1 < 18 ∧ (G e).2.1 < 18) {T g : Nat → Int} (hT : nz_pot G N T) (hl : ∀ m, m < 18 → T m ≤ g m) : ∀ k m, m < 18 → T m ≤ nz_jk G N g k m ∧ nz_jk G N g k m ≤ g m := by
  intro k
  induction k with
  | zero => intro m hm; exact ⟨hl m hm, Int.le_refl _⟩
  | succ k ih =>
    intro m hm
    show T m ≤ nz_js G (nz_jk G N g k) N m ∧ nz_js G (nz_jk G N g k) N m ≤ g m
    have h1 := nz_js_le G (nz_jk G N g k) m N
    have h2 := ih m hm
    rcases nz_js_or G (nz_jk G N g k) m N with q | ⟨e, e1, e2, e3⟩
    · omega
    · have h3 := hT e e1
      have h4 := ih _ (hG e e1).1
      rw [e2] at h3
      omega
theorem nz_stepsLoop {t : ax_S} (hN : nz_N t) (up : Int32) {p : Int32} (hp : 0 ≤ p.toInt ∧ p.toInt < 18) {s0 : ax_S} (ho : nz_o78 t s0) {h : Nat → Int} (h0 : ∀ m, m < 18 → nz_V 17 s0 m = h m) (hb : ∀ k m, m < 18 → -300000 ≤ nz_jk (nz_G t up) (2 * nz_n t) h k m ∧ nz_jk (nz_G t up) (2 * nz_n t) h k m ≤ 300000) {en : Int32} {n : Nat} (hn : n ≤ 17)
    (hne : ∀ k, k < n → nz_jk (nz_G t up) (2 * nz_n t) h k p.toNatClampNeg ≠ en.toInt) (he : nz_jk (nz_G t up) (2 * nz_n t) h n p.toNatClampNeg = en.toInt) : ∃ s, ax_lp (b_X6_stepsToEnd_53 p up en) ((0 : Int32), s0) = some (.inr (nI n, s)) ∧ nz_o78 t s := by
  have cp := z_cl hp.1
  have key := z_inv (f := b_X6_stepsToEnd_53 p up en) (fun a => ∃ k, k ≤ n ∧ a.1 = nI k ∧ nz_o78 t a.2 ∧ ∀ m, m < 18 → nz_V 17 a.2 m = nz_jk (nz_G t up) (2 * nz_n t) h k m)
    (fun e => ∃ s, e = .inr (nI n, s) ∧ nz_o78 t s) (fun a => 18 - a.1.toNatClampNeg) (by
    rintro ⟨_, u⟩ ⟨k, hk, g1, g2, g3⟩
    dsimp only at g1 g2 g3
    subst g1
    have hkI : (nI k).toInt = (k : Int) := z_nI (by omega)
    have hkc := nI_cl (k := k) (by omega)
    have e18 : (18 : Int32).toInt = 18 := by decide
    have ms : 18 - (nI k + 1).toNatClampNeg < 18 - (nI k).toNatClampNeg := by
      rw [nI_s, nI_cl (by omega), hkc]; omega
    have hu : (u.1 17 p.toNatClampNeg).toInt = nz_jk (nz_G t up) (2 * nz_n t) h k p.toNatClampNeg := g3 p.toNatClampNeg (by omega)
    unfold b_X6_stepsToEnd_53
    dsimp only
    rw [if_neg (by rw [z_le, e18]; omega), z_ai (Sd := cx_C) (n := 18) rfl hp.1 (by omega), Option.bind_some]
    by_cases hkn : k = n
    · left
      subst hkn
      rw [if_pos (by rw [z_eq]; omega)]
      exact ⟨_, rfl, u, rfl, g2⟩
    · right
      have := hne k (by omega)
      obtain ⟨o1, o2, o3⟩ := nz_o78_N g2 up
      obtain ⟨v, v1, v2, v3⟩ := nz_stepOnce (o3 hN) up (fun m hm => by rw [g3 m hm]; exact hb k m hm)
      rw [if_neg (by rw [z_eq]; omega), v1, Option.bind_some]
      refine ⟨_, rfl, ⟨k + 1, by omega, nI_s k, nz_o78_tr g2 v2, ?_⟩, by first | exact ms | (rw [hkc] at ms; exact ms)⟩
      intro m hm
      show nz_V 17 v m = _
      rw [v3 m hm, o1, o2]
      exact nz_js_congr (nz_N_e hN up) g3 _ (Nat.le_refl _) m hm)
    (a := ((0 : Int32), s0)) ⟨0, Nat.zero_le _, rfl, ho, h0⟩
  obtain ⟨e, k1, s, k2, k3⟩ := key
  exact ⟨s, by rw [k1, k2], k3⟩
/-! led: rows as ways -/
def nz_raw (y : ax_S) (B : Int64) (up : Int32) (e : Nat) : Nat × Nat × Int := if pz_tb B (e / 2) = true then (if e % 2 = 0 then (nz_ln y (e / 2), (y.1 5 (e / 2)).toNatClampNeg, if up = 0 then -(y.1 7 (e / 2)).toInt else (y.1 8 (e / 2)).toInt) else ((y.1 5 (e / 2)).toNatClampNeg, nz_ln y (e / 2), if up = 0 then (y.1 8 (e / 2)).toInt else -(y.1 7 (e / 2)).toInt)) else (0, 0, 0)
theorem nz_raw0 {y : ax_S} {B : Int64} (up : Int32) {r : Nat} (h : pz_tb B r = true) : nz_raw y B up (2 * r) = (nz_ln y r, (y.1 5 r).toNatClampNeg, if up = 0 then -(y.1 7 r).toInt else (y.1 8 r).toInt) := by
  unfold nz_raw
  rw [show 2 * r / 2 = r by omega, if_pos h, if_pos (by omega)]
theorem nz_raw1 {y : ax_S} {B : Int64} (up : Int32) {r : Nat} (h : pz_tb B r = true) : nz_raw y B up (2 * r + 1) = ((y.1 5 r).toNatClampNeg, nz_ln y r, if up = 0 then (y.1 8 r).toInt else -(y.1 7 r).toInt) := by
  unfold nz_raw
  rw [show (2 * r + 1) / 2 = r by omega, if_pos h, if_neg (by omega)]
theorem nz_rawN {y : ax_S} {B : Int64} (up : Int32) {e : Nat} (h : ¬ pz_tb B (e / 2) = true) : nz_raw y B up e = (0, 0, 0) := by
  unfold nz_raw
  rw [if_neg h]
theorem nz_raw_e {y : ax_S} (hnu : pz_nu y) (hrw : pz_rw y) (B : Int64) (up : Int32) : ∀ e, e < 2 * (y.1 0 6).toNatClampNeg → (nz_raw y B up e).1 < 18 ∧ (nz_raw y B up e).2.1 < 18 := by
  intro e he
  obtain ⟨h1, h2, -⟩ := nz_lnR hnu hrw (r := e / 2) (by omega)
  unfold nz_raw
  split
  · split
    · exact ⟨h1, by show (y.1 5 (e / 2)).toNatClampNeg < 18; omega⟩
    · exact ⟨by show (y.1 5 (e / 2)).toNatClampNeg < 18; omega, h1⟩
  · exact ⟨by decide, by decide⟩
theorem nz_raw_rev (y : ax_S) (B : Int64) (up : Int32) (r : Nat) : (nz_en (nz_raw y B up) (2 * r + 1)).1 = (nz_en (nz_raw y B up) (2 * r)).2.1 ∧ (nz_en (nz_raw y B up) (2 * r + 1)).2.1 = (nz_en (nz_raw y B up) (2 * r)).1 := by
  unfold nz_en
  dsimp only
  by_cases h : pz_tb B r = true
  · rw [nz_raw0 up h, nz_raw1 up h]; exact ⟨rfl, rfl⟩
  · rw [nz_rawN (e := 2 * r) up (by rw [show 2 * r / 2 = r by omega]; exact h), nz_rawN (e := 2 * r + 1) up (by rw [show (2 * r + 1) / 2 = r by omega]; exact h)]; exact ⟨rfl, rfl⟩
/-- what holds of all ways is what holds of all rows -/
theorem nz_raw_all {y : ax_S} {B : Int64} {up : Int32} (P : Nat → Nat → Int → Prop) (h0 : P 0 0 0) : (∀ e, e < 2 * (y.1 0 6).toNatClampNeg → P (nz_raw y B up e).1 (nz_raw y B up e).2.1 (nz_raw y B up e).2.2) ↔ ∀ r, r < (y.1 0 6).toNatClampNeg → pz_tb B r = true → P (nz_ln y r) (y.1 5 r).toNatClampNeg (if up = 0 then -(y.1 7 r).toInt else (y.1 8 r).toInt) ∧ P (y.1 5 r).toNatClampNeg (nz_ln y r) (if up = 0 then (y.1 8 r).toInt else -(y.1 7 r).toInt) := by
  constructor
  · intro h r hr ht
    have a := h (2 * r) (by omega)
    have b := h (2 * r + 1) (by omega)
    rw [nz_raw0 up ht] at a
    rw [nz_raw1 up ht] at b
    exact ⟨a, b⟩
  · intro h e he
    by_cases ht : pz_tb B (e / 2) = true
    · obtain ⟨a, b⟩ := h (e / 2) (by omega) ht
      by_cases hev : e = 2 * (e / 2)
      · rw [hev, nz_raw0 up ht]; exact a
      · have h3 : e = 2 * (e / 2) + 1 := by omega
        rw [h3, nz_raw1 up ht]; exact b
    · rw [nz_rawN up ht]; exact h0
theorem nz_G_all {x y : ax_S} {B : Int64} {up : Int32} (hL : nz_Ld x y B) (P : Nat → Nat → Int → Prop) (h0 : P 0 0 0) : (∀ e, e < 2 * nz_n x → P (nz_G x up e).1 (nz_G x up e).2.1 (nz_G x up e).2.2) ↔ (∀ e, e < 2 * (y.1 0 6).toNatClampNeg → P (nz_raw y B up e).1 (nz_raw y B up e).2.1 (nz_raw y B up e).2.2) := by
  rw [nz_raw_all P h0]
  rw [← hL.2.1 (fun a b x y => P a b (if up = 0 then -x else y) ∧ P b a (if up = 0 then y else -x))]
  constructor
  · intro h j hj
    have a := h (2 * j) (by omega)
    have b := h (2 * j + 1) (by omega)
    rw [nz_G0] at a
    rw [nz_G1] at b
    exact ⟨a, b⟩
  · intro h e he
    obtain ⟨a, b⟩ := h (e / 2) (by omega)
    by_cases hev : e = 2 * (e / 2)
    · rw [hev, nz_G0]; exact a
    · have h3 : e = 2 * (e / 2) + 1 := by omega
      rw [h3, nz_G1]; exact b
/-- upward or downward: the end, and where it begins -/
def nz_T (t : ax_S) (up : Int32) : Nat → Int := if up = 0 then nz_V 16 t else nz_V 15 t
def nz_H (y : ax_S) (up : Int32) (m : Nat) : Int := if up = 0 then -nz_lo y m else nz_hi y m
theorem nz_dir {t y : ax_S} {B : Int64} (hnu : pz_nu y) (hbk : pz_bk y) (hS : nz_Sol t y B) {up : Int32} : (∀ m, m < 18 → -200000 ≤ nz_T t up m ∧ nz_T t up m ≤ nz_H y up m ∧ nz_H y up m ≤ 200000) ∧ nz_pot (nz_raw y B up) (2 * (y.1 0 6).toNatClampNeg) (nz_T t up) ∧
    (∀ v, (∀ m, m < 18 → nz_T t up m ≤ v m ∧ v m ≤ nz_H y up m) → nz_pot (nz_raw y B up) (2 * (y.1 0 6).toNatClampNeg) v → ∀ m, m < 18 → v m ≤ nz_T t up m) := by
  obtain ⟨hL, hm, hl, hx⟩ := hS
  by_cases hz : up = 0
  · have hT : nz_T t up = nz_V 16 t := by unfold nz_T; rw [if_pos hz]
    have hH : ∀ m, nz_H y up m = -nz_lo y m := fun m => by unfold nz_H; rw [if_pos hz]
    rw [hT]
    refine ⟨?_, ?_, ?_⟩
    · intro m hm
      have a := hl.1 m hm
      have b := nz_lohi hnu hbk m
      dsimp only at a
      rw [hH]
      omega
    · refine (nz_raw_all (fun a b w => nz_V 16 t b ≤ nz_V 16 t a + w) (by omega)).mpr ?_
      intro r hr ht
      have a := hl.2 r hr ht
      dsimp only at a ⊢
      rw [if_pos hz, if_pos hz]
      omega
    · intro v h1 h2 m hm
      have h3 := (nz_raw_all (fun a b w => v b ≤ v a + w) (by omega)).mp h2
      have h4 : nz_S y B (fun m => -v m) := by
        refine ⟨fun m hm => ?_, fun r hr ht => ?_⟩
        · have a := hl.1 m hm
          have b := h1 m hm
          rw [hH] at b
          dsimp only at a ⊢
          omega
        · have a := h3 r hr ht
          rw [if_pos hz, if_pos hz] at a
          dsimp only at a ⊢
          omega
      have := (hx _ h4 m hm).2
      omega
  · have hT : nz_T t up = nz_V 15 t := by unfold nz_T; rw [if_neg hz]
    have hH : ∀ m, nz_H y up m = nz_hi y m := fun m => by unfold nz_H; rw [if_neg hz]
    rw [hT]
    refine ⟨?_, ?_, ?_⟩
    · intro m h
      have a := hm.1 m h
      have b := nz_lohi hnu hbk m
      rw [hH]
      omega
    · refine (nz_raw_all (fun a b w => nz_V 15 t b ≤ nz_V 15 t a + w) (by omega)).mpr ?_
      intro r hr ht
      have a := hm.2 r hr ht
      rw [if_neg hz, if_neg hz]
      omega
    · intro v h1 h2 m hm'
      have h3 := (nz_raw_all (fun a b w => v b ≤ v a + w) (by omega)).mp h2
      have h4 : nz_S y B v := by
        refine ⟨fun m h => ?_, fun r hr ht => ?_⟩
        · have a := hm.1 m h
          have b := h1 m h
          rw [hH] at b
          omega
        · have a := h3 r hr ht
          rw [if_neg hz, if_neg hz] at a
          omega
      exact (hx _ h4 m hm').1
/-- the class counts the steps -/
theorem nz_stepsC {t y : ax_S} {B : Int64} (hnu : pz_nu y) (hbk : pz_bk y) (hrw : pz_rw y) (hS : nz_Sol t y B) {up p : Int32} (hp : 0 ≤ p.toInt ∧ p.toInt < 18) {f0 f st : Nat → Int} (hsat : nz_sat (nz_en (nz_raw y B up)) (2 * (y.1 0 6).toNatClampNeg) f) (hreal : nz_real (nz_en (nz_raw y B up)) (2 * (y.1 0 6).toNatClampNeg) f0 f) (h0 : ∀ m, m < 18 → f0 m = 10000 * (nz_H y up m - 1000000)) (hf0 : ∀ m, f m ≤ f0 m)
    (hf : ∀ m, m < 18 → f m = 10000 * (nz_T t up m - 1000000) + st m) (hst : ∀ m, m < 18 → 0 ≤ st m ∧ st m ≤ 5000) : ∃ t', f_X6_stepsToEnd p up t = some (nI (st p.toNatClampNeg).toNat, t') ∧ nz_o78 t t' := by
  obtain ⟨d1, d2, d3⟩ := nz_dir hnu hbk hS (up := up)
  have hL := hS.1
  have hends := nz_raw_e hnu hrw B up
  have cp := z_cl hp.1
  have hpm : p.toNatClampNeg < 18 := by omega
  obtain ⟨l1, l2⟩ := nz_led1 hends hsat hreal h0 (fun m hm => (d1 m hm).2.2) hf hst (fun m hm => by have := d1 m hm; omega)
  have l3 := nz_led2 hends (fun m hm => (hst m hm).1) l2
  have hG : ∀ e, e < 2 * nz_n t → (nz_G t up e).1 < 18 ∧ (nz_G t up e).2.1 < 18 := nz_N_e hL.1 up
  have hpot : nz_pot (nz_G t up) (2 * nz_n t) (nz_T t up) := (nz_G_all (up := up) hL (fun a b w => nz_T t up b ≤ nz_T t up a + w) (by omega)).mpr d2
  have hsG : ∀ e, e < 2 * nz_n t → f (nz_G t up e).2.1 ≤ f (nz_G t up e).1 + (10000 * (nz_G t up e).2.2 + 1) := (nz_G_all (up := up) hL (fun a b w => f b ≤ f a + (10000 * w + 1)) (by omega)).mpr l1
  have l4 := nz_led3 hG hf (fun m hm => (hst m hm).1) hsG (fun m hm => by rw [← h0 m hm]; exact hf0 m) (h := nz_H y up) (fun m _ => rfl)
  have hjs : ∀ g : Nat → Int, ∀ e, e < 2 * (y.1 0 6).toNatClampNeg → (nz_raw y B up e ≠ (0, 0, 0) → nz_js (nz_G t up) g (2 * nz_n t) (nz_raw y B up e).2.1 ≤ g (nz_raw y B up e).1 + (nz_raw y B up e).2.2) := by
    intro g
    have := (nz_G_all (up := up) hL (fun a b w => (a, b, w) ≠ (0, 0, 0) → nz_js (nz_G t up) g (2 * nz_n t) b ≤ g a + w) (fun q => absurd rfl q)).mp (fun e he _ => nz_js_edge (nz_G t up) g _ he)
    exact this
  have l5 := nz_led4 (G := nz_G t up) (M := 2 * nz_n t) (T := nz_T t up) (H := nz_H y up) (st := st) (h := nz_H y up) (fun m _ => rfl) (fun m hm => (hst m hm).1) (fun m hm => by
    rcases l2 m hm with q | ⟨e, e1, e2, e3, e4⟩
    · exact Or.inl q
    · right
      refine ⟨(nz_raw y B up e).1, (nz_raw y B up e).2.2, (hends e e1).1, e3, e4, ?_⟩
      intro g
      rw [← e2]
      refine hjs g e e1 (fun q => ?_)
      rw [q] at e2 e4
      have e2' : (0 : Nat) = m := e2
      subst e2'
      dsimp only at e4
      omega)
  have hjb := nz_jk_b hG hpot (g := nz_H y up) (fun m hm => (d1 m hm).2.1)
  have hstp := hst p.toNatClampNeg hpm
  have hn17 := l3 p.toNatClampNeg hpm
  have hfp := hf p.toNatClampNeg hpm
  have hne : ∀ k, k < (st p.toNatClampNeg).toNat → nz_jk (nz_G t up) (2 * nz_n t) (nz_H y up) k p.toNatClampNeg ≠ nz_T t up p.toNatClampNeg := by
    intro k hk q
    have := l4 k p.toNatClampNeg hpm
    rw [q] at this
    omega
  have heq : nz_jk (nz_G t up) (2 * nz_n t) (nz_H y up) (st p.toNatClampNeg).toNat p.toNatClampNeg = nz_T t up p.toNatClampNeg := by
    have a := l5 (st p.toNatClampNeg).toNat p.toNatClampNeg hpm (by omega)
    have b := (hjb (st p.toNatClampNeg).toNat p.toNatClampNeg hpm).1
    omega
  have hbb : ∀ k m, m < 18 → -300000 ≤ nz_jk (nz_G t up) (2 * nz_n t) (nz_H y up) k m ∧ nz_jk (nz_G t up) (2 * nz_n t) (nz_H y up) k m ≤ 300000 := by
    intro k m hm
    have a := hjb k m hm
    have b := d1 m hm
    omega
  unfold f_X6_stepsToEnd
  by_cases hz : up = 0
  · obtain ⟨s0, a1, a2, a3⟩ := nz_turn (p := 17) rfl (by decide) (s := t) (fun m hm => by
      have a := (hL.2.2 m hm).1
      have b := nz_lohi hnu hbk m
      omega)
    have hT : nz_T t up = nz_V 16 t := by unfold nz_T; rw [if_pos hz]
    rw [hT] at hne heq
    obtain ⟨s, b1, b2⟩ := nz_stepsLoop hL.1 up hp (s0 := s0) (nz_o78_only (Or.inl rfl) (fun _ _ _ => rfl) a2) (h := nz_H y up) (fun m hm => by
      rw [a3 m hm, (hL.2.2 m hm).1]
      unfold nz_H
      rw [if_pos hz]) hbb (en := t.1 16 p.toNatClampNeg) (by omega) hne heq
    rw [if_pos hz, a1, Option.bind_some]
    unfold j_X6_stepsToEnd_30
    rw [if_pos hz, z_ai (Sd := cx_C) (a := 16) (n := 18) rfl hp.1 (by omega), Option.bind_some, a2.1 16 (by omega), b1, Option.bind_some]
    exact ⟨s, rfl, b2⟩
  · obtain ⟨s0, a1, a2, a3⟩ := nz_cp (p := 14) (q := 17) rfl rfl t
    have hT : nz_T t up = nz_V 15 t := by unfold nz_T; rw [if_neg hz]
    rw [hT] at hne heq
    obtain ⟨s, b1, b2⟩ := nz_stepsLoop hL.1 up hp (s0 := s0) (nz_o78_only (Or.inl rfl) (fun _ _ _ => rfl) a2) (h := nz_H y up) (fun m hm => by
      have e := (hL.2.2 m hm).2
      unfold nz_H
      rw [if_neg hz, ← e]
      show (s0.1 17 m).toInt = (t.1 14 m).toInt
      rw [a3 m hm]) hbb (en := t.1 15 p.toNatClampNeg) (by omega) hne heq
    rw [if_neg hz, a1, Option.bind_some]
    unfold j_X6_stepsToEnd_30
    rw [if_neg hz, z_ai (Sd := cx_C) (a := 15) (n := 18) rfl hp.1 (by omega), Option.bind_some, a2.1 15 (by omega), b1, Option.bind_some]
    exact ⟨s, rfl, b2⟩

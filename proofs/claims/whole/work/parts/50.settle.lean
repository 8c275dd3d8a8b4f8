/-! the net: settling, over whole numbers -/
def nz_U : Int := 1000000000
def nz_rl (f : Nat → Int) (e : Nat × Nat × Int) : Nat → Int := if f e.1 ≠ nz_U ∧ f e.1 + e.2.2 < f e.2.1 then (fun m => if m = e.2.1 then f e.1 + e.2.2 else f m) else f
def nz_ok (f : Nat → Int) (e : Nat × Nat × Int) : Prop := f e.1 ≠ nz_U → f e.2.1 ≤ f e.1 + e.2.2
def nz_sw (G : Nat → Nat × Nat × Int) (f : Nat → Int) : Nat → (Nat → Int)
  | 0 => f
  | k + 1 => nz_rl (nz_sw G f k) (G k)
def nz_sat (G : Nat → Nat × Nat × Int) (N : Nat) (f : Nat → Int) : Prop := ∀ e, e < N → nz_ok f (G e)
def nz_pot (G : Nat → Nat × Nat × Int) (N : Nat) (u : Nat → Int) : Prop := ∀ e, e < N → u (G e).2.1 ≤ u (G e).1 + (G e).2.2
theorem nz_rl_le (f : Nat → Int) (e : Nat × Nat × Int) (m : Nat) : nz_rl f e m ≤ f m := by
  unfold nz_rl
  by_cases h : f e.1 ≠ nz_U ∧ f e.1 + e.2.2 < f e.2.1
  · rw [if_pos h]
    show (if m = e.2.1 then f e.1 + e.2.2 else f m) ≤ f m
    by_cases hm : m = e.2.1
    · rw [if_pos hm, hm]; omega
    · rw [if_neg hm]; omega
  · rw [if_neg h]; omega
theorem nz_rl_ok {f : Nat → Int} {e : Nat × Nat × Int} (h : nz_ok f e) : nz_rl f e = f := by
  unfold nz_rl
  rw [if_neg]
  intro q
  have := h q.1
  omega
theorem nz_rl_not {f : Nat → Int} {e : Nat × Nat × Int} (h : ¬ nz_ok f e) : f e.1 ≠ nz_U ∧ f e.1 + e.2.2 < f e.2.1 ∧ nz_rl f e = (fun m => if m = e.2.1 then f e.1 + e.2.2 else f m) := by
  unfold nz_ok at h
  have h1 : f e.1 ≠ nz_U := fun q => h (fun q' => absurd q q')
  have h2 : f e.1 + e.2.2 < f e.2.1 := by
    apply Classical.byContradiction
    intro q
    exact h (fun _ => by omega)
  refine ⟨h1, h2, ?_⟩
  unfold nz_rl
  rw [if_pos ⟨h1, h2⟩]
theorem nz_rl_ne {f : Nat → Int} {e : Nat × Nat × Int} (h : ¬ nz_ok f e) : nz_rl f e ≠ f := by
  obtain ⟨h1, h2, h3⟩ := nz_rl_not h
  intro q
  have := congrFun q e.2.1
  rw [h3] at this
  simp at this
  omega
theorem nz_sw_step (G : Nat → Nat × Nat × Int) (f : Nat → Int) {j k : Nat} (h : j ≤ k) (m : Nat) : nz_sw G f k m ≤ nz_sw G f j m := by
  induction k with
  | zero =>
    obtain rfl : j = 0 := by omega
    omega
  | succ k ih =>
    by_cases hj : j = k + 1
    · subst hj; omega
    · have := ih (by omega)
      have := nz_rl_le (nz_sw G f k) (G k) m
      show nz_rl (nz_sw G f k) (G k) m ≤ _
      omega
theorem nz_sw_fix {G : Nat → Nat × Nat × Int} {f : Nat → Int} {N : Nat} (h : nz_sw G f N = f) : nz_sat G N f := by
  intro e he
  have h1 : ∀ k, k ≤ N → nz_sw G f k = f := by
    intro k hk
    funext m
    have a1 := nz_sw_step G f hk m
    have a2 := nz_sw_step G f (Nat.zero_le k) m
    rw [h] at a1
    have : nz_sw G f 0 m = f m := rfl
    omega
  apply Classical.byContradiction
  intro q
  have h2 := h1 (e + 1) he
  have h3 : nz_sw G f (e + 1) = nz_rl (nz_sw G f e) (G e) := rfl
  rw [h3, h1 e (by omega)] at h2
  exact nz_rl_ne q h2
theorem nz_sat_fix {G : Nat → Nat × Nat × Int} {f : Nat → Int} {N : Nat} (h : nz_sat G N f) : nz_sw G f N = f := by
  have : ∀ k, k ≤ N → nz_sw G f k = f := by
    intro k
    induction k with
    | zero => intro _; rfl
    | succ k ih =>
      intro hk
      show nz_rl (nz_sw G f k) (G k) = f
      rw [ih (by omega)]
      exact nz_rl_ok (h k (by omega))
  exact this N (Nat.le_refl N)
theorem nz_sw_ind {G : Nat → Nat × Nat × Int} {f : Nat → Int} {N : Nat} (J : (Nat → Int) → Prop) (h : ∀ e, e < N → ∀ f, J f → J (nz_rl f (G e))) (h0 : J f) : ∀ k, k ≤ N → J (nz_sw G f k) := by
  intro k
  induction k with
  | zero => intro _; exact h0
  | succ k ih =>
    intro hk
    exact h k (by omega) _ (ih (by omega))
/-- one sweep: the settled set grows -/
theorem nz_key {G : Nat → Nat × Nat × Int} {N : Nat} {u f : Nat → Int} (hu : nz_pot G N u) {S S' : Nat → Prop} (h1 : ∀ m j, S m → ¬ S j → f m - u m ≤ f j - u j) (h2 : ∀ e, e < N → S (G e).1 → nz_ok f (G e)) {j : Nat}
    (hjS : ¬ S j) (hmin : ∀ e, e < N → ¬ nz_ok f (G e) → f j - u j ≤ f (G e).1 - u (G e).1) (hS : ∀ m, S' m ↔ (S m ∨ f m - u m < f j - u j ∨ m = j)) :
    (∀ m i, S' m → ¬ S' i → nz_sw G f N m - u m ≤ nz_sw G f N i - u i) ∧ (∀ e, e < N → S' (G e).1 → nz_ok (nz_sw G f N) (G e)) := by
  have hle : ∀ m, S' m → f m - u m ≤ f j - u j := by
    intro m hm
    rcases (hS m).mp hm with q | q | q
    · exact h1 m j q hjS
    · omega
    · rw [q]; omega
  have key := nz_sw_ind (G := G) (f := f) (N := N) (fun f' => (∀ m, S' m → f' m = f m) ∧ (∀ m, ¬ S' m → f j - u j ≤ f' m - u m) ∧ (∀ m, f' m ≤ f m)) (by
    intro e he f' hJ
    obtain ⟨j1, j2, j3⟩ := hJ
    by_cases ho : nz_ok f' (G e)
    · rw [nz_rl_ok ho]; exact ⟨j1, j2, j3⟩
    · obtain ⟨o1, o2, o3⟩ := nz_rl_not ho
      have hue := hu e he
      have ha : f j - u j ≤ f' (G e).1 - u (G e).1 := by
        by_cases hs : S' (G e).1
        · have e1 := j1 _ hs
          rcases (hS _).mp hs with q | q | q
          · exfalso
            have q1 := h2 e he q (by rw [← e1]; exact o1)
            have q2 := j3 (G e).2.1
            omega
          · exfalso
            by_cases ho2 : nz_ok f (G e)
            · have q1 := ho2 (by rw [← e1]; exact o1)
              have q2 := j3 (G e).2.1
              omega
            · have := hmin e he ho2
              omega
          · rw [e1, q]; omega
        · exact j2 _ hs
      have hb : ¬ S' (G e).2.1 := by
        intro hs
        have e1 := j1 _ hs
        have e2 := hle _ hs
        omega
      rw [o3]
      refine ⟨?_, ?_, ?_⟩
      · intro m hm
        have : m ≠ (G e).2.1 := fun q => hb (q ▸ hm)
        simp only [this, if_false]
        exact j1 m hm
      · intro m hm
        by_cases hmb : m = (G e).2.1
        · simp only [hmb, if_true]; omega
        · simp only [hmb, if_false]; exact j2 m hm
      · intro m
        by_cases hmb : m = (G e).2.1
        · simp only [hmb, if_true]
          have := j3 (G e).2.1
          omega
        · simp only [hmb, if_false]; exact j3 m)
    ⟨fun _ _ => rfl, fun m hm => by
      have : ¬ (f m - u m < f j - u j) := fun q => hm ((hS m).mpr (Or.inr (Or.inl q)))
      omega, fun _ => Int.le_refl _⟩
  constructor
  · intro m i hm hi
    obtain ⟨j1, j2, -⟩ := key N (Nat.le_refl N)
    have a1 := j1 m hm
    have a2 := j2 i hi
    have a3 := hle m hm
    omega
  · intro e he hs hne
    obtain ⟨a1, -, -⟩ := key N (Nat.le_refl N)
    obtain ⟨b1, -, -⟩ := key e (by omega)
    obtain ⟨c1, -, -⟩ := key (e + 1) he
    have x1 := a1 _ hs
    have x2 := b1 _ hs
    have x3 := c1 _ hs
    have x4 := nz_sw_step G f (show e + 1 ≤ N from he) (G e).2.1
    have x5 : nz_sw G f (e + 1) (G e).2.1 ≤ f (G e).1 + (G e).2.2 := by
      show nz_rl (nz_sw G f e) (G e) (G e).2.1 ≤ _
      by_cases ho : nz_ok (nz_sw G f e) (G e)
      · rw [nz_rl_ok ho, ← x2]
        exact ho (by rw [x2, ← x1]; exact hne)
      · obtain ⟨-, -, o3⟩ := nz_rl_not ho
        rw [o3]
        simp only [if_true]
        rw [x2]
        omega
    omega
/-! counting -/
noncomputable def nz_cnt (p : Nat → Prop) : Nat → Nat
  | 0 => 0
  | k + 1 => nz_cnt p k + (@ite Nat (p k) (Classical.propDecidable _) 1 0)
theorem nz_cnt_le (p : Nat → Prop) (n : Nat) : nz_cnt p n ≤ n := by
  induction n with
  | zero => exact Nat.le_refl 0
  | succ n ih =>
    unfold nz_cnt
    split <;> omega
theorem nz_cnt_mono {p q : Nat → Prop} (h : ∀ m, p m → q m) (n : Nat) : nz_cnt p n ≤ nz_cnt q n := by
  induction n with
  | zero => exact Nat.le_refl 0
  | succ n ih =>
    unfold nz_cnt
    by_cases hp : p n
    · rw [if_pos hp, if_pos (h n hp)]; omega
    · rw [if_neg hp]; omega
theorem nz_cnt_lt {p q : Nat → Prop} (h : ∀ m, p m → q m) {j n : Nat} (hj : j < n) (h1 : ¬ p j) (h2 : q j) : nz_cnt p n + 1 ≤ nz_cnt q n := by
  induction n with
  | zero => omega
  | succ n ih =>
    unfold nz_cnt
    by_cases hn : j = n
    · subst hn
      rw [if_neg h1, if_pos h2]
      have := nz_cnt_mono h j
      omega
    · have := ih (by omega)
      by_cases hp : p n
      · rw [if_pos hp, if_pos (h n hp)]; omega
      · rw [if_neg hp]; omega
theorem nz_cnt_one {p : Nat → Prop} {j n : Nat} (hj : j < n) (h1 : ¬ p j) : nz_cnt p n + 1 ≤ n := by
  have := nz_cnt_lt (p := p) (q := fun m => p m ∨ m = j) (fun m h => Or.inl h) hj h1 (Or.inr rfl)
  have := nz_cnt_le (fun m => p m ∨ m = j) n
  omega
theorem nz_cnt_two {p : Nat → Prop} {i j n : Nat} (hi : i < n) (hj : j < n) (hij : i ≠ j) (h1 : ¬ p i) (h2 : ¬ p j) : nz_cnt p n + 2 ≤ n := by
  have a := nz_cnt_lt (p := p) (q := fun m => p m ∨ m = j) (fun m h => Or.inl h) hj h2 (Or.inr rfl)
  have b := nz_cnt_one (p := fun m => p m ∨ m = j) hi (by rintro (q | q); exact h1 q; exact hij q)
  omega
theorem nz_min (P : Nat → Prop) (g : Nat → Int) : ∀ n : Nat, (∃ e, e < n ∧ P e) → ∃ e, e < n ∧ P e ∧ ∀ e', e' < n → P e' → g e ≤ g e' := by
  intro n
  induction n with
  | zero => rintro ⟨e, he, -⟩; omega
  | succ n ih =>
    rintro ⟨e, he, hp⟩
    by_cases hx : ∃ e, e < n ∧ P e
    · obtain ⟨a, a1, a2, a3⟩ := ih hx
      by_cases hn : P n ∧ g n < g a
      · refine ⟨n, by omega, hn.1, ?_⟩
        intro e' h1 h2
        by_cases h3 : e' = n
        · subst h3; omega
        · have := a3 e' (by omega) h2; omega
      · refine ⟨a, by omega, a2, ?_⟩
        intro e' h1 h2
        by_cases h3 : e' = n
        · subst h3
          apply Classical.byContradiction
          intro q
          exact hn ⟨h2, by omega⟩
        · exact a3 e' (by omega) h2
    · have : e = n := by
        apply Classical.byContradiction
        intro q
        exact hx ⟨e, by omega, hp⟩
      subst this
      refine ⟨e, by omega, hp, ?_⟩
      intro e' h1 h2
      by_cases h3 : e' = e
      · subst h3; omega
      · exact absurd ⟨e', by omega, h2⟩ hx
/-- so many sweeps -/
def nz_F (G : Nat → Nat × Nat × Int) (N : Nat) (f : Nat → Int) : Nat → (Nat → Int)
  | 0 => f
  | k + 1 => nz_sw G (nz_F G N f k) N
theorem nz_settles {G : Nat → Nat × Nat × Int} {n : Nat} {u f : Nat → Int} (hu : nz_pot G (2 * n) u) (hends : ∀ e, e < 2 * n → (G e).1 < 18 ∧ (G e).2.1 < 18)
    (hrev : ∀ r, r < n → (G (2 * r + 1)).1 = (G (2 * r)).2.1 ∧ (G (2 * r + 1)).2.1 = (G (2 * r)).1) :
    ∀ k, ¬ nz_sat G (2 * n) (nz_F G (2 * n) f k) → k < 17 ∧ k < n := by
  have hP : ∀ k, ¬ nz_sat G (2 * n) (nz_F G (2 * n) f k) → ∃ S : Nat → Prop, (∀ m j, S m → ¬ S j → nz_F G (2 * n) f k m - u m ≤ nz_F G (2 * n) f k j - u j) ∧ (∀ e, e < 2 * n → S (G e).1 → nz_ok (nz_F G (2 * n) f k) (G e)) ∧ k ≤ nz_cnt S 18 ∧ k ≤ nz_cnt (fun r => S (G (2 * r)).1 ∨ S (G (2 * r)).2.1) n := by
    intro k
    induction k with
    | zero => intro _; exact ⟨fun _ => False, fun _ _ h => h.elim, fun _ _ h => h.elim, Nat.zero_le _, Nat.zero_le _⟩
    | succ k ih =>
      intro hns
      have hns' : ¬ nz_sat G (2 * n) (nz_F G (2 * n) f k) := by
        intro q
        apply hns
        show nz_sat G (2 * n) (nz_sw G (nz_F G (2 * n) f k) (2 * n))
        rw [nz_sat_fix q]
        exact q
      obtain ⟨S, s1, s2, s3, s4⟩ := ih hns'
      have hex : ∃ e, e < 2 * n ∧ ¬ nz_ok (nz_F G (2 * n) f k) (G e) := by
        apply Classical.byContradiction
        intro q
        apply hns'
        intro e he
        apply Classical.byContradiction
        intro q'
        exact q ⟨e, he, q'⟩
      obtain ⟨e, he, hbad, hmin⟩ := nz_min (fun e => ¬ nz_ok (nz_F G (2 * n) f k) (G e)) (fun e => nz_F G (2 * n) f k (G e).1 - u (G e).1) _ hex
      have hjS : ¬ S (G e).1 := fun q => hbad (s2 e he q)
      obtain ⟨o1, o2, -⟩ := nz_rl_not hbad
      have hue := hu e he
      have hbS : ¬ S (G e).2.1 := by
        intro q
        have := s1 _ _ q hjS
        omega
      obtain ⟨k1, k2⟩ := nz_key (S' := fun m => S m ∨ nz_F G (2 * n) f k m - u m < nz_F G (2 * n) f k (G e).1 - u (G e).1 ∨ m = (G e).1) hu s1 s2 hjS hmin (fun m => Iff.rfl)
      refine ⟨_, k1, k2, ?_, ?_⟩
      · have := nz_cnt_lt (p := S) (q := fun m => S m ∨ nz_F G (2 * n) f k m - u m < nz_F G (2 * n) f k (G e).1 - u (G e).1 ∨ m = (G e).1) (fun m h => Or.inl h) (hends e he).1 hjS (Or.inr (Or.inr rfl))
        omega
      · have hr : e / 2 < n := by omega
        have hrv := hrev (e / 2) hr
        have hor : ((G (2 * (e / 2))).1 = (G e).1 ∧ (G (2 * (e / 2))).2.1 = (G e).2.1) ∨ ((G (2 * (e / 2))).1 = (G e).2.1 ∧ (G (2 * (e / 2))).2.1 = (G e).1) := by
          by_cases hev : e = 2 * (e / 2)
          · left; rw [← hev]; exact ⟨rfl, rfl⟩
          · right
            have h3 : e = 2 * (e / 2) + 1 := by omega
            rw [← h3] at hrv
            exact ⟨hrv.2.symm, hrv.1.symm⟩
        have := nz_cnt_lt (p := fun r => S (G (2 * r)).1 ∨ S (G (2 * r)).2.1) (q := fun r => (S (G (2 * r)).1 ∨ nz_F G (2 * n) f k (G (2 * r)).1 - u (G (2 * r)).1 < nz_F G (2 * n) f k (G e).1 - u (G e).1 ∨ (G (2 * r)).1 = (G e).1) ∨ (S (G (2 * r)).2.1 ∨ nz_F G (2 * n) f k (G (2 * r)).2.1 - u (G (2 * r)).2.1 < nz_F G (2 * n) f k (G e).1 - u (G e).1 ∨ (G (2 * r)).2.1 = (G e).1))
          (fun m h => by
            rcases h with h | h
            · exact Or.inl (Or.inl h)
            · exact Or.inr (Or.inl h)) hr (by
            rcases hor with ⟨q1, q2⟩ | ⟨q1, q2⟩
            · rw [q1, q2]; rintro (q | q); exact hjS q; exact hbS q
            · rw [q1, q2]; rintro (q | q); exact hbS q; exact hjS q) (by
            rcases hor with ⟨q1, q2⟩ | ⟨q1, q2⟩
            · exact Or.inl (Or.inr (Or.inr q1))
            · exact Or.inr (Or.inr (Or.inr q2)))
        omega
  intro k hns
  obtain ⟨S, s1, s2, s3, s4⟩ := hP k hns
  have hex : ∃ e, e < 2 * n ∧ ¬ nz_ok (nz_F G (2 * n) f k) (G e) := by
    apply Classical.byContradiction
    intro q
    apply hns
    intro e he
    apply Classical.byContradiction
    intro q'
    exact q ⟨e, he, q'⟩
  obtain ⟨e, he, hbad⟩ := hex
  have hjS : ¬ S (G e).1 := fun q => hbad (s2 e he q)
  obtain ⟨o1, o2, -⟩ := nz_rl_not hbad
  have hue := hu e he
  have hbS : ¬ S (G e).2.1 := by
    intro q
    have := s1 _ _ q hjS
    omega
  have hne : (G e).1 ≠ (G e).2.1 := by
    intro q
    rw [← q] at hue o2
    omega
  have c1 := nz_cnt_two (hends e he).1 (hends e he).2 hne hjS hbS
  have hr : e / 2 < n := by omega
  have hrv := hrev (e / 2) hr
  have c2 := nz_cnt_one (p := fun r => S (G (2 * r)).1 ∨ S (G (2 * r)).2.1) hr (by
    by_cases hev : e = 2 * (e / 2)
    · rw [← hev]; rintro (q | q); exact hjS q; exact hbS q
    · have h3 : e = 2 * (e / 2) + 1 := by omega
      rw [← h3] at hrv
      rw [← hrv.1, ← hrv.2]; rintro (q | q); exact hbS q; exact hjS q)
  omega
/-! what a sweep keeps -/
theorem nz_sw_lb {G : Nat → Nat × Nat × Int} {N : Nat} {v f : Nat → Int} (hv : nz_pot G N v) (hends : ∀ e, e < N → (G e).1 < 18 ∧ (G e).2.1 < 18) (h : ∀ m, m < 18 → f m ≠ nz_U → v m ≤ f m) : ∀ m, m < 18 → nz_sw G f N m ≠ nz_U → v m ≤ nz_sw G f N m := by
  refine nz_sw_ind (G := G) (f := f) (N := N) (fun f => ∀ m, m < 18 → f m ≠ nz_U → v m ≤ f m) ?_ h N (Nat.le_refl N)
  intro e he f hJ
  by_cases ho : nz_ok f (G e)
  · rw [nz_rl_ok ho]; exact hJ
  · obtain ⟨o1, o2, o3⟩ := nz_rl_not ho
    have a1 := hJ _ (hends e he).1 o1
    have a2 := hv e he
    rw [o3]
    intro m hm
    by_cases hmb : m = (G e).2.1
    · simp only [hmb, if_true]; omega
    · simp only [hmb, if_false]; exact hJ m hm
theorem nz_sw_low {G : Nat → Nat × Nat × Int} {N : Nat} {f : Nat → Int} {W B : Int} (hw : ∀ e, e < N → -W ≤ (G e).2.2) (hW : 0 ≤ W) (h : ∀ m, -B ≤ f m) : ∀ k : Nat, k ≤ N → ∀ m, -B - W * k ≤ nz_sw G f k m := by
  intro k
  induction k with
  | zero => intro _ m; have := h m; show _ ≤ f m; simp; omega
  | succ k ih =>
    intro hk m
    have ih := ih (by omega)
    have hm := ih m
    have ha := ih (G k).1
    have hwk := hw k (by omega)
    have e1 : W * ((k + 1 : Nat) : Int) = W * k + W := by
      rw [Int.natCast_add, Int.mul_add]; simp
    show _ ≤ nz_rl (nz_sw G f k) (G k) m
    by_cases ho : nz_ok (nz_sw G f k) (G k)
    · rw [nz_rl_ok ho]; omega
    · obtain ⟨o1, o2, o3⟩ := nz_rl_not ho
      rw [o3]
      by_cases hmb : m = (G k).2.1
      · simp only [hmb, if_true]; omega
      · simp only [hmb, if_false]; omega

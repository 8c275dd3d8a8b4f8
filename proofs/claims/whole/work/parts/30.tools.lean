/-! PART II: tools. Numbers by their values -/
theorem z_lt {a b : Int32} : a < b ↔ a.toInt < b.toInt := Int32.lt_iff_toInt_lt
theorem z_le {a b : Int32} : a ≤ b ↔ a.toInt ≤ b.toInt := Int32.le_iff_toInt_le
theorem z_eq {a b : Int32} : a = b ↔ a.toInt = b.toInt := Int32.toInt_inj.symm
theorem z_lo (a : Int32) : -2147483648 ≤ a.toInt := a.le_toInt
theorem z_hi (a : Int32) : a.toInt < 2147483648 := a.toInt_lt
theorem z_add {a b : Int32} (h1 : -2147483648 ≤ a.toInt + b.toInt) (h2 : a.toInt + b.toInt < 2147483648) : (a + b).toInt = a.toInt + b.toInt := by
  rw [Int32.toInt_add]
  apply Int.bmod_eq_of_le <;> omega
theorem z_sub {a b : Int32} (h1 : -2147483648 ≤ a.toInt - b.toInt) (h2 : a.toInt - b.toInt < 2147483648) : (a - b).toInt = a.toInt - b.toInt := by
  rw [Int32.toInt_sub]
  apply Int.bmod_eq_of_le <;> omega
theorem z_neg {a : Int32} (h : -2147483648 < a.toInt) : (-a).toInt = -a.toInt := by
  have := z_hi a
  rw [Int32.toInt_neg]
  apply Int.bmod_eq_of_le <;> omega
theorem z_mul {a b : Int32} (h1 : -2147483648 ≤ a.toInt * b.toInt) (h2 : a.toInt * b.toInt < 2147483648) : (a * b).toInt = a.toInt * b.toInt := by
  rw [Int32.toInt_mul]
  apply Int.bmod_eq_of_le
  · have : ((2 : Int) ^ 32) / 2 = 2147483648 := by decide
    omega
  · have : ((2 : Int) ^ 32 + 1) / 2 = 2147483648 := by decide
    omega
theorem z_cl {a : Int32} (h : 0 ≤ a.toInt) : (a.toNatClampNeg : Int) = a.toInt := by
  rw [Int32.toNatClampNeg]
  omega
theorem z_nI {n : Nat} (h : n < 2147483648) : (nI n).toInt = (n : Int) := nI_toInt (by omega)
theorem z_of {a : Int32} (h : 0 ≤ a.toInt) : a = nI a.toNatClampNeg := by
  have h1 := z_cl h
  have h2 := z_hi a
  rw [z_eq, z_nI (by omega)]
  omega
theorem z_t1 (h : (399 : Int32).toInt = 399) : True := trivial
theorem z_t2 (a : Int32) (h : a < 399) : a.toInt < 399 := by
  simp only [z_lt, Int32.reduceToInt] at h
  omega
theorem z_t3 (a : Int32) (h : a = -2) : a.toInt = -2 := by
  simp only [z_eq, Int32.reduceToInt] at h
  omega
theorem z_t4 (a : Int32) (h : -300000 ≤ a) : -300000 ≤ a.toInt := by
  simp only [z_le] at h
  simpa using h
/-! arrays in range -/
theorem z_ai {Sd : ax_Sd} {x : ax_S} {a n : Nat} {i : Int32} (h : ax_len Sd 1 a = some n) (h0 : 0 ≤ i.toInt) (h1 : i.toInt < n) : ax_ai Sd x a i = some (x.1 a i.toNatClampNeg) := by
  have := z_cl h0
  unfold ax_ai
  rw [h, Option.bind_some, if_neg]
  rw [z_lt]
  simp only [Int32.reduceToInt]
  omega
theorem z_si {Sd : ax_Sd} {x : ax_S} {a n : Nat} {i v : Int32} (h : ax_len Sd 1 a = some n) (h0 : 0 ≤ i.toInt) (h1 : i.toInt < n) : ax_si Sd x a i v = some (ax_ui x a i.toNatClampNeg v) := by
  have := z_cl h0
  unfold ax_si
  rw [h, Option.bind_some, if_neg]
  rw [z_lt]
  simp only [Int32.reduceToInt]
  omega
theorem z_ab {Sd : ax_Sd} {x : ax_S} {a n : Nat} {i : Int32} (h : ax_len Sd 3 a = some n) (h0 : 0 ≤ i.toInt) (h1 : i.toInt < n) : ax_ab Sd x a i = some (x.1 a i.toNatClampNeg) := by
  have := z_cl h0
  unfold ax_ab
  rw [h, Option.bind_some, if_neg]
  rw [z_lt]
  simp only [Int32.reduceToInt]
  omega
theorem z_sb {Sd : ax_Sd} {x : ax_S} {a n : Nat} {i v : Int32} (h : ax_len Sd 3 a = some n) (h0 : 0 ≤ i.toInt) (h1 : i.toInt < n) : ax_sb Sd x a i v = some (ax_ui x a i.toNatClampNeg (vp_nar .boolean v)) := by
  have := z_cl h0
  unfold ax_sb
  rw [h, Option.bind_some, if_neg]
  rw [z_lt]
  simp only [Int32.reduceToInt]
  omega
theorem z_al {Sd : ax_Sd} {x : ax_S} {a n : Nat} {i : Int32} (h : ax_len Sd 2 a = some n) (h0 : 0 ≤ i.toInt) (h1 : i.toInt < n) : ax_al Sd x a i = some (x.2 a i.toNatClampNeg) := by
  have := z_cl h0
  unfold ax_al
  rw [h, Option.bind_some, if_neg]
  rw [z_lt]
  simp only [Int32.reduceToInt]
  omega
theorem z_sl {Sd : ax_Sd} {x : ax_S} {a n : Nat} {i : Int32} {v : Int64} (h : ax_len Sd 2 a = some n) (h0 : 0 ≤ i.toInt) (h1 : i.toInt < n) : ax_sl Sd x a i v = some (ax_ul x a i.toNatClampNeg v) := by
  have := z_cl h0
  unfold ax_sl
  rw [h, Option.bind_some, if_neg]
  rw [z_lt]
  simp only [Int32.reduceToInt]
  omega
theorem z_ui {s : ax_S} {k j : Nat} {v : Int32} (a b : Nat) : (ax_ui s k j v).1 a b = if a = k ∧ b = j then v else s.1 a b := rfl
theorem z_ui2 {s : ax_S} {k j : Nat} {v : Int32} : (ax_ui s k j v).2 = s.2 := rfl
theorem z_ul1 {s : ax_S} {k j : Nat} {v : Int64} : (ax_ul s k j v).1 = s.1 := rfl
theorem z_zb0 : ax_zb 0 = some 0 := by decide
theorem z_zb1 : ax_zb 1 = some 1 := by decide
/-! loops -/
theorem z_lp {α ε : Type} (f : α → Option (α ⊕ ε)) (a : α) : ax_lp f a = (f a).bind (Sum.elim (ax_lp f) some) := by
  have key : ∀ (a : α) (e : ε) (n : Nat), ax_itn f n a = some e → ∀ (m : Nat) (e' : ε), ax_itn f m a = some e' → e = e' := by
    intro a e n
    induction n generalizing a with
    | zero => intro h; cases h
    | succ n ih =>
      intro h m e' h'
      cases m with
      | zero => cases h'
      | succ m =>
        simp only [ax_itn] at h h'
        cases hf : f a with
        | none => rw [hf] at h; cases h
        | some q =>
          rw [hf] at h h'
          match q, h, h' with
          | .inl a', h, h' => exact ih a' h m e' h'
          | .inr e0, h, h' => cases h; cases h'; rfl
  have some_of : ∀ (a : α) (e : ε) (n : Nat), ax_itn f n a = some e → ax_lp f a = some e := by
    intro a e n h
    have hex : ∃ e, ∃ n, ax_itn f n a = some e := ⟨e, n, h⟩
    unfold ax_lp
    rw [dif_pos hex]
    obtain ⟨m, hm⟩ := hex.choose_spec
    rw [key a e n h m _ hm]
  cases hf : f a with
  | none =>
    cases hl : ax_lp f a with
    | none => rfl
    | some e =>
      obtain ⟨n, hn⟩ := ax_lp_some hl
      cases n with
      | zero => cases hn
      | succ n => simp only [ax_itn, hf] at hn; cases hn
  | some q =>
    match q with
    | .inr e =>
      exact some_of a e 1 (by simp [ax_itn, hf])
    | .inl a' =>
      show ax_lp f a = ax_lp f a'
      cases hl : ax_lp f a' with
      | none =>
        cases hl2 : ax_lp f a with
        | none => rfl
        | some e =>
          obtain ⟨n, hn⟩ := ax_lp_some hl2
          cases n with
          | zero => cases hn
          | succ n =>
            simp only [ax_itn, hf] at hn
            rw [some_of a' e n hn] at hl
            cases hl
      | some e =>
        obtain ⟨n, hn⟩ := ax_lp_some hl
        exact some_of a e (n + 1) (by simp [ax_itn, hf]; exact hn)
/-- a loop that counts: the states st 0 .. st N, and out -/
theorem z_for {α ε : Type} {f : α → Option (α ⊕ ε)} (st : Nat → α) (N : Nat) {e : ε} (h : ∀ k, k < N → f (st k) = some (.inl (st (k + 1)))) (hx : f (st N) = some (.inr e)) : ax_lp f (st 0) = some e := by
  have : ∀ k, k ≤ N → ax_lp f (st (N - k)) = some e := by
    intro k
    induction k with
    | zero => intro _; rw [z_lp, Nat.sub_zero, hx]; rfl
    | succ k ih =>
      intro hk
      rw [z_lp, h (N - (k + 1)) (by omega), show N - (k + 1) + 1 = N - k by omega]
      exact ih (by omega)
  have h2 := this N (Nat.le_refl N)
  rwa [Nat.sub_self] at h2
/-- a loop by an invariant and a measure -/
theorem z_inv {α ε : Type} {f : α → Option (α ⊕ ε)} (J : α → Prop) (Q : ε → Prop) (μ : α → Nat) (h : ∀ a, J a → (∃ e, f a = some (.inr e) ∧ Q e) ∨ ∃ a', f a = some (.inl a') ∧ J a' ∧ μ a' < μ a) {a : α} (ha : J a) : ∃ e, ax_lp f a = some e ∧ Q e := by
  have : ∀ (n : Nat) (a : α), μ a < n → J a → ∃ e, ax_lp f a = some e ∧ Q e := by
    intro n
    induction n with
    | zero => intro a h1; omega
    | succ n ih =>
      intro a h1 h2
      rcases h a h2 with ⟨e, he, hq⟩ | ⟨a', he, hj, hm⟩
      · exact ⟨e, by rw [z_lp, he]; rfl, hq⟩
      · obtain ⟨e, h3, h4⟩ := ih a' (by omega) hj
        exact ⟨e, by rw [z_lp, he]; exact h3, h4⟩
  exact this (μ a + 1) a (by omega) ha

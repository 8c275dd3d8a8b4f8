/-! the reference's net: the farthest of each two, over whole numbers -/
def nz_fw (D : Nat → Nat → Int) (m i j : Nat) : Int := if D i m < 100000000 ∧ D m j < 100000000 ∧ D i m + D m j < D i j then D i m + D m j else D i j
def nz_J (E : Nat → Prop) (Ww : (Nat → Int) → Prop) (D0 : Nat → Nat → Int) (M : Nat) (D : Nat → Nat → Int) : Prop :=
  (∀ i, i < 19 → D i i = 0) ∧
  (∀ i j, i < 19 → j < 19 → i ≠ j → ¬ E i ∨ ¬ E j → D i j = 100000000) ∧
  (∀ i j, i < 19 → j < 19 → D i j ≤ 100000000) ∧
  (∀ k, k < M → E k → ∀ i j, E i → E j → D i j ≤ D i k + D k j) ∧
  (∀ i, E i → D i 0 ≤ 200000 ∧ D 0 i ≤ 200000) ∧
  (1 ≤ M → ∀ i j, E i → E j → D i j ≤ 400000) ∧
  (∀ i j, E i → E j → -200000 ≤ D i j ∨ ∃ k, k < M ∧ E k ∧ D i k + D k j ≤ D i j) ∧
  (∀ i j, i < 19 → j < 19 → D i j ≤ D0 i j) ∧
  (∀ w, Ww w → ∀ i j, E i → E j → w j - w i ≤ D i j)
theorem nz_J.Z {E : Nat → Prop} {Ww : (Nat → Int) → Prop} {D0 : Nat → Nat → Int} {M : Nat} {D : Nat → Nat → Int} (h : nz_J E Ww D0 M D) : ∀ i, i < 19 → D i i = 0 := h.1
theorem nz_J.N {E : Nat → Prop} {Ww : (Nat → Int) → Prop} {D0 : Nat → Nat → Int} {M : Nat} {D : Nat → Nat → Int} (h : nz_J E Ww D0 M D) : ∀ i j, i < 19 → j < 19 → i ≠ j → ¬ E i ∨ ¬ E j → D i j = 100000000 := h.2.1
theorem nz_J.U {E : Nat → Prop} {Ww : (Nat → Int) → Prop} {D0 : Nat → Nat → Int} {M : Nat} {D : Nat → Nat → Int} (h : nz_J E Ww D0 M D) : ∀ i j, i < 19 → j < 19 → D i j ≤ 100000000 := h.2.2.1
theorem nz_J.T {E : Nat → Prop} {Ww : (Nat → Int) → Prop} {D0 : Nat → Nat → Int} {M : Nat} {D : Nat → Nat → Int} (h : nz_J E Ww D0 M D) : ∀ k, k < M → E k → ∀ i j, E i → E j → D i j ≤ D i k + D k j := h.2.2.2.1
theorem nz_J.H {E : Nat → Prop} {Ww : (Nat → Int) → Prop} {D0 : Nat → Nat → Int} {M : Nat} {D : Nat → Nat → Int} (h : nz_J E Ww D0 M D) : ∀ i, E i → D i 0 ≤ 200000 ∧ D 0 i ≤ 200000 := h.2.2.2.2.1
theorem nz_J.F {E : Nat → Prop} {Ww : (Nat → Int) → Prop} {D0 : Nat → Nat → Int} {M : Nat} {D : Nat → Nat → Int} (h : nz_J E Ww D0 M D) : 1 ≤ M → ∀ i j, E i → E j → D i j ≤ 400000 := h.2.2.2.2.2.1
theorem nz_J.W {E : Nat → Prop} {Ww : (Nat → Int) → Prop} {D0 : Nat → Nat → Int} {M : Nat} {D : Nat → Nat → Int} (h : nz_J E Ww D0 M D) : ∀ i j, E i → E j → -200000 ≤ D i j ∨ ∃ k, k < M ∧ E k ∧ D i k + D k j ≤ D i j := h.2.2.2.2.2.2.1
theorem nz_J.L {E : Nat → Prop} {Ww : (Nat → Int) → Prop} {D0 : Nat → Nat → Int} {M : Nat} {D : Nat → Nat → Int} (h : nz_J E Ww D0 M D) : ∀ i j, i < 19 → j < 19 → D i j ≤ D0 i j := h.2.2.2.2.2.2.2.1
theorem nz_J.B {E : Nat → Prop} {Ww : (Nat → Int) → Prop} {D0 : Nat → Nat → Int} {M : Nat} {D : Nat → Nat → Int} (h : nz_J E Ww D0 M D) : ∀ w, Ww w → ∀ i j, E i → E j → w j - w i ≤ D i j := h.2.2.2.2.2.2.2.2
theorem nz_fw_le (D : Nat → Nat → Int) (m i j : Nat) : nz_fw D m i j ≤ D i j := by
  unfold nz_fw
  split <;> omega
theorem nz_fw_row {D : Nat → Nat → Int} {m : Nat} (h : D m m = 0) (j : Nat) : nz_fw D m m j = D m j := by
  unfold nz_fw
  rw [if_neg (by omega)]
theorem nz_fw_col {D : Nat → Nat → Int} {m : Nat} (h : D m m = 0) (i : Nat) : nz_fw D m i m = D i m := by
  unfold nz_fw
  rw [if_neg (by omega)]
theorem nz_fw_or (D : Nat → Nat → Int) (m i j : Nat) : nz_fw D m i j = D i j ∨ nz_fw D m i j = D i m + D m j := by
  unfold nz_fw
  split
  · exact Or.inr rfl
  · exact Or.inl rfl
theorem nz_J_low {E : Nat → Prop} {Ww : (Nat → Int) → Prop} {D0 : Nat → Nat → Int} {M : Nat} {D : Nat → Nat → Int} (hE : ∀ k, E k → k < 19) (h : nz_J E Ww D0 M D) : ∀ i j, E i → E j → -800000 ≤ D i j := by
  intro i j hi hj
  rcases h.W i j hi hj with q | ⟨k, hk, hEk, q⟩
  · omega
  · have a1 := h.T k hk hEk i i hi hi
    have a2 := h.T k hk hEk j j hj hj
    have a3 := h.Z i (hE i hi)
    have a4 := h.Z j (hE j hj)
    have a5 := h.F (by omega) k i hEk hi
    have a6 := h.F (by omega) j k hj hEk
    omega
theorem nz_fw_B {E : Nat → Prop} {Ww : (Nat → Int) → Prop} {D0 : Nat → Nat → Int} {M : Nat} {D : Nat → Nat → Int} (hM : M < 19) (hE : ∀ k, E k → k < 19) (h : nz_J E Ww D0 M D) : ∀ w, Ww w → ∀ i j, E i → E j → w j - w i ≤ nz_fw D M i j := by
  intro w hw i j hi hj
  have h1 := h.B w hw i j hi hj
  by_cases hEM : E M
  · have h2 := h.B w hw i M hi hEM
    have h3 := h.B w hw M j hEM hj
    rcases nz_fw_or D M i j with q | q <;> rw [q] <;> omega
  · have h2 := h.N i M (hE i hi) hM (fun q => hEM (q ▸ hi)) (Or.inr hEM)
    unfold nz_fw
    rw [if_neg (by omega)]
    exact h1
theorem nz_J_step {E : Nat → Prop} {Ww : (Nat → Int) → Prop} {D0 : Nat → Nat → Int} {M : Nat} {D : Nat → Nat → Int} (hM : M < 19) (hE : ∀ k, E k → k < 19) (hE0 : E 0) (h : nz_J E Ww D0 M D) (hd : ∀ i, i < 19 → 0 ≤ nz_fw D M i i) : nz_J E Ww D0 (M + 1) (nz_fw D M) := by
  have hMM := h.Z M hM
  by_cases hEM : E M
  case neg =>
    have hsame : ∀ i j, i < 19 → j < 19 → nz_fw D M i j = D i j := by
      intro i j hi hj
      by_cases hiM : i = M
      · rw [hiM]; exact nz_fw_row hMM j
      · have := h.N i M hi hM hiM (Or.inr hEM)
        unfold nz_fw
        rw [if_neg (by omega)]
    have h0M : 1 ≤ M := by
      apply Classical.byContradiction
      intro q
      exact hEM (by rw [show M = 0 by omega]; exact hE0)
    refine ⟨?_, ?_, ?_, ?_, ?_, ?_, ?_, ?_, ?_⟩
    · intro i hi; rw [hsame i i hi hi]; exact h.Z i hi
    · intro i j hi hj; rw [hsame i j hi hj]; exact h.N i j hi hj
    · intro i j hi hj; rw [hsame i j hi hj]; exact h.U i j hi hj
    · intro k hk hEk i j hi hj
      rw [hsame i j (hE i hi) (hE j hj), hsame i k (hE i hi) (hE k hEk), hsame k j (hE k hEk) (hE j hj)]
      exact h.T k (by
        by_cases q : k = M
        · exact absurd (q ▸ hEk) hEM
        · omega) hEk i j hi hj
    · intro i hi; rw [hsame i 0 (hE i hi) (by omega), hsame 0 i (by omega) (hE i hi)]; exact h.H i hi
    · intro _ i j hi hj
      rw [hsame i j (hE i hi) (hE j hj)]
      exact h.F h0M i j hi hj
    · intro i j hi hj
      rw [hsame i j (hE i hi) (hE j hj)]
      rcases h.W i j hi hj with q | ⟨k, hk, hEk, q⟩
      · exact Or.inl q
      · refine Or.inr ⟨k, by omega, hEk, ?_⟩
        rw [hsame i k (hE i hi) (hE k hEk), hsame k j (hE k hEk) (hE j hj)]
        exact q
    · intro i j hi hj; rw [hsame i j hi hj]; exact h.L i j hi hj
    · exact nz_fw_B hM hE h
  have hto : ∀ i, E i → D i M < 100000000 ∧ D M i < 100000000 := by
    intro i hi
    by_cases h0 : M = 0
    · rw [h0]
      have := h.H i hi
      omega
    · have a1 := h.F (by omega) i M hi hEM
      have a2 := h.F (by omega) M i hEM hi
      omega
  have hby : ∀ i j, E i → E j → nz_fw D M i j ≤ D i M + D M j := by
    intro i j hi hj
    have a1 := (hto i hi).1
    have a2 := (hto j hj).2
    unfold nz_fw
    split <;> omega
  refine ⟨?_, ?_, ?_, ?_, ?_, ?_, ?_, ?_, ?_⟩
  · intro i hi
    have h1 := nz_fw_le D M i i
    have h2 := h.Z i hi
    have h3 := hd i hi
    omega
  · intro i j hi hj hij hn
    rw [← h.N i j hi hj hij hn]
    unfold nz_fw
    rw [if_neg]
    rintro ⟨q1, q2, q3⟩
    rcases hn with q | q
    · by_cases hiM : i = M
      · exact q (hiM ▸ hEM)
      · have := h.N i M hi hM hiM (Or.inl q)
        omega
    · by_cases hjM : j = M
      · exact q (hjM ▸ hEM)
      · have := h.N M j hM hj (fun z => hjM z.symm) (Or.inr q)
        omega
  · intro i j hi hj
    have := nz_fw_le D M i j
    have := h.U i j hi hj
    omega
  · intro k hk hEk i j hi hj
    have hb := hby i j hi hj
    have hl := nz_fw_le D M i j
    by_cases hkM : k = M
    · rw [hkM, nz_fw_col hMM, nz_fw_row hMM]; exact hb
    · have t1 := h.T k (by omega) hEk i j hi hj
      have t2 := h.T k (by omega) hEk M j hEM hj
      have t3 := h.T k (by omega) hEk i M hi hEM
      have t4 := h.T k (by omega) hEk M M hEM hEM
      rcases nz_fw_or D M i k with q | q <;> rcases nz_fw_or D M k j with q' | q' <;> rw [q, q'] <;> omega
  · intro i hi
    have h1 := nz_fw_le D M i 0
    have h2 := nz_fw_le D M 0 i
    have h3 := h.H i hi
    omega
  · intro _ i j hi hj
    have h1 := hby i j hi hj
    by_cases h0 : M = 0
    · have h2 := h.H i hi
      have h3 := h.H j hj
      rw [h0] at h1 ⊢
      omega
    · have h2 := nz_fw_le D M i j
      have h3 := h.F (by omega) i j hi hj
      omega
  · intro i j hi hj
    rcases nz_fw_or D M i j with q | q
    · rcases h.W i j hi hj with r | ⟨k, hk, hEk, r⟩
      · left; rw [q]; exact r
      · right
        refine ⟨k, by omega, hEk, ?_⟩
        have h1 := nz_fw_le D M i k
        have h2 := nz_fw_le D M k j
        rw [q]
        omega
    · right
      refine ⟨M, by omega, hEM, ?_⟩
      rw [q, nz_fw_col hMM, nz_fw_row hMM]
      exact Int.le_refl _
  · intro i j hi hj
    have := nz_fw_le D M i j
    have := h.L i j hi hj
    omega
  · exact nz_fw_B hM hE h

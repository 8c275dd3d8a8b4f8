/-! doubts, blamed -/
theorem nz_look {x y : ax_S} (hI : pz_I x y) : ∃ fl w x' y1, f_X9_lookForDoubts (pz_K y) x = some (w, x') ∧ f_X10_canAll y = some (fl, y1) ∧
    ((fl = 1 ∧ w = 0 ∧ pz_I x' y1 ∧ x'.2 4 3 = 0 ∧ ∀ r, r < 40 → x'.1 30 r = 0) ∨
     (fl = 0 ∧ ∃ w' y2, f_X10_doubtsNow y1 = some (w', y2) ∧ pz_I x' y2 ∧ ((w = -4 ∧ w' = -4) ∨ (w = 0 ∧ w' = 0 ∧ ∃ (N : Nat) (c : Nat → Nat), N ≤ 12 ∧ nz_DR N c x' y2 ∧ (∀ i, i < N → c i < 40) ∧ (∀ i j, i < N → j < N → c i = c j → i = j) ∧ ∀ r, pz_tb (pz_K y) r = true → ∃ i, i < N ∧ c i = r)))) := by
  have hI' := hI
  obtain ⟨hsc, har, hsh, hnu, hbk, hrw, htx⟩ := hI
  have hnu' := hnu
  obtain ⟨n1, n2, n3, n4, n5, n6, n7, n8, n9, n10, n11, n12⟩ := hnu
  have c6 := z_cl n9
  obtain ⟨t0, f1, o1, v1⟩ := nz_fill (p := 30) (n := 40) rfl (by omega) (0 : Int32) x
  -- cleared
  have hclear : f_X3_clear x = some (ax_ui (ax_ui (ax_ul t0 4 3 (0 : Int64)) 4 4 (0 : Int32)) 4 1 (0 : Int32)) := by
    unfold f_X3_clear
    rw [f1, Option.bind_some]
  have hk0 : ∀ k, k ≠ 4 → (ax_ui (ax_ui (ax_ul t0 4 3 (0 : Int64)) 4 4 (0 : Int32)) 4 1 (0 : Int32)).1 k = t0.1 k := by
    intro k hk
    rw [(z_only_ui 4 1 0 _).1 k hk, (z_only_ui 4 4 0 _).1 k hk]; rfl
  have h41 : (ax_ui (ax_ui (ax_ul t0 4 3 (0 : Int64)) 4 4 (0 : Int32)) 4 1 (0 : Int32)).1 4 1 = 0 := by rw [z_ui, if_pos ⟨rfl, rfl⟩]
  have h43 : (ax_ui (ax_ui (ax_ul t0 4 3 (0 : Int64)) 4 4 (0 : Int32)) 4 1 (0 : Int32)).2 4 3 = 0 := by
    rw [z_ui2, z_ui2, z_ulv]
  generalize ax_ui (ax_ui (ax_ul t0 4 3 (0 : Int64)) 4 4 (0 : Int32)) 4 1 (0 : Int32) = x0 at hclear hk0 h41 h43
  have hI0 : pz_I x0 y := pz_fr hI' (nz_eC4 (fun k h1 _ h3 => by rw [hk0 k h1, o1.1 k h3])) (pz_eR_rf y)
  obtain ⟨fl, x1, y1, q1, q2, q3, q4, q5, q6⟩ := nz_all3 hI0
  have h30 : ∀ r, r < 40 → x1.1 30 r = 0 := fun r hr => by rw [q3.1 30 (by omega) (by omega), hk0 30 (by omega)]; exact v1 r hr
  have h43' : x1.2 4 3 = 0 := by rw [q3.2]; exact h43
  have h41' : x1.1 4 1 = 0 := by rw [q3.1 4 (by omega) (by omega)]; exact h41
  unfold f_X9_lookForDoubts
  rw [hclear, Option.bind_some, q1, Option.bind_some]
  dsimp only
  rcases q6 with ⟨rfl, -⟩ | ⟨rfl, -⟩
  · rw [if_neg pz_one]
    exact ⟨1, 0, x1, y1, rfl, q2, Or.inl ⟨rfl, rfl, q5, h43', h30⟩⟩
  rw [if_pos rfl, pz_bitCount, Option.bind_some]
  have hbig : ∀ k, (y.1 0 6).toNatClampNeg ≤ k → pz_tb (pz_K y) k = false := by
    intro k hk
    rw [z_K_tb hnu']
    simp
    omega
  have e64 : z_on (pz_tb (pz_K y)) 64 = z_on (pz_tb (pz_K y)) (y.1 0 6).toNatClampNeg := z_on_z _ (by omega) hbig
  have e40 : z_on (pz_tb (pz_K y)) 40 = z_on (pz_tb (pz_K y)) (y.1 0 6).toNatClampNeg := z_on_z _ (by omega) hbig
  have hle := z_on_le (pz_tb (pz_K y)) (y.1 0 6).toNatClampNeg
  have hzI : (nI (z_on (pz_tb (pz_K y)) (y.1 0 6).toNatClampNeg)).toInt = (z_on (pz_tb (pz_K y)) (y.1 0 6).toNatClampNeg : Int) := z_nI (by omega)
  have e12 : (12 : Int32).toInt = 12 := by decide
  -- the reference
  have hnu1 : pz_nu y1 := q5.2.2.2.1
  have hK1 : pz_K y1 = pz_K y := pz_K_eR (nz_eR q4)
  have hR6 : y.1 0 6 = nI (y.1 0 6).toNatClampNeg := z_of n9
  obtain ⟨e, a1, a2⟩ := nz_candR (y := ax_ui y1 0 25 0) (K := pz_K y) (R := (y.1 0 6).toNatClampNeg) (by omega) (by
    rw [z_ui, if_neg (fun q => by omega), q4.1 0 (by omega)]; exact hR6) (by rw [z_ui, if_pos ⟨rfl, rfl⟩])
  have hy0 : ∀ k, k ≠ 0 → (ax_ui y1 0 25 (0 : Int32)).1 k = y1.1 k := fun k hk => (z_only_ui 0 25 0 y1).1 k hk
  have hy00 : ∀ j, j ≠ 25 → (ax_ui y1 0 25 (0 : Int32)).1 0 j = y1.1 0 j := fun j hj => by rw [z_ui, if_neg (fun q => hj q.2)]
  rw [e64]
  rcases a2 with ⟨b0, s, b1, b2, b3, b4, b5, b6, b7⟩ | ⟨b0, s, b1, b2, b3⟩
  case inr =>
    rw [if_neg (by rw [z_le, hzI, e12]; omega)]
    refine ⟨0, -4, x1, y1, rfl, q2, Or.inr ⟨rfl, -4, s, ?_, ?_, Or.inl ⟨rfl, rfl⟩⟩⟩
    · unfold f_X10_doubtsNow
      rw [pz_KR hnu1, Option.bind_some, hK1, a1, Option.bind_some, b1]
      rfl
    · exact pz_fr q5 (pz_eC_rf x1) (nz_eR0 (fun k h1 h2 h3 => by rw [b2 k h1 h2 h3, hy0 k h1]) (fun j hj => by rw [b3 j hj, hy00 j hj]))
  rw [if_pos (by rw [z_le, hzI, e12]; omega)]
  obtain ⟨x2, c1, c2, c3, c4, c5, c6'⟩ := nz_candC (x := x1) (K := pz_K y) (by rw [e40]; exact b0) h41'
  obtain ⟨c, hc⟩ := z_cand (pz_tb (pz_K y)) (y.1 0 6).toNatClampNeg
  rw [e40] at c5
  generalize hNe : z_on (pz_tb (pz_K y)) (y.1 0 6).toNatClampNeg = N at *
  have hinj : ∀ i j, i < N → j < N → c i = c j → i = j := by
    intro i j hi hj hij
    rw [← (hc i hi).2.2, ← (hc j hj).2.2, hij]
  have hD : nz_DR N c x2 (ax_ul s 0 27 (0 : Int64)) := by
    refine ⟨?_, c5, b5, ?_, ?_⟩
    · refine pz_fr q5 (nz_eC4 (fun k h1 h2 _ => c2 k h1 h2)) (nz_eR0 (fun k h1 h2 h3 => ?_) (fun j hj => ?_))
      · show s.1 k = _
        rw [b2 k h1 h2 h3, hy0 k h1]
      · show s.1 0 j = _
        rw [b3 j hj, hy00 j hj]
    · intro i hi
      obtain ⟨p1, p2, p3⟩ := hc i hi
      refine ⟨?_, ?_, ?_⟩
      · have := c6' (c i) (by omega) p2
        rw [p3] at this
        exact this
      · have := b6 (c i) p1 p2
        rw [p3] at this
        exact this
      · rw [c2 30 (by omega) (by omega), h30 (c i) (by omega)]
        exact (b7 i hi).symm
    · rw [c4, h43', z_ulv]
  have h06 : (ax_ul s 0 27 (0 : Int64)).1 0 6 = nI (y.1 0 6).toNatClampNeg := by
    show s.1 0 6 = _
    rw [b3 6 (by omega), hy00 6 (by omega), q4.1 0 (by omega)]; exact hR6
  obtain ⟨x3, y3, d1, d2, d3⟩ := nz_sizes (R := (y.1 0 6).toNatClampNeg) b0 (by omega) (fun i hi => (hc i hi).1) hinj (pz_K y) hD h06 (by rw [c4, h43'])
  refine ⟨0, 0, x3, y1, ?_, q2, Or.inr ⟨rfl, 0, y3, ?_, d3.1, Or.inr ⟨rfl, rfl, N, c, b0, d3, fun i hi => by have := (hc i hi).1; omega, hinj, ?_⟩⟩⟩
  · unfold f_X3_search
    rw [c1, Option.bind_some, d1, Option.bind_some, Option.bind_some]
  · unfold f_X10_doubtsNow
    rw [pz_KR hnu1, Option.bind_some, hK1, a1, Option.bind_some, b1]
    show (ax_lp (b_X10_doubtsNow_91 (pz_K y)) ((0 : Int32), (0 : Int32), (1 : Int32), (ax_ul s 0 27 (0 : Int64)))).bind _ = _
    rw [d2, Option.bind_some]
  · intro r hr
    have hrR : r < (y.1 0 6).toNatClampNeg := by
      apply Classical.byContradiction
      intro q
      rw [hbig r (by omega)] at hr
      exact absurd hr (by decide)
    have hm := z_on_mono (pz_tb (pz_K y)) (show r + 1 ≤ (y.1 0 6).toNatClampNeg by omega)
    rw [z_on_s1 hr, hNe] at hm
    refine ⟨z_on (pz_tb (pz_K y)) r, by omega, ?_⟩
    obtain ⟨p1, p2, p3⟩ := hc (z_on (pz_tb (pz_K y)) r) (by omega)
    exact z_on_inj p2 hr p3
theorem lq_doubts_ok : lq_doubts pz_I := by
  intro x y hI
  obtain ⟨fl, w, x', y1, h1, h2, h3⟩ := nz_look hI
  unfold f_X9_doubts f_X10_doubts
  rw [pz_KC hI, Option.bind_some, h1, h2, Option.bind_some, Option.bind_some]
  dsimp only
  rcases h3 with ⟨rfl, rfl, a1, a2, -⟩ | ⟨rfl, w', y2, b1, b2, b3⟩
  · rw [if_pos (by decide), if_neg pz_one, a2]
    exact ⟨_, _, _, rfl, rfl, a1⟩
  · rw [if_pos rfl, b1, Option.bind_some]
    dsimp only
    rcases b3 with ⟨rfl, rfl⟩ | ⟨rfl, rfl, N, c, -, hD, -⟩
    · rw [if_neg (by decide), if_pos rfl, pz_asL4, Option.bind_some]
      exact ⟨_, _, _, rfl, rfl, b2⟩
    · rw [if_pos (by decide), if_neg (by decide), hD.2.2.2.2]
      exact ⟨_, _, _, rfl, rfl, b2⟩
theorem lq_blamed_ok : lq_blamed pz_I := by
  intro x y p hI
  have hI' := hI
  obtain ⟨hsc, har, hsh, hnu, hbk, hrw, htx⟩ := hI
  have hnu' := hnu
  obtain ⟨n1, n2, n3, n4, n5, n6, n7, n8, n9, n10, n11, n12⟩ := hnu
  have c6 := z_cl n9
  have s6 : x.1 2 7 = y.1 0 6 := hsc.2.2.2.2.2.1
  unfold f_X9_blamed f_X10_blamed
  rw [pz_isRowC, s6, pz_inm _ _ n9]
  simp only [Option.bind_some, pz_if0]
  by_cases hp : 0 ≤ p.toInt ∧ p.toInt < (y.1 0 6).toInt
  case neg => rw [if_neg hp, if_neg hp]; exact ⟨_, _, _, rfl, rfl, hI'⟩
  rw [if_pos hp, if_pos hp, pz_KC hI', Option.bind_some, pz_knR2 y p hp.1 (by omega), Option.bind_some, pz_if0]
  have cp := z_cl hp.1
  have hpe : p = nI p.toNatClampNeg := z_of hp.1
  have hkn : pz_tb (pz_K y) p.toNatClampNeg = true ↔ pz_kn y (pz_vd y) p.toNatClampNeg = true := by
    rw [z_K_tb hnu']
    have : p.toNatClampNeg < (y.1 0 6).toNatClampNeg := by omega
    simp [this]
  have htC := z_tC (pz_K y) (r := p.toNatClampNeg) (by omega)
  rw [← hpe] at htC
  by_cases hk : pz_tb (pz_K y) p.toNatClampNeg = true
  case neg =>
    have hk' : pz_tb (pz_K y) p.toNatClampNeg = false := by
      cases q : pz_tb (pz_K y) p.toNatClampNeg with
      | false => rfl
      | true => exact absurd q hk
    rw [if_pos (htC.mpr hk'), if_neg (fun q => hk (hkn.mpr q))]
    exact ⟨_, _, _, rfl, rfl, hI'⟩
  rw [if_neg (fun q => by rw [htC] at q; rw [q] at hk; exact absurd hk (by decide)), if_pos (hkn.mp hk)]
  obtain ⟨fl, w, x', y1, h1, h2, h3⟩ := nz_look hI'
  rw [h1, h2, Option.bind_some, Option.bind_some]
  dsimp only
  rcases h3 with ⟨rfl, rfl, a1, -, a3⟩ | ⟨rfl, w', y2, b1, b2, b3⟩
  · rw [if_pos (by decide), if_neg pz_one, z_ai (Sd := cx_C) (n := 40) rfl hp.1 (by omega), Option.bind_some, a3 _ (by omega)]
    exact ⟨_, _, _, rfl, rfl, a1⟩
  rw [if_pos rfl, b1, Option.bind_some]
  dsimp only
  rcases b3 with ⟨rfl, rfl⟩ | ⟨rfl, rfl, N, c, hN, hD, hc, hinj, hall⟩
  · rw [if_neg (by decide), if_pos rfl]
    exact ⟨_, _, _, rfl, rfl, b2⟩
  rw [if_pos (by decide), if_neg (by decide), z_ai (Sd := cx_C) (n := 40) rfl hp.1 (by omega), Option.bind_some]
  obtain ⟨i0, hi0, hci⟩ := hall _ hk
  obtain ⟨d1, d2, d3, d4, d5⟩ := hD
  have hNI : (nI N).toInt = (N : Int) := z_nI (by omega)
  obtain ⟨e, k1, k2⟩ := z_inv (f := b_X10_blamed_51 p y2) (fun a => ∃ k, k ≤ i0 ∧ a = nI k) (fun e => e = .inr (y2.1 18 i0, y2)) (fun a => N - a.toNatClampNeg) (by
    rintro _ ⟨k, hk, rfl⟩
    have hkI : (nI k).toInt = (k : Int) := z_nI (by omega)
    have hkc := nI_cl (k := k) (by omega)
    unfold b_X10_blamed_51
    rw [d3, if_neg (by rw [z_le]; omega), z_ai (Sd := cx_R) (a := 17) (n := 12) rfl (by omega) (by omega), Option.bind_some, hkc, (d4 k (by omega)).2.1, z_ai (Sd := cx_R) (a := 18) (n := 12) rfl (by omega) (by omega), Option.bind_some, hkc]
    by_cases q : k = i0
    · left
      rw [if_pos (by rw [q, hci, ← hpe]), q]
      exact ⟨_, rfl, rfl⟩
    · right
      rw [if_neg (by
        intro z
        rw [hpe, nI_eq (by have := hc k (by omega); omega) (by omega), ← hci] at z
        exact q (hinj k i0 (by omega) hi0 z))]
      refine ⟨_, rfl, ⟨k + 1, by omega, nI_s k⟩, ?_⟩
      rw [nI_s, nI_cl (by omega)]; omega)
    (a := (0 : Int32)) ⟨0, Nat.zero_le _, rfl⟩
  rw [k1, Option.bind_some, k2]
  refine ⟨y2.1 18 i0, x', y2, ?_, rfl, b2⟩
  rw [← (d4 i0 hi0).2.2, hci]

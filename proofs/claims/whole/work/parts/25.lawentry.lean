theorem lw_t1 {w : Cond} (j : Nat) (h : tables_1_1[j]? = some w) : w ∈ lw_tbl := List.mem_append_right _ (List.mem_append_left _ (List.mem_of_getElem? h))
theorem lw_t2 {w : Cond} (j : Nat) (h : tables_1_2[j]? = some w) : w ∈ lw_tbl := List.mem_append_right _ (List.mem_append_right _ (List.mem_append_left _ (List.mem_of_getElem? h)))
theorem lw_t3 {w : Cond} (j : Nat) (h : tables_1_3[j]? = some w) : w ∈ lw_tbl := List.mem_append_right _ (List.mem_append_right _ (List.mem_append_right _ (List.mem_append_left _ (List.mem_of_getElem? h))))
theorem lw_t4 {w : Cond} (j : Nat) (h : tables_1_4[j]? = some w) : w ∈ lw_tbl := List.mem_append_right _ (List.mem_append_right _ (List.mem_append_right _ (List.mem_append_right _ (List.mem_append_left _ (List.mem_of_getElem? h)))))
theorem lw_t5 {w : Cond} (j : Nat) (h : tables_1_5[j]? = some w) : w ∈ lw_tbl := List.mem_append_right _ (List.mem_append_right _ (List.mem_append_right _ (List.mem_append_right _ (List.mem_append_right _ (List.mem_append_left _ (List.mem_of_getElem? h))))))
theorem lw_t6 {w : Cond} (j : Nat) (h : tables_1_6[j]? = some w) : w ∈ lw_tbl := List.mem_append_right _ (List.mem_append_right _ (List.mem_append_right _ (List.mem_append_right _ (List.mem_append_right _ (List.mem_append_right _ (List.mem_of_getElem? h))))))
theorem lw_nl_in : ∀ q ∈ nl_X9, Cond.methodLinkNest q.1 q.2.1 q.2.2.1 q.2.2.2 ∈ lw_tbl := List.forall_mem_cons.mpr ⟨(lw_t1 27 rfl), List.forall_mem_cons.mpr ⟨(lw_t1 33 rfl), List.forall_mem_cons.mpr ⟨(lw_t1 80 rfl), List.forall_mem_cons.mpr ⟨(lw_t1 151 rfl), List.forall_mem_cons.mpr ⟨(lw_t1 175 rfl), List.forall_mem_cons.mpr ⟨(lw_t1 198 rfl), List.forall_mem_cons.mpr ⟨(lw_t1 220 rfl), List.forall_mem_cons.mpr ⟨(lw_t2 11 rfl), fun _ h => absurd h List.not_mem_nil⟩⟩⟩⟩⟩⟩⟩⟩
theorem lw_tb_in : ∀ w ∈ ax_tb, w ∈ lw_tbl := fun w h => (List.mem_filter.mp h).1
/-- the world of the class does not feel where the statics' rows lie -/
def lw_ad (ad : Nat → Nat) (t0 t1 t2 : Nat) : Nat → Nat := fun k => if k = 100 then t0 else if k = 101 then t1 else if k = 102 then t2 else ad k
set_option maxRecDepth 10000 in
theorem lw_ad_ws (D : va_G) (ad : Nat → Nat) (cI cJ cZ : ClassId) (t0 t1 t2 : Nat) (s : ax_S) : ax_ws cx_C.1 (D, lw_ad ad t0 t1 t2, cI, cJ, cZ) s = ax_ws cx_C.1 (D, ad, cI, cJ, cZ) s := rfl
theorem lw_st0 {s : State} {b : Nat} (hgv : (Jvm.Cond.and given_1 narrow_1).before #[Value.ref b] s = true) (hts : ∀ w ∈ lw_tbl, w.before #[Value.ref b] s = true) : ∃ t : Nat, va_Z "WhenItWas$Calendar" "MONTH_DAYS" "[I" (.ref t) (fun q => s.heap.size ≤ q) s s.heap ∧ va_T .int t 12 (fun j => .int (cx_f0 j)) (fun q => s.heap.size ≤ q) s s.heap := by
  have hs := flat_of_before _ hgv
  have hA : ∀ a : Nat, a < s.heap.size → ¬ (fun q => s.heap.size ≤ q) a := fun a h => Nat.not_le.mpr h
  have h1 : (Cond.arrayOf (Term.static "WhenItWas$Calendar" "MONTH_DAYS" "[I") .int).before #[Value.ref b] s = true := hs _ (by decide +kernel)
  have h2 : (Cond.eq (.length (Term.static "WhenItWas$Calendar" "MONTH_DAYS" "[I")) (.int 12)).before #[Value.ref b] s = true := hs _ (by decide +kernel)
  have e0 : (Cond.eq (.elem (Term.static "WhenItWas$Calendar" "MONTH_DAYS" "[I") (.int 0)) (.int (31))).before #[Value.ref b] s = true := hs _ (by decide +kernel)
  have e1 : (Cond.eq (.elem (Term.static "WhenItWas$Calendar" "MONTH_DAYS" "[I") (.int 1)) (.int (28))).before #[Value.ref b] s = true := hs _ (by decide +kernel)
  have e2 : (Cond.eq (.elem (Term.static "WhenItWas$Calendar" "MONTH_DAYS" "[I") (.int 2)) (.int (31))).before #[Value.ref b] s = true := hs _ (by decide +kernel)
  have e3 : (Cond.eq (.elem (Term.static "WhenItWas$Calendar" "MONTH_DAYS" "[I") (.int 3)) (.int (30))).before #[Value.ref b] s = true := hs _ (by decide +kernel)
  have e4 : (Cond.eq (.elem (Term.static "WhenItWas$Calendar" "MONTH_DAYS" "[I") (.int 4)) (.int (31))).before #[Value.ref b] s = true := hs _ (by decide +kernel)
  have e5 : (Cond.eq (.elem (Term.static "WhenItWas$Calendar" "MONTH_DAYS" "[I") (.int 5)) (.int (30))).before #[Value.ref b] s = true := hs _ (by decide +kernel)
  have e6 : (Cond.eq (.elem (Term.static "WhenItWas$Calendar" "MONTH_DAYS" "[I") (.int 6)) (.int (31))).before #[Value.ref b] s = true := hs _ (by decide +kernel)
  have e7 : (Cond.eq (.elem (Term.static "WhenItWas$Calendar" "MONTH_DAYS" "[I") (.int 7)) (.int (31))).before #[Value.ref b] s = true := hs _ (by decide +kernel)
  have e8 : (Cond.eq (.elem (Term.static "WhenItWas$Calendar" "MONTH_DAYS" "[I") (.int 8)) (.int (30))).before #[Value.ref b] s = true := hs _ (by decide +kernel)
  have e9 : (Cond.eq (.elem (Term.static "WhenItWas$Calendar" "MONTH_DAYS" "[I") (.int 9)) (.int (31))).before #[Value.ref b] s = true := hs _ (by decide +kernel)
  have e10 : (Cond.eq (.elem (Term.static "WhenItWas$Calendar" "MONTH_DAYS" "[I") (.int 10)) (.int (30))).before #[Value.ref b] s = true := hs _ (by decide +kernel)
  have e11 : (Cond.eq (.elem (Term.static "WhenItWas$Calendar" "MONTH_DAYS" "[I") (.int 11)) (.int (31))).before #[Value.ref b] s = true := hs _ (by decide +kernel)
  obtain ⟨t, ht, hT⟩ := va_Tof (tm := (Term.static "WhenItWas$Calendar" "MONTH_DAYS" "[I")) (ty := .int) (N := 12) (f := fun j => .int (cx_f0 j)) (A := fun q => s.heap.size ≤ q) (by decide) h1 (va_eqt h2) (fun j hj => by
    rcases (show j = 0 ∨ j = 1 ∨ j = 2 ∨ j = 3 ∨ j = 4 ∨ j = 5 ∨ j = 6 ∨ j = 7 ∨ j = 8 ∨ j = 9 ∨ j = 10 ∨ j = 11 by omega) with rfl | rfl | rfl | rfl | rfl | rfl | rfl | rfl | rfl | rfl | rfl | rfl
    · exact va_eqt e0
    · exact va_eqt e1
    · exact va_eqt e2
    · exact va_eqt e3
    · exact va_eqt e4
    · exact va_eqt e5
    · exact va_eqt e6
    · exact va_eqt e7
    · exact va_eqt e8
    · exact va_eqt e9
    · exact va_eqt e10
    · exact va_eqt e11
    ) hA
  exact ⟨t, va_Zref (hts _ (lw_t4 6 rfl)) (hts _ (lw_t1 16 rfl)) ht hA, hT⟩
theorem lw_st1 {s : State} {b : Nat} (hgv : (Jvm.Cond.and given_1 narrow_1).before #[Value.ref b] s = true) (hts : ∀ w ∈ lw_tbl, w.before #[Value.ref b] s = true) : ∃ t : Nat, va_Z "WhenItWas$Calendar" "DAYS_BEFORE_MONTH" "[I" (.ref t) (fun q => s.heap.size ≤ q) s s.heap ∧ va_T .int t 12 (fun j => .int (cx_f1 j)) (fun q => s.heap.size ≤ q) s s.heap := by
  have hs := flat_of_before _ hgv
  have hA : ∀ a : Nat, a < s.heap.size → ¬ (fun q => s.heap.size ≤ q) a := fun a h => Nat.not_le.mpr h
  have h1 : (Cond.arrayOf (Term.static "WhenItWas$Calendar" "DAYS_BEFORE_MONTH" "[I") .int).before #[Value.ref b] s = true := hs _ (by decide +kernel)
  have h2 : (Cond.eq (.length (Term.static "WhenItWas$Calendar" "DAYS_BEFORE_MONTH" "[I")) (.int 12)).before #[Value.ref b] s = true := hs _ (by decide +kernel)
  have e0 : (Cond.eq (.elem (Term.static "WhenItWas$Calendar" "DAYS_BEFORE_MONTH" "[I") (.int 0)) (.int (0))).before #[Value.ref b] s = true := hs _ (by decide +kernel)
  have e1 : (Cond.eq (.elem (Term.static "WhenItWas$Calendar" "DAYS_BEFORE_MONTH" "[I") (.int 1)) (.int (31))).before #[Value.ref b] s = true := hs _ (by decide +kernel)
  have e2 : (Cond.eq (.elem (Term.static "WhenItWas$Calendar" "DAYS_BEFORE_MONTH" "[I") (.int 2)) (.int (59))).before #[Value.ref b] s = true := hs _ (by decide +kernel)
  have e3 : (Cond.eq (.elem (Term.static "WhenItWas$Calendar" "DAYS_BEFORE_MONTH" "[I") (.int 3)) (.int (90))).before #[Value.ref b] s = true := hs _ (by decide +kernel)
  have e4 : (Cond.eq (.elem (Term.static "WhenItWas$Calendar" "DAYS_BEFORE_MONTH" "[I") (.int 4)) (.int (120))).before #[Value.ref b] s = true := hs _ (by decide +kernel)
  have e5 : (Cond.eq (.elem (Term.static "WhenItWas$Calendar" "DAYS_BEFORE_MONTH" "[I") (.int 5)) (.int (151))).before #[Value.ref b] s = true := hs _ (by decide +kernel)
  have e6 : (Cond.eq (.elem (Term.static "WhenItWas$Calendar" "DAYS_BEFORE_MONTH" "[I") (.int 6)) (.int (181))).before #[Value.ref b] s = true := hs _ (by decide +kernel)
  have e7 : (Cond.eq (.elem (Term.static "WhenItWas$Calendar" "DAYS_BEFORE_MONTH" "[I") (.int 7)) (.int (212))).before #[Value.ref b] s = true := hs _ (by decide +kernel)
  have e8 : (Cond.eq (.elem (Term.static "WhenItWas$Calendar" "DAYS_BEFORE_MONTH" "[I") (.int 8)) (.int (243))).before #[Value.ref b] s = true := hs _ (by decide +kernel)
  have e9 : (Cond.eq (.elem (Term.static "WhenItWas$Calendar" "DAYS_BEFORE_MONTH" "[I") (.int 9)) (.int (273))).before #[Value.ref b] s = true := hs _ (by decide +kernel)
  have e10 : (Cond.eq (.elem (Term.static "WhenItWas$Calendar" "DAYS_BEFORE_MONTH" "[I") (.int 10)) (.int (304))).before #[Value.ref b] s = true := hs _ (by decide +kernel)
  have e11 : (Cond.eq (.elem (Term.static "WhenItWas$Calendar" "DAYS_BEFORE_MONTH" "[I") (.int 11)) (.int (334))).before #[Value.ref b] s = true := hs _ (by decide +kernel)
  obtain ⟨t, ht, hT⟩ := va_Tof (tm := (Term.static "WhenItWas$Calendar" "DAYS_BEFORE_MONTH" "[I")) (ty := .int) (N := 12) (f := fun j => .int (cx_f1 j)) (A := fun q => s.heap.size ≤ q) (by decide) h1 (va_eqt h2) (fun j hj => by
    rcases (show j = 0 ∨ j = 1 ∨ j = 2 ∨ j = 3 ∨ j = 4 ∨ j = 5 ∨ j = 6 ∨ j = 7 ∨ j = 8 ∨ j = 9 ∨ j = 10 ∨ j = 11 by omega) with rfl | rfl | rfl | rfl | rfl | rfl | rfl | rfl | rfl | rfl | rfl | rfl
    · exact va_eqt e0
    · exact va_eqt e1
    · exact va_eqt e2
    · exact va_eqt e3
    · exact va_eqt e4
    · exact va_eqt e5
    · exact va_eqt e6
    · exact va_eqt e7
    · exact va_eqt e8
    · exact va_eqt e9
    · exact va_eqt e10
    · exact va_eqt e11
    ) hA
  exact ⟨t, va_Zref (hts _ (lw_t4 16 rfl)) (hts _ (lw_t1 16 rfl)) ht hA, hT⟩
theorem lw_st2 {s : State} {b : Nat} (hgv : (Jvm.Cond.and given_1 narrow_1).before #[Value.ref b] s = true) (hts : ∀ w ∈ lw_tbl, w.before #[Value.ref b] s = true) : ∃ t : Nat, va_Z "WhenItWas$Calendar" "FIRST_DAY" "[I" (.ref t) (fun q => s.heap.size ≤ q) s s.heap ∧ va_T .int t 2 (fun j => .int (cx_f2 j)) (fun q => s.heap.size ≤ q) s s.heap := by
  have hs := flat_of_before _ hgv
  have hA : ∀ a : Nat, a < s.heap.size → ¬ (fun q => s.heap.size ≤ q) a := fun a h => Nat.not_le.mpr h
  have h1 : (Cond.arrayOf (Term.static "WhenItWas$Calendar" "FIRST_DAY" "[I") .int).before #[Value.ref b] s = true := hs _ (by decide +kernel)
  have h2 : (Cond.eq (.length (Term.static "WhenItWas$Calendar" "FIRST_DAY" "[I")) (.int 2)).before #[Value.ref b] s = true := hs _ (by decide +kernel)
  have e0 : (Cond.eq (.elem (Term.static "WhenItWas$Calendar" "FIRST_DAY" "[I") (.int 0)) (.int (-72744))).before #[Value.ref b] s = true := hs _ (by decide +kernel)
  have e1 : (Cond.eq (.elem (Term.static "WhenItWas$Calendar" "FIRST_DAY" "[I") (.int 1)) (.int (-72742))).before #[Value.ref b] s = true := hs _ (by decide +kernel)
  obtain ⟨t, ht, hT⟩ := va_Tof (tm := (Term.static "WhenItWas$Calendar" "FIRST_DAY" "[I")) (ty := .int) (N := 2) (f := fun j => .int (cx_f2 j)) (A := fun q => s.heap.size ≤ q) (by decide) h1 (va_eqt h2) (fun j hj => by
    rcases (show j = 0 ∨ j = 1 by omega) with rfl | rfl
    · exact va_eqt e0
    · exact va_eqt e1
    ) hA
  exact ⟨t, va_Zref (hts _ (lw_t4 11 rfl)) (hts _ (lw_t1 16 rfl)) ht hA, hT⟩
set_option maxHeartbeats 8000000 in
set_option maxRecDepth 10000 in
theorem lw_start {I : ax_S → ax_S → Prop} (hI : I s0_X9 s0_X10) (hall : lw_all I) {p : Program} {e : Env} {s : State} {m : MethodId} {below : List Frame} {meth : Method} {c : Code} (l : Launch) {b L : Nat} {xs : Nat → Int32} (hL : L ≤ 3072) (C0 : lw_At p s m meth c b L xs) : W p l e room_1 s m #[Value.ref b] below meth c s.heap [] 0 0 (lw_Z below #[Value.ref b] s) (entryFrame m ([Value.ref b] : List Value).toArray 4) := by
  obtain ⟨hx, hb, hr, hml, hown, hts0, hX, hbl, hlocks, hgv⟩ := id C0
  have hts : ∀ w ∈ ax_tb, w.before #[Value.ref b] s = true := fun w h => hts0 w (lw_tb_in w h)
  obtain ⟨c0, i0, hK0⟩ := u_known (C := RX0) (T := TX0) (N := 4) (n := 4) hts in2X0 (hts (.instantiable RX0 4) (ax_m1 79 rfl rfl))
  obtain ⟨c1, i1, hK1⟩ := u_known (C := RX2) (T := TX2) (N := 7) (n := 7) hts in2X2 (hts (.instantiable RX2 7) (ax_m1 219 rfl rfl))
  obtain ⟨c2, i2, hK2⟩ := u_known (C := RX3) (T := TX3) (N := 5) (n := 5) hts in2X3 (hts (.instantiable RX3 5) (ax_m1 150 rfl rfl))
  obtain ⟨c3, i3, hK3⟩ := u_known (C := RX4) (T := TX4) (N := 4) (n := 4) hts in2X4 (hts (.instantiable RX4 4) (ax_m1 197 rfl rfl))
  obtain ⟨c4, i4, hK4⟩ := u_known (C := RX5) (T := TX5) (N := 5) (n := 5) hts in2X5 (hts (.instantiable RX5 5) (ax_m1 174 rfl rfl))
  obtain ⟨c5, i5, hK5⟩ := u_known (C := RX6) (T := TX6) (N := 13) (n := 13) hts in2X6 (hts (.instantiable RX6 13) (ax_m1 26 rfl rfl))
  obtain ⟨c6, i6, hK6⟩ := u_known (C := RX7) (T := TX7) (N := 8) (n := 8) hts in2X7 (hts (.instantiable RX7 8) (ax_m1 32 rfl rfl))
  obtain ⟨c7, i7, hK7⟩ := u_known (C := RX8) (T := TX8) (N := 3) (n := 3) hts in2X8 (hts (.instantiable RX8 3) (ax_m2 10 rfl rfl))
  obtain ⟨c8, i8, hK8⟩ := u_known (C := RX9) (T := TX9) (N := 12) (n := 12) hts in2X9 (hts (.instantiable RX9 12) (ax_m1 18 rfl rfl))
  obtain ⟨c9, i9, hK9⟩ := u_known (C := RX10) (T := TX10) (N := 42) (n := 42) hts in2X10 (hts (.instantiable RX10 42) (ax_m4 164 rfl rfl))
  obtain ⟨dC, dI, hKc⟩ : ∃ (dC : Nat → ClassId) (dI : Nat → Nat → Nat), ∀ (k : Nat) (q : vw_C), cx_cls[k]? = some q → u_Kn s q.1 q.2.1 q.2.2 (dC k) (dI k) := by
    refine ⟨fun k => [c0, c1, c2, c3, c4, c5, c6, c7, c8, c9].getD k c0, fun k => [i0, i1, i2, i3, i4, i5, i6, i7, i8, i9].getD k i0, ?_⟩
    intro k q hq
    match k, hq with
    | 0, hq => cases hq; exact hK0
    | 1, hq => cases hq; exact hK1
    | 2, hq => cases hq; exact hK2
    | 3, hq => cases hq; exact hK3
    | 4, hq => cases hq; exact hK4
    | 5, hq => cases hq; exact hK5
    | 6, hq => cases hq; exact hK6
    | 7, hq => cases hq; exact hK7
    | 8, hq => cases hq; exact hK8
    | 9, hq => cases hq; exact hK9
    | k + 10, hq => simp [cx_cls] at hq
  obtain ⟨cI, kI, pI, fI, gI, uI⟩ := Cond.arrayClass_spec (hts _ ca_int)
  obtain ⟨cJ, kJ, pJ, fJ, gJ, uJ⟩ := Cond.arrayClass_spec (hts _ ca_long)
  obtain ⟨cZ, kZ, pZ, fZ, gZ, uZ⟩ := Cond.arrayClass_spec (hts _ ca_boolean)
  have hK : va_K (dC, dI) cx_cls (cn_tys cI cJ cZ) s := by
    refine ⟨hKc, fun k q hq => ?_⟩
    match k, hq with
    | 0, hq => cases hq; exact ⟨fun n z => ⟨fun k h => (by cases h), kI, gI, pI, uI⟩, fI⟩
    | 1, hq => cases hq; exact ⟨fun n z => ⟨fun k h => (by cases h), kJ, gJ, pJ, uJ⟩, fJ⟩
    | 2, hq => cases hq; exact ⟨fun n z => ⟨fun k h => (by cases h), kZ, gZ, pZ, uZ⟩, fZ⟩
    | k + 3, hq => simp [cn_tys] at hq
  obtain ⟨t0, z0, y0⟩ := lw_st0 hgv hts0
  obtain ⟨t1, z1, y1⟩ := lw_st1 hgv hts0
  obtain ⟨t2, z2, y2⟩ := lw_st2 hgv hts0
  have hVe : ∃ V : cn_V, V = ((p, l, e, room_1, s, m, #[Value.ref b], below, meth, c), ((dC, dI), cI, cJ, cZ), (fun q => s.heap.size ≤ q), lw_Z below #[Value.ref b] s) := ⟨_, rfl⟩
  obtain ⟨V, hVe⟩ := hVe
  have hV : cn_ok V mu_law 67 14394 := by
    rw [hVe]
    exact ⟨hx, hb, hml, hown, hts, hK, fun q h => h, hr, hlocks, rfl⟩
  have hnw : cn_nw nl_X9 V.1.2.2.2.2.1 := by
    rw [hVe]
    exact fun q hq => va_Nw.of rfl (hts0 _ (lw_nl_in q hq))
  have main : cn_At V 0 [some (.ref b), none, none, none] [] [] 0 0 := by
    refine cn_new hV (ci := 8) dL_law_0 rfl in2X9 tyX9 tyX9_ok (ax_m1 17 rfl rfl) (ax_m1 18 rfl rfl) (ax_m1 1 rfl rfl) [.null, .null, .null, .null, .null, .null, .null, .null, .int 0, .int 0, .int 0, .int 0] (fun j hj => by rcases (show j = 0 ∨ j = 1 ∨ j = 2 ∨ j = 3 ∨ j = 4 ∨ j = 5 ∨ j = 6 ∨ j = 7 ∨ j = 8 ∨ j = 9 ∨ j = 10 ∨ j = 11 by omega) with rfl | rfl | rfl | rfl | rfl | rfl | rfl | rfl | rfl | rfl | rfl | rfl <;> rfl) (by decide) (by decide) (fun q0 => ?_)
    refine cn_dup hV dL_law_3 rfl ?_
    refine cn_callI hV c_X9_init hnw (ax_m1 19 rfl rfl) (ax_m1 20 rfl rfl) (ax_m1 1 rfl rfl) lc_X9_init rfl ⟨by decide +kernel, by decide +kernel, by decide +kernel⟩ rfl rfl (by decide) (by decide) dL_law_4 rfl (fun adC h4 => ?_)
    subst h4
    refine cn_astore_n hV [some (.ref b), some (.ref (adC 0)), none, none] dL_law_7 rfl rfl ?_
    refine cn_new hV (ci := 9) dL_law_8 rfl in2X10 tyX10 tyX10_ok (ax_m4 163 rfl rfl) (ax_m4 164 rfl rfl) (ax_m1 10 rfl rfl) [.int 0, .int 0, .int 0, .null, .null, .null, .int 0, .null, .null, .null, .null, .null, .null, .null, .int 0, .null, .null, .null, .int 0, .int 0, .int 0, .null, .null, .null, .null, .int 0, .null, .long 0, .null, .null, .int 0, .null, .int 0, .int 0, .int 0, .int 0, .null, .null, .null, .null, .null, .int 0] (fun j hj => by rcases (show j = 0 ∨ j = 1 ∨ j = 2 ∨ j = 3 ∨ j = 4 ∨ j = 5 ∨ j = 6 ∨ j = 7 ∨ j = 8 ∨ j = 9 ∨ j = 10 ∨ j = 11 ∨ j = 12 ∨ j = 13 ∨ j = 14 ∨ j = 15 ∨ j = 16 ∨ j = 17 ∨ j = 18 ∨ j = 19 ∨ j = 20 ∨ j = 21 ∨ j = 22 ∨ j = 23 ∨ j = 24 ∨ j = 25 ∨ j = 26 ∨ j = 27 ∨ j = 28 ∨ j = 29 ∨ j = 30 ∨ j = 31 ∨ j = 32 ∨ j = 33 ∨ j = 34 ∨ j = 35 ∨ j = 36 ∨ j = 37 ∨ j = 38 ∨ j = 39 ∨ j = 40 ∨ j = 41 by omega) with rfl | rfl | rfl | rfl | rfl | rfl | rfl | rfl | rfl | rfl | rfl | rfl | rfl | rfl | rfl | rfl | rfl | rfl | rfl | rfl | rfl | rfl | rfl | rfl | rfl | rfl | rfl | rfl | rfl | rfl | rfl | rfl | rfl | rfl | rfl | rfl | rfl | rfl | rfl | rfl | rfl | rfl <;> rfl) (by decide) (by decide) (fun q1 => ?_)
    refine cn_dup hV dL_law_11 rfl ?_
    refine cn_callI (NL' := nl_X10) hV c_X10_init (fun q hq => absurd hq (by simp [nl_X10])) (ax_m4 165 rfl rfl) (ax_m4 166 rfl rfl) (ax_m1 10 rfl rfl) lc_X10_init rfl ⟨by decide +kernel, by decide +kernel, by decide +kernel⟩ rfl rfl (by decide) (by decide) dL_law_12 rfl (fun adR h12 => ?_)
    subst h12
    refine cn_astore_n hV [some (.ref b), some (.ref (adC 0)), some (.ref (adR 0)), none] dL_law_15 rfl rfl ?_
    refine cn_iconst hV (0 : Int32) dL_law_16 (by decide) ?_
    refine cn_istore_n hV [some (.ref b), some (.ref (adC 0)), some (.ref (adR 0)), some (.int 0)] dL_law_17 rfl rfl ?_
    have hC : lw_C V (lw_ad adC t0 t1 t2) adR b L xs := by
      refine ⟨hV, ?_, ?_, ?_, ?_⟩
      · rw [hVe]
        intro q hq
        simp only [cx_C, List.mem_cons, List.not_mem_nil, or_false] at hq
        rcases hq with rfl | rfl | rfl
        · exact ⟨z0, y0⟩
        · exact ⟨z1, y1⟩
        · exact ⟨z2, y2⟩
      · rw [hVe]; exact hX
      · rw [hVe]; exact hbl
      · rw [hVe]; exact Nat.not_le.mpr hbl
    have hend : ∀ (lv : List (Option Value)) (ws : va_W), cn_At V 1535 lv [.int 1] ws 67 14394 := fun lv ws => cn_lret hVe hV dL_law_1535.1
    have hloop := lw_loop hL hC hall hend (L + 1) 0 s0_X9 s0_X10 (Nat.zero_le _) (by omega) hI
    have ew : cn_W V (lw_ad adC t0 t1 t2) adR s0_X9 s0_X10 = ([] ++ ax_ws cx_C.1 (cn_G V adC) s0_X9) ++ ax_ws cx_R.1 (cn_G V adR) s0_X10 := by
      rw [List.nil_append]
      exact congrArg (fun z => z ++ ax_ws cx_R.1 (cn_G V adR) s0_X10) (lw_ad_ws V.2.1.1 adC V.2.1.2.1 V.2.1.2.2.1 V.2.1.2.2.2 t0 t1 t2 s0_X9)
    rw [ew] at hloop
    exact hloop
  have hl := lv_entry ([Value.ref b]) (n := 4) (Nat.le_of_ble_eq_true rfl)
  rw [lg_entry_eq]
  generalize (lg_sl ([Value.ref b]) ++ List.replicate (4 - (lg_sl ([Value.ref b])).length) Slot.unset).toArray = ls at hl ⊢
  rw [hVe] at main
  refine main s.heap [] ls (fun k q h => by simp at h) ⟨fun i j p q h => by simp at h, fun k q h => by simp at h⟩ va_S.rf ⟨by rw [hl.1]; exact hml.symm, hl.2.1, fun i v hi => ?_⟩
  match i, hi with
  | 0, hi =>
    cases hi
    exact hl.2.2 (0, .ref b) (by simp [lv_args])
  | 1, hi => cases hi
  | 2, hi => cases hi
  | 3, hi => cases hi
  | i + 4, hi => simp at hi

def mu_X0_open : ax_Mu := (yX0_open, cX0_open, 3, some .int, 0, 0)
theorem lc_X0_open : Cond.code mu_X0_open.1 mu_X0_open.2.1 mu_X0_open.2.2.1 mu_X0_open.2.2.2.1 ∈ ax_tb := (ax_m2 82 rfl rfl)
noncomputable def f_X0_open (p1 : Int32) (p2 : Int32) (s : ax_S) : Option (Int32 × ax_S) := (if (s.1 3 3) < (6 : Int32) then (ax_si cx_C s 26 (s.1 3 3) p1).bind (fun s21 => (ax_si cx_C s21 27 (s21.1 3 3) p2).bind (fun s31 => (ax_si cx_C s31 28 (s31.1 3 3) (5 : Int32)).bind (fun s41 => some (((((ax_ui s41 3 3 ((s41.1 3 3) + (1 : Int32))).1 3 3) - (1 : Int32)), (ax_ui s41 3 3 ((s41.1 3 3) + (1 : Int32)))))))) else some (((-4 : Int32), s)))
theorem T_X0_open (p1 : Int32) (p2 : Int32) (s : ax_S) (r : Int32 × ax_S) (h : f_X0_open p1 p2 s = some r) : ax_M cx_C mu_X0_open (fun ad => [.ref (ad 3), .int p1, .int p2]) s (some (.int r.1)) r.2 := by
  refine ax_enter (by decide +kernel) 0 (fun ad => [some (.ref (ad 3)), some (.int p1), some (.int p2)]) (fun ad => rfl) (fun ad => Nat.le_of_ble_eq_true rfl) (fun X hV ho => ?_)
  refine ax_go (fun r : Int32 × ax_S => (some (Value.int r.1), r.2)) (fun P hP => ?_) h ho
  unfold f_X0_open
  refine ax_j (ax_aload_n hV dX0_open_0 rfl) ?_
  refine ax_j (ax_gfi hV lf_X0_21 dX0_open_1 rfl rfl) ?_
  refine ax_j (ax_bipush hV (6 : Int32) dX0_open_4 (by decide)) ?_
  refine ax_jif (ax_icmp_lt hV dX0_open_6) ?_ ?_
  · refine ax_j (ax_aload_n hV dX0_open_12 rfl) ?_
    refine ax_j (ax_gfr hV lf_X0_9 dX0_open_13 rfl rfl) ?_
    refine ax_j (ax_aload_n hV dX0_open_16 rfl) ?_
    refine ax_j (ax_gfi hV lf_X0_21 dX0_open_17 rfl rfl) ?_
    refine ax_j (ax_iload_n hV dX0_open_20 rfl) ?_
    refine ax_jb (ax_iast hV dX0_open_21) (fun s21 => ?_)
    refine ax_j (ax_aload_n hV dX0_open_22 rfl) ?_
    refine ax_j (ax_gfr hV lf_X0_15 dX0_open_23 rfl rfl) ?_
    refine ax_j (ax_aload_n hV dX0_open_26 rfl) ?_
    refine ax_j (ax_gfi hV lf_X0_21 dX0_open_27 rfl rfl) ?_
    refine ax_j (ax_iload_n hV dX0_open_30 rfl) ?_
    refine ax_jb (ax_iast hV dX0_open_31) (fun s31 => ?_)
    refine ax_j (ax_aload_n hV dX0_open_32 rfl) ?_
    refine ax_j (ax_gfr hV lf_X0_18 dX0_open_33 rfl rfl) ?_
    refine ax_j (ax_aload_n hV dX0_open_36 rfl) ?_
    refine ax_j (ax_gfi hV lf_X0_21 dX0_open_37 rfl rfl) ?_
    refine ax_j (ax_iconst hV (5 : Int32) dX0_open_40 (by decide)) ?_
    refine ax_jb (ax_iast hV dX0_open_41) (fun s41 => ?_)
    refine ax_j (ax_aload_n hV dX0_open_42 rfl) ?_
    refine ax_j (ax_dup hV dX0_open_43 rfl) ?_
    refine ax_j (ax_gfi hV lf_X0_21 dX0_open_44 rfl rfl) ?_
    refine ax_j (ax_iconst hV (1 : Int32) dX0_open_47 (by decide)) ?_
    refine ax_j (ax_iadd hV dX0_open_48) ?_
    refine ax_j (ax_pfi hV lp_X0_21 dX0_open_49 rfl rfl) ?_
    refine ax_j (ax_aload_n hV dX0_open_52 rfl) ?_
    refine ax_j (ax_gfi hV lf_X0_21 dX0_open_53 rfl rfl) ?_
    refine ax_j (ax_iconst hV (1 : Int32) dX0_open_56 (by decide)) ?_
    refine ax_j (ax_isub hV dX0_open_57) ?_
    exact ax_jl (fun h => ax_ir hV rfl dX0_open_58 (hP ((((ax_ui s41 3 3 ((s41.1 3 3) + (1 : Int32))).1 3 3) - (1 : Int32)), (ax_ui s41 3 3 ((s41.1 3 3) + (1 : Int32)))) h))
  · refine ax_j (ax_bipush hV (-4 : Int32) dX0_open_9 (by decide)) ?_
    exact ax_jl (fun h => ax_ir hV rfl dX0_open_11 (hP ((-4 : Int32), s) h))
theorem lk_X9_78 : ax_lkV RX9 78 mu_X0_open RX0 2 := ax_lkV_of (ax_m2 79 rfl rfl) (ax_m2 80 rfl rfl) (ax_m2 81 rfl rfl) (ax_m1 4 rfl rfl) lc_X0_open rfl ⟨by decide +kernel, by decide +kernel, by decide +kernel⟩
def mu_X0_trustTogether : ax_Mu := (yX0_trustTogether, cX0_trustTogether, 3, some .int, 0, 0)
theorem lc_X0_trustTogether : Cond.code mu_X0_trustTogether.1 mu_X0_trustTogether.2.1 mu_X0_trustTogether.2.2.1 mu_X0_trustTogether.2.2.2.1 ∈ ax_tb := (ax_m4 149 rfl rfl)
noncomputable def b_X0_trustTogether_4 (s : ax_S) (a : Int32 × Int32) : Option ((Int32 × Int32) ⊕ (Int32)) := (if (s.1 3 3) ≤ a.2 then some (.inr a.1) else (ax_ai cx_C s 28 a.2).bind (fun v18 => some (.inl ((a.1 + v18), (a.2 + 1)))))
noncomputable def f_X0_trustTogether  (s : ax_S) : Option (Int32) := (ax_lp (b_X0_trustTogether_4 s) ((0 : Int32), (0 : Int32))).bind (fun e4 => some (e4))
theorem B_X0_trustTogether_4 (X : ax_G × ax_K × Option Value × ax_S) (hV : ax_ok (cx_C, X) mu_X0_trustTogether) (s : ax_S) (P : ((Int32 × Int32) ⊕ (Int32)) → Prop) (hI : ∀ a : Int32 × Int32, P (.inl a) → ax_At (cx_C, X) 4 [some (.ref (ax_ad (cx_C, X) 3)), some (.int a.1), some (.int a.2)] [] s) (hO : ∀ e : Int32, P (.inr e) → ax_At (cx_C, X) 27 [none, some (.int e), none] [] s) (a : Int32 × Int32) : ax_J (cx_C, X) P 4 [some (.ref (ax_ad (cx_C, X) 3)), some (.int a.1), some (.int a.2)] [] s (b_X0_trustTogether_4 s a) := by
  unfold b_X0_trustTogether_4
  refine ax_j (ax_iload_n hV dX0_trustTogether_4 rfl) ?_
  refine ax_j (ax_aload_n hV dX0_trustTogether_5 rfl) ?_
  refine ax_j (ax_gfi hV lf_X0_21 dX0_trustTogether_6 rfl rfl) ?_
  refine ax_jif (ax_icmp_ge hV dX0_trustTogether_9) ?_ ?_
  · refine ax_jf (lv' := [none, some (.int a.1), none]) [false, true, false] rfl ?_
    exact ax_jl (fun h => hO a.1 h)
  · refine ax_j (ax_iload_n hV dX0_trustTogether_12 rfl) ?_
    refine ax_j (ax_aload_n hV dX0_trustTogether_13 rfl) ?_
    refine ax_j (ax_gfr hV lf_X0_18 dX0_trustTogether_14 rfl rfl) ?_
    refine ax_j (ax_iload_n hV dX0_trustTogether_17 rfl) ?_
    refine ax_jb (ax_iald hV dX0_trustTogether_18) (fun v18 => ?_)
    refine ax_j (ax_iadd hV dX0_trustTogether_19) ?_
    refine ax_j (ax_istore_n hV [some (.ref (ax_ad (cx_C, X) 3)), some (.int (a.1 + v18)), some (.int a.2)] dX0_trustTogether_20 rfl rfl) ?_
    refine ax_j (ax_iinc hV (a.2 + 1) [some (.ref (ax_ad (cx_C, X) 3)), some (.int (a.1 + v18)), some (.int (a.2 + 1))] dX0_trustTogether_21 rfl rfl rfl rfl) ?_
    refine ax_j (ax_goto hV dX0_trustTogether_24) ?_
    exact ax_jl (fun h => hI ((a.1 + v18), (a.2 + 1)) h)
theorem T_X0_trustTogether  (s : ax_S) (r : Int32) (h : f_X0_trustTogether s = some r) : ax_M cx_C mu_X0_trustTogether (fun ad => [.ref (ad 3)]) s (some (.int r)) s := by
  refine ax_enter (by decide +kernel) 2 (fun ad => [some (.ref (ad 3)), none, none]) (fun ad => rfl) (fun ad => Nat.le_of_ble_eq_true rfl) (fun X hV ho => ?_)
  refine ax_go (fun r : Int32 => (some (Value.int r), s)) (fun P hP => ?_) h ho
  unfold f_X0_trustTogether
  refine ax_j (ax_iconst hV (0 : Int32) dX0_trustTogether_0 (by decide)) ?_
  refine ax_j (ax_istore_n hV [some (.ref (ax_ad (cx_C, X) 3)), some (.int (0 : Int32)), none] dX0_trustTogether_1 rfl rfl) ?_
  refine ax_j (ax_iconst hV (0 : Int32) dX0_trustTogether_2 (by decide)) ?_
  refine ax_j (ax_istore_n hV [some (.ref (ax_ad (cx_C, X) 3)), some (.int (0 : Int32)), some (.int (0 : Int32))] dX0_trustTogether_3 rfl rfl) ?_
  refine ax_jlp ((0 : Int32), (0 : Int32)) (fun x4 : Int32 × Int32 => [some (.ref (ax_ad (cx_C, X) 3)), some (.int x4.1), some (.int x4.2)]) (fun x4 : Int32 × Int32 => s) (fun y4 : Int32 => [none, some (.int y4), none]) (fun y4 : Int32 => s) (fun P' h1 h2 w => B_X0_trustTogether_4 X hV s P' h1 h2 w) (fun e4 => ?_)
  refine ax_j (ax_iload_n hV dX0_trustTogether_27 rfl) ?_
  exact ax_jl (fun h => ax_ir hV rfl dX0_trustTogether_28 (hP e4 h))
theorem lk_X9_342 : ax_lkV RX9 342 mu_X0_trustTogether RX0 0 := ax_lkV_of (ax_m4 146 rfl rfl) (ax_m4 147 rfl rfl) (ax_m4 148 rfl rfl) (ax_m1 4 rfl rfl) lc_X0_trustTogether rfl ⟨by decide +kernel, by decide +kernel, by decide +kernel⟩
def mu_X1_isOne : ax_Mu := (yX1_isOne, cX1_isOne, 1, some .boolean, 0, 0)
theorem lc_X1_isOne : Cond.code mu_X1_isOne.1 mu_X1_isOne.2.1 mu_X1_isOne.2.2.1 mu_X1_isOne.2.2.2.1 ∈ ax_tb := (ax_m3 238 rfl rfl)
noncomputable def f_X1_isOne (p1 : Int32) : Option (Int32) := (if p1 = 0 then some ((1 : Int32)) else (if p1 = (1 : Int32) then some ((1 : Int32)) else some ((0 : Int32))))
theorem T_X1_isOne (p1 : Int32) (s : ax_S) (r : Int32) (h : f_X1_isOne p1 = some r) : ax_M cx_C mu_X1_isOne (fun ad => [.int p1]) s (some (.int r)) s := by
  refine ax_enter (by decide +kernel) 0 (fun ad => [some (.int p1)]) (fun ad => rfl) (fun ad => Nat.le_of_ble_eq_true rfl) (fun X hV ho => ?_)
  refine ax_go (fun r : Int32 => (some (Value.int r), s)) (fun P hP => ?_) h ho
  unfold f_X1_isOne
  refine ax_j (ax_iload_n hV dX1_isOne_0 rfl) ?_
  refine ax_jif (ax_if_eq hV dX1_isOne_1) ?_ ?_
  · refine ax_j (ax_iconst hV (1 : Int32) dX1_isOne_9 (by decide)) ?_
    refine ax_j (ax_goto hV dX1_isOne_10) ?_
    exact ax_jl (fun h => ax_zr hV rfl (by decide) dX1_isOne_14 (hP (1 : Int32) h))
  · refine ax_j (ax_iload_n hV dX1_isOne_4 rfl) ?_
    refine ax_j (ax_iconst hV (1 : Int32) dX1_isOne_5 (by decide)) ?_
    refine ax_jif (ax_icmp_ne hV dX1_isOne_6) ?_ ?_
    · refine ax_j (ax_iconst hV (1 : Int32) dX1_isOne_9 (by decide)) ?_
      refine ax_j (ax_goto hV dX1_isOne_10) ?_
      exact ax_jl (fun h => ax_zr hV rfl (by decide) dX1_isOne_14 (hP (1 : Int32) h))
    · refine ax_j (ax_iconst hV (0 : Int32) dX1_isOne_13 (by decide)) ?_
      exact ax_jl (fun h => ax_zr hV rfl (by decide) dX1_isOne_14 (hP (0 : Int32) h))
theorem lk_X2_57 : ax_lkS RX2 57 mu_X1_isOne 1 := ax_lkS_of (ax_m4 74 rfl rfl) (ax_m3 237 rfl rfl) (ax_m1 16 rfl rfl) lc_X1_isOne ⟨by decide +kernel, by decide +kernel, by decide +kernel⟩
theorem lk_X9_263 : ax_lkS RX9 263 mu_X1_isOne 1 := ax_lkS_of (ax_m3 236 rfl rfl) (ax_m3 237 rfl rfl) (ax_m1 16 rfl rfl) lc_X1_isOne ⟨by decide +kernel, by decide +kernel, by decide +kernel⟩
def mu_X1_isLeap : ax_Mu := (yX1_isLeap, cX1_isLeap, 2, some .boolean, 0, 0)
theorem lc_X1_isLeap : Cond.code mu_X1_isLeap.1 mu_X1_isLeap.2.1 mu_X1_isLeap.2.2.1 mu_X1_isLeap.2.2.2.1 ∈ ax_tb := (ax_m4 4 rfl rfl)
noncomputable def f_X1_isLeap (p1 : Int32) (p2 : Int32) : Option (Int32) := (ax_irem p2 (4 : Int32)).bind (fun v2 => (if v2 = 0 then (if p1 = 0 then some ((1 : Int32)) else (ax_irem p2 (100 : Int32)).bind (fun v13 => (if v13 = 0 then (ax_irem p2 (400 : Int32)).bind (fun v21 => (if v21 = 0 then some ((1 : Int32)) else some ((0 : Int32)))) else some ((1 : Int32))))) else some ((0 : Int32))))
theorem T_X1_isLeap (p1 : Int32) (p2 : Int32) (s : ax_S) (r : Int32) (h : f_X1_isLeap p1 p2 = some r) : ax_M cx_C mu_X1_isLeap (fun ad => [.int p1, .int p2]) s (some (.int r)) s := by
  refine ax_enter (by decide +kernel) 0 (fun ad => [some (.int p1), some (.int p2)]) (fun ad => rfl) (fun ad => Nat.le_of_ble_eq_true rfl) (fun X hV ho => ?_)
  refine ax_go (fun r : Int32 => (some (Value.int r), s)) (fun P hP => ?_) h ho
  unfold f_X1_isLeap
  refine ax_j (ax_iload_n hV dX1_isLeap_0 rfl) ?_
  refine ax_j (ax_iconst hV (4 : Int32) dX1_isLeap_1 (by decide)) ?_
  refine ax_jb (ax_irem_ hV dX1_isLeap_2) (fun v2 => ?_)
  refine ax_jif (ax_if_ne hV dX1_isLeap_3) ?_ ?_
  · refine ax_j (ax_iload_n hV dX1_isLeap_6 rfl) ?_
    refine ax_jif (ax_if_eq hV dX1_isLeap_7) ?_ ?_
    · refine ax_j (ax_iconst hV (1 : Int32) dX1_isLeap_25 (by decide)) ?_
      refine ax_j (ax_goto hV dX1_isLeap_26) ?_
      exact ax_jl (fun h => ax_zr hV rfl (by decide) dX1_isLeap_30 (hP (1 : Int32) h))
    · refine ax_j (ax_iload_n hV dX1_isLeap_10 rfl) ?_
      refine ax_j (ax_bipush hV (100 : Int32) dX1_isLeap_11 (by decide)) ?_
      refine ax_jb (ax_irem_ hV dX1_isLeap_13) (fun v13 => ?_)
      refine ax_jif (ax_if_ne hV dX1_isLeap_14) ?_ ?_
      · refine ax_j (ax_iload_n hV dX1_isLeap_17 rfl) ?_
        refine ax_j (ax_sipush hV (400 : Int32) dX1_isLeap_18 (by decide)) ?_
        refine ax_jb (ax_irem_ hV dX1_isLeap_21) (fun v21 => ?_)
        refine ax_jif (ax_if_ne hV dX1_isLeap_22) ?_ ?_
        · refine ax_j (ax_iconst hV (1 : Int32) dX1_isLeap_25 (by decide)) ?_
          refine ax_j (ax_goto hV dX1_isLeap_26) ?_
          exact ax_jl (fun h => ax_zr hV rfl (by decide) dX1_isLeap_30 (hP (1 : Int32) h))
        · refine ax_j (ax_iconst hV (0 : Int32) dX1_isLeap_29 (by decide)) ?_
          exact ax_jl (fun h => ax_zr hV rfl (by decide) dX1_isLeap_30 (hP (0 : Int32) h))
      · refine ax_j (ax_iconst hV (1 : Int32) dX1_isLeap_25 (by decide)) ?_
        refine ax_j (ax_goto hV dX1_isLeap_26) ?_
        exact ax_jl (fun h => ax_zr hV rfl (by decide) dX1_isLeap_30 (hP (1 : Int32) h))
  · refine ax_j (ax_iconst hV (0 : Int32) dX1_isLeap_29 (by decide)) ?_
    exact ax_jl (fun h => ax_zr hV rfl (by decide) dX1_isLeap_30 (hP (0 : Int32) h))
theorem lk_X1_9 : ax_lkS RX1 9 mu_X1_isLeap 2 := ax_lkS_of (ax_m4 2 rfl rfl) (ax_m4 3 rfl rfl) (ax_m1 16 rfl rfl) lc_X1_isLeap ⟨by decide +kernel, by decide +kernel, by decide +kernel⟩
def mu_X1_isDate : ax_Mu := (yX1_isDate, cX1_isDate, 5, some .boolean, 1, 21)
theorem lc_X1_isDate : Cond.code mu_X1_isDate.1 mu_X1_isDate.2.1 mu_X1_isDate.2.2.1 mu_X1_isDate.2.2.2.1 ∈ ax_tb := (ax_m4 1 rfl rfl)
noncomputable def j_X1_isDate_43 (l1 : Int32) (l2 : Int32) (k0 : Int32) (s : ax_S) : Option (Int32) := (if l1 < (1 : Int32) then some ((0 : Int32)) else (ax_sa 12 cx_f0 (l2 - (1 : Int32))).bind (fun v57 => (if (v57 + k0) < l1 then some ((0 : Int32)) else some ((1 : Int32)))))
noncomputable def j_X1_isDate_42 (l1 : Int32) (l2 : Int32) (s : ax_S) : Option (Int32) := j_X1_isDate_43 l1 l2 (0 : Int32) s
noncomputable def f_X1_isDate (p1 : Int32) (p2 : Int32) (p3 : Int32) (p4 : Int32) (s : ax_S) : Option (Int32) := (if p4 < (1 : Int32) then some ((0 : Int32)) else (if (600 : Int32) < p4 then some ((0 : Int32)) else (if p3 < (1 : Int32) then some ((0 : Int32)) else (if p3 ≤ (12 : Int32) then (if p3 = (2 : Int32) then (f_X1_isLeap p1 p4).bind (fun q32 => (if q32 = 0 then j_X1_isDate_42 p2 p3 s else j_X1_isDate_43 p2 p3 (1 : Int32) s)) else j_X1_isDate_42 p2 p3 s) else some ((0 : Int32))))))
theorem N_X1_isDate_43 (X : ax_G × ax_K × Option Value × ax_S) (hV : ax_ok (cx_C, X) mu_X1_isDate) (s : ax_S) (P : (Int32) → Prop) (hP : ∀ r : Int32, P r → X.2.2 = (fun r : Int32 => (some (Value.int r), s)) r) (l1 : Int32) (l2 : Int32) (k0 : Int32) : ax_J (cx_C, X) P 43 [none, some (.int l1), some (.int l2), none, none] [.int k0] s (j_X1_isDate_43 l1 l2 k0 s) := by
  unfold j_X1_isDate_43
  refine ax_j (ax_istore hV [none, some (.int l1), some (.int l2), none, some (.int k0)] dX1_isDate_43 rfl rfl) ?_
  refine ax_j (ax_iload_n hV dX1_isDate_45 rfl) ?_
  refine ax_j (ax_iconst hV (1 : Int32) dX1_isDate_46 (by decide)) ?_
  refine ax_jif (ax_icmp_lt hV dX1_isDate_47) ?_ ?_
  · refine ax_j (ax_iconst hV (0 : Int32) dX1_isDate_68 (by decide)) ?_
    exact ax_jl (fun h => ax_zr hV rfl (by decide) dX1_isDate_69 (hP (0 : Int32) h))
  · refine ax_j (ax_iload_n hV dX1_isDate_50 rfl) ?_
    refine ax_j (ax_gst hV ms_0 ls_X1_13 dX1_isDate_51) ?_
    refine ax_j (ax_iload_n hV dX1_isDate_54 rfl) ?_
    refine ax_j (ax_iconst hV (1 : Int32) dX1_isDate_55 (by decide)) ?_
    refine ax_j (ax_isub hV dX1_isDate_56) ?_
    refine ax_jb (ax_sald hV ms_0 dX1_isDate_57) (fun v57 => ?_)
    refine ax_j (ax_iload hV dX1_isDate_58 rfl) ?_
    refine ax_j (ax_iadd hV dX1_isDate_60) ?_
    refine ax_jif (ax_icmp_gt hV dX1_isDate_61) ?_ ?_
    · refine ax_j (ax_iconst hV (0 : Int32) dX1_isDate_68 (by decide)) ?_
      exact ax_jl (fun h => ax_zr hV rfl (by decide) dX1_isDate_69 (hP (0 : Int32) h))
    · refine ax_j (ax_iconst hV (1 : Int32) dX1_isDate_64 (by decide)) ?_
      refine ax_j (ax_goto hV dX1_isDate_65) ?_
      exact ax_jl (fun h => ax_zr hV rfl (by decide) dX1_isDate_69 (hP (1 : Int32) h))
theorem N_X1_isDate_42 (X : ax_G × ax_K × Option Value × ax_S) (hV : ax_ok (cx_C, X) mu_X1_isDate) (s : ax_S) (P : (Int32) → Prop) (hP : ∀ r : Int32, P r → X.2.2 = (fun r : Int32 => (some (Value.int r), s)) r) (l1 : Int32) (l2 : Int32) : ax_J (cx_C, X) P 42 [none, some (.int l1), some (.int l2), none, none] [] s (j_X1_isDate_42 l1 l2 s) := by
  unfold j_X1_isDate_42
  refine ax_j (ax_iconst hV (0 : Int32) dX1_isDate_42 (by decide)) ?_
  exact N_X1_isDate_43 X hV s P hP l1 l2 (0 : Int32)
theorem T_X1_isDate (p1 : Int32) (p2 : Int32) (p3 : Int32) (p4 : Int32) (s : ax_S) (r : Int32) (h : f_X1_isDate p1 p2 p3 p4 s = some r) : ax_M cx_C mu_X1_isDate (fun ad => [.int p1, .int p2, .int p3, .int p4]) s (some (.int r)) s := by
  refine ax_enter (by decide +kernel) 1 (fun ad => [some (.int p1), some (.int p2), some (.int p3), some (.int p4), none]) (fun ad => rfl) (fun ad => Nat.le_of_ble_eq_true rfl) (fun X hV ho => ?_)
  refine ax_go (fun r : Int32 => (some (Value.int r), s)) (fun P hP => ?_) h ho
  unfold f_X1_isDate
  refine ax_j (ax_iload_n hV dX1_isDate_0 rfl) ?_
  refine ax_j (ax_iconst hV (1 : Int32) dX1_isDate_1 (by decide)) ?_
  refine ax_jif (ax_icmp_lt hV dX1_isDate_2) ?_ ?_
  · refine ax_j (ax_iconst hV (0 : Int32) dX1_isDate_23 (by decide)) ?_
    exact ax_jl (fun h => ax_zr hV rfl (by decide) dX1_isDate_24 (hP (0 : Int32) h))
  · refine ax_j (ax_iload_n hV dX1_isDate_5 rfl) ?_
    refine ax_j (ax_sipush hV (600 : Int32) dX1_isDate_6 (by decide)) ?_
    refine ax_jif (ax_icmp_gt hV dX1_isDate_9) ?_ ?_
    · refine ax_j (ax_iconst hV (0 : Int32) dX1_isDate_23 (by decide)) ?_
      exact ax_jl (fun h => ax_zr hV rfl (by decide) dX1_isDate_24 (hP (0 : Int32) h))
    · refine ax_j (ax_iload_n hV dX1_isDate_12 rfl) ?_
      refine ax_j (ax_iconst hV (1 : Int32) dX1_isDate_13 (by decide)) ?_
      refine ax_jif (ax_icmp_lt hV dX1_isDate_14) ?_ ?_
      · refine ax_j (ax_iconst hV (0 : Int32) dX1_isDate_23 (by decide)) ?_
        exact ax_jl (fun h => ax_zr hV rfl (by decide) dX1_isDate_24 (hP (0 : Int32) h))
      · refine ax_j (ax_iload_n hV dX1_isDate_17 rfl) ?_
        refine ax_j (ax_bipush hV (12 : Int32) dX1_isDate_18 (by decide)) ?_
        refine ax_jif (ax_icmp_le hV dX1_isDate_20) ?_ ?_
        · refine ax_j (ax_iload_n hV dX1_isDate_25 rfl) ?_
          refine ax_j (ax_iconst hV (2 : Int32) dX1_isDate_26 (by decide)) ?_
          refine ax_jif (ax_icmp_ne hV dX1_isDate_27) ?_ ?_
          · refine ax_j (ax_iload_n hV dX1_isDate_30 rfl) ?_
            refine ax_j (ax_iload_n hV dX1_isDate_31 rfl) ?_
            refine ax_jb (fun v ho => ax_cSi hV lk_X1_9 rfl dX1_isDate_32 [.int p1, .int p4] [] (fun ad => [.int p1, .int p4]) rfl rfl rfl rfl v s (T_X1_isLeap p1 p4 s v ho)) (fun q32 => ?_)
            refine ax_jif (ax_if_eq hV dX1_isDate_35) ?_ ?_
            · refine ax_jf (lv' := [none, some (.int p2), some (.int p3), none, none]) [false, true, true, false, false] rfl ?_
              exact N_X1_isDate_42 X hV s P hP p2 p3
            · refine ax_j (ax_iconst hV (1 : Int32) dX1_isDate_38 (by decide)) ?_
              refine ax_j (ax_goto hV dX1_isDate_39) ?_
              refine ax_jf (lv' := [none, some (.int p2), some (.int p3), none, none]) [false, true, true, false, false] rfl ?_
              exact N_X1_isDate_43 X hV s P hP p2 p3 (1 : Int32)
          · refine ax_jf (lv' := [none, some (.int p2), some (.int p3), none, none]) [false, true, true, false, false] rfl ?_
            exact N_X1_isDate_42 X hV s P hP p2 p3
        · refine ax_j (ax_iconst hV (0 : Int32) dX1_isDate_23 (by decide)) ?_
          exact ax_jl (fun h => ax_zr hV rfl (by decide) dX1_isDate_24 (hP (0 : Int32) h))
theorem lk_X2_61 : ax_lkS RX2 61 mu_X1_isDate 4 := ax_lkS_of (ax_m4 75 rfl rfl) (ax_m4 0 rfl rfl) (ax_m1 16 rfl rfl) lc_X1_isDate ⟨by decide +kernel, by decide +kernel, by decide +kernel⟩
theorem lk_X9_268 : ax_lkS RX9 268 mu_X1_isDate 4 := ax_lkS_of (ax_m3 239 rfl rfl) (ax_m4 0 rfl rfl) (ax_m1 16 rfl rfl) lc_X1_isDate ⟨by decide +kernel, by decide +kernel, by decide +kernel⟩
def mu_X1_leapsUpTo : ax_Mu := (yX1_leapsUpTo, cX1_leapsUpTo, 2, some .int, 0, 0)
theorem lc_X1_leapsUpTo : Cond.code mu_X1_leapsUpTo.1 mu_X1_leapsUpTo.2.1 mu_X1_leapsUpTo.2.2.1 mu_X1_leapsUpTo.2.2.2.1 ∈ ax_tb := (ax_m4 14 rfl rfl)
noncomputable def f_X1_leapsUpTo (p1 : Int32) (p2 : Int32) : Option (Int32) := (if p1 = 0 then (ax_idiv p2 (4 : Int32)).bind (fun v6 => some (v6)) else (ax_idiv p2 (4 : Int32)).bind (fun v12 => (ax_idiv p2 (100 : Int32)).bind (fun v16 => (ax_idiv p2 (400 : Int32)).bind (fun v22 => some (((v12 - v16) + v22))))))
theorem T_X1_leapsUpTo (p1 : Int32) (p2 : Int32) (s : ax_S) (r : Int32) (h : f_X1_leapsUpTo p1 p2 = some r) : ax_M cx_C mu_X1_leapsUpTo (fun ad => [.int p1, .int p2]) s (some (.int r)) s := by
  refine ax_enter (by decide +kernel) 0 (fun ad => [some (.int p1), some (.int p2)]) (fun ad => rfl) (fun ad => Nat.le_of_ble_eq_true rfl) (fun X hV ho => ?_)
  refine ax_go (fun r : Int32 => (some (Value.int r), s)) (fun P hP => ?_) h ho
  unfold f_X1_leapsUpTo
  refine ax_j (ax_iload_n hV dX1_leapsUpTo_0 rfl) ?_
  refine ax_jif (ax_if_ne hV dX1_leapsUpTo_1) ?_ ?_
  · refine ax_j (ax_iload_n hV dX1_leapsUpTo_4 rfl) ?_
    refine ax_j (ax_iconst hV (4 : Int32) dX1_leapsUpTo_5 (by decide)) ?_
    refine ax_jb (ax_idiv_ hV dX1_leapsUpTo_6) (fun v6 => ?_)
    refine ax_j (ax_goto hV dX1_leapsUpTo_7) ?_
    exact ax_jl (fun h => ax_ir hV rfl dX1_leapsUpTo_24 (hP v6 h))
  · refine ax_j (ax_iload_n hV dX1_leapsUpTo_10 rfl) ?_
    refine ax_j (ax_iconst hV (4 : Int32) dX1_leapsUpTo_11 (by decide)) ?_
    refine ax_jb (ax_idiv_ hV dX1_leapsUpTo_12) (fun v12 => ?_)
    refine ax_j (ax_iload_n hV dX1_leapsUpTo_13 rfl) ?_
    refine ax_j (ax_bipush hV (100 : Int32) dX1_leapsUpTo_14 (by decide)) ?_
    refine ax_jb (ax_idiv_ hV dX1_leapsUpTo_16) (fun v16 => ?_)
    refine ax_j (ax_isub hV dX1_leapsUpTo_17) ?_
    refine ax_j (ax_iload_n hV dX1_leapsUpTo_18 rfl) ?_
    refine ax_j (ax_sipush hV (400 : Int32) dX1_leapsUpTo_19 (by decide)) ?_
    refine ax_jb (ax_idiv_ hV dX1_leapsUpTo_22) (fun v22 => ?_)
    refine ax_j (ax_iadd hV dX1_leapsUpTo_23) ?_
    exact ax_jl (fun h => ax_ir hV rfl dX1_leapsUpTo_24 (hP ((v12 - v16) + v22) h))
theorem lk_X1_20 : ax_lkS RX1 20 mu_X1_leapsUpTo 2 := ax_lkS_of (ax_m4 12 rfl rfl) (ax_m4 13 rfl rfl) (ax_m1 16 rfl rfl) lc_X1_leapsUpTo ⟨by decide +kernel, by decide +kernel, by decide +kernel⟩
def mu_X1_dayNumber : ax_Mu := (yX1_dayNumber, cX1_dayNumber, 5, some .int, 1, 21)
theorem lc_X1_dayNumber : Cond.code mu_X1_dayNumber.1 mu_X1_dayNumber.2.1 mu_X1_dayNumber.2.2.1 mu_X1_dayNumber.2.2.2.1 ∈ ax_tb := (ax_m4 9 rfl rfl)
noncomputable def j_X1_dayNumber_18 (l0 : Int32) (l1 : Int32) (l2 : Int32) (l3 : Int32) (k0 : Int32) (s : ax_S) : Option (Int32) := (ax_sa 2 cx_f2 l0).bind (fun v24 => (f_X1_leapsUpTo l0 (l3 - (1 : Int32))).bind (fun q37 => (ax_sa 12 cx_f1 (l2 - (1 : Int32))).bind (fun v47 => some (((((((v24 + ((365 : Int32) * (l3 - (1 : Int32)))) + q37) + v47) + k0) + l1) - (1 : Int32))))))
noncomputable def j_X1_dayNumber_17 (l0 : Int32) (l1 : Int32) (l2 : Int32) (l3 : Int32) (s : ax_S) : Option (Int32) := j_X1_dayNumber_18 l0 l1 l2 l3 (0 : Int32) s
noncomputable def f_X1_dayNumber (p1 : Int32) (p2 : Int32) (p3 : Int32) (p4 : Int32) (s : ax_S) : Option (Int32) := (if p3 ≤ (2 : Int32) then j_X1_dayNumber_17 p1 p2 p3 p4 s else (f_X1_isLeap p1 p4).bind (fun q7 => (if q7 = 0 then j_X1_dayNumber_17 p1 p2 p3 p4 s else j_X1_dayNumber_18 p1 p2 p3 p4 (1 : Int32) s)))
theorem N_X1_dayNumber_18 (X : ax_G × ax_K × Option Value × ax_S) (hV : ax_ok (cx_C, X) mu_X1_dayNumber) (s : ax_S) (P : (Int32) → Prop) (hP : ∀ r : Int32, P r → X.2.2 = (fun r : Int32 => (some (Value.int r), s)) r) (l0 : Int32) (l1 : Int32) (l2 : Int32) (l3 : Int32) (k0 : Int32) : ax_J (cx_C, X) P 18 [some (.int l0), some (.int l1), some (.int l2), some (.int l3), none] [.int k0] s (j_X1_dayNumber_18 l0 l1 l2 l3 k0 s) := by
  unfold j_X1_dayNumber_18
  refine ax_j (ax_istore hV [some (.int l0), some (.int l1), some (.int l2), some (.int l3), some (.int k0)] dX1_dayNumber_18 rfl rfl) ?_
  refine ax_j (ax_gst hV ms_2 ls_X1_17 dX1_dayNumber_20) ?_
  refine ax_j (ax_iload_n hV dX1_dayNumber_23 rfl) ?_
  refine ax_jb (ax_sald hV ms_2 dX1_dayNumber_24) (fun v24 => ?_)
  refine ax_j (ax_sipush hV (365 : Int32) dX1_dayNumber_25 (by decide)) ?_
  refine ax_j (ax_iload_n hV dX1_dayNumber_28 rfl) ?_
  refine ax_j (ax_iconst hV (1 : Int32) dX1_dayNumber_29 (by decide)) ?_
  refine ax_j (ax_isub hV dX1_dayNumber_30) ?_
  refine ax_j (ax_imul hV dX1_dayNumber_31) ?_
  refine ax_j (ax_iadd hV dX1_dayNumber_32) ?_
  refine ax_j (ax_iload_n hV dX1_dayNumber_33 rfl) ?_
  refine ax_j (ax_iload_n hV dX1_dayNumber_34 rfl) ?_
  refine ax_j (ax_iconst hV (1 : Int32) dX1_dayNumber_35 (by decide)) ?_
  refine ax_j (ax_isub hV dX1_dayNumber_36) ?_
  refine ax_jb (fun v ho => ax_cSi hV lk_X1_20 rfl dX1_dayNumber_37 [.int l0, .int (l3 - (1 : Int32))] [.int (v24 + ((365 : Int32) * (l3 - (1 : Int32))))] (fun ad => [.int l0, .int (l3 - (1 : Int32))]) rfl rfl rfl rfl v s (T_X1_leapsUpTo l0 (l3 - (1 : Int32)) s v ho)) (fun q37 => ?_)
  refine ax_j (ax_iadd hV dX1_dayNumber_40) ?_
  refine ax_j (ax_gst hV ms_1 ls_X1_24 dX1_dayNumber_41) ?_
  refine ax_j (ax_iload_n hV dX1_dayNumber_44 rfl) ?_
  refine ax_j (ax_iconst hV (1 : Int32) dX1_dayNumber_45 (by decide)) ?_
  refine ax_j (ax_isub hV dX1_dayNumber_46) ?_
  refine ax_jb (ax_sald hV ms_1 dX1_dayNumber_47) (fun v47 => ?_)
  refine ax_j (ax_iadd hV dX1_dayNumber_48) ?_
  refine ax_j (ax_iload hV dX1_dayNumber_49 rfl) ?_
  refine ax_j (ax_iadd hV dX1_dayNumber_51) ?_
  refine ax_j (ax_iload_n hV dX1_dayNumber_52 rfl) ?_
  refine ax_j (ax_iadd hV dX1_dayNumber_53) ?_
  refine ax_j (ax_iconst hV (1 : Int32) dX1_dayNumber_54 (by decide)) ?_
  refine ax_j (ax_isub hV dX1_dayNumber_55) ?_
  exact ax_jl (fun h => ax_ir hV rfl dX1_dayNumber_56 (hP ((((((v24 + ((365 : Int32) * (l3 - (1 : Int32)))) + q37) + v47) + k0) + l1) - (1 : Int32)) h))
theorem N_X1_dayNumber_17 (X : ax_G × ax_K × Option Value × ax_S) (hV : ax_ok (cx_C, X) mu_X1_dayNumber) (s : ax_S) (P : (Int32) → Prop) (hP : ∀ r : Int32, P r → X.2.2 = (fun r : Int32 => (some (Value.int r), s)) r) (l0 : Int32) (l1 : Int32) (l2 : Int32) (l3 : Int32) : ax_J (cx_C, X) P 17 [some (.int l0), some (.int l1), some (.int l2), some (.int l3), none] [] s (j_X1_dayNumber_17 l0 l1 l2 l3 s) := by
  unfold j_X1_dayNumber_17
  refine ax_j (ax_iconst hV (0 : Int32) dX1_dayNumber_17 (by decide)) ?_
  exact N_X1_dayNumber_18 X hV s P hP l0 l1 l2 l3 (0 : Int32)
theorem T_X1_dayNumber (p1 : Int32) (p2 : Int32) (p3 : Int32) (p4 : Int32) (s : ax_S) (r : Int32) (h : f_X1_dayNumber p1 p2 p3 p4 s = some r) : ax_M cx_C mu_X1_dayNumber (fun ad => [.int p1, .int p2, .int p3, .int p4]) s (some (.int r)) s := by
  refine ax_enter (by decide +kernel) 1 (fun ad => [some (.int p1), some (.int p2), some (.int p3), some (.int p4), none]) (fun ad => rfl) (fun ad => Nat.le_of_ble_eq_true rfl) (fun X hV ho => ?_)
  refine ax_go (fun r : Int32 => (some (Value.int r), s)) (fun P hP => ?_) h ho
  unfold f_X1_dayNumber
  refine ax_j (ax_iload_n hV dX1_dayNumber_0 rfl) ?_
  refine ax_j (ax_iconst hV (2 : Int32) dX1_dayNumber_1 (by decide)) ?_
  refine ax_jif (ax_icmp_le hV dX1_dayNumber_2) ?_ ?_
  · exact N_X1_dayNumber_17 X hV s P hP p1 p2 p3 p4
  · refine ax_j (ax_iload_n hV dX1_dayNumber_5 rfl) ?_
    refine ax_j (ax_iload_n hV dX1_dayNumber_6 rfl) ?_
    refine ax_jb (fun v ho => ax_cSi hV lk_X1_9 rfl dX1_dayNumber_7 [.int p1, .int p4] [] (fun ad => [.int p1, .int p4]) rfl rfl rfl rfl v s (T_X1_isLeap p1 p4 s v ho)) (fun q7 => ?_)
    refine ax_jif (ax_if_eq hV dX1_dayNumber_10) ?_ ?_
    · exact N_X1_dayNumber_17 X hV s P hP p1 p2 p3 p4
    · refine ax_j (ax_iconst hV (1 : Int32) dX1_dayNumber_13 (by decide)) ?_
      refine ax_j (ax_goto hV dX1_dayNumber_14) ?_
      exact N_X1_dayNumber_18 X hV s P hP p1 p2 p3 p4 (1 : Int32)
theorem lk_X1_27 : ax_lkS RX1 27 mu_X1_dayNumber 4 := ax_lkS_of (ax_m4 24 rfl rfl) (ax_m4 8 rfl rfl) (ax_m1 16 rfl rfl) lc_X1_dayNumber ⟨by decide +kernel, by decide +kernel, by decide +kernel⟩
theorem lk_X2_65 : ax_lkS RX2 65 mu_X1_dayNumber 4 := ax_lkS_of (ax_m4 76 rfl rfl) (ax_m4 8 rfl rfl) (ax_m1 16 rfl rfl) lc_X1_dayNumber ⟨by decide +kernel, by decide +kernel, by decide +kernel⟩
theorem lk_X9_272 : ax_lkS RX9 272 mu_X1_dayNumber 4 := ax_lkS_of (ax_m4 7 rfl rfl) (ax_m4 8 rfl rfl) (ax_m1 16 rfl rfl) lc_X1_dayNumber ⟨by decide +kernel, by decide +kernel, by decide +kernel⟩
def mu_X1_hasDay : ax_Mu := (yX1_hasDay, cX1_hasDay, 2, some .boolean, 2, 45)
theorem lc_X1_hasDay : Cond.code mu_X1_hasDay.1 mu_X1_hasDay.2.1 mu_X1_hasDay.2.2.1 mu_X1_hasDay.2.2.2.1 ∈ ax_tb := (ax_m4 23 rfl rfl)
noncomputable def f_X1_hasDay (p1 : Int32) (p2 : Int32) (s : ax_S) : Option (Int32) := (ax_sa 2 cx_f2 p1).bind (fun v5 => (if p2 < v5 then some ((0 : Int32)) else (f_X1_dayNumber p1 (31 : Int32) (12 : Int32) (600 : Int32) s).bind (fun q18 => (if q18 < p2 then some ((0 : Int32)) else some ((1 : Int32))))))
theorem T_X1_hasDay (p1 : Int32) (p2 : Int32) (s : ax_S) (r : Int32) (h : f_X1_hasDay p1 p2 s = some r) : ax_M cx_C mu_X1_hasDay (fun ad => [.int p1, .int p2]) s (some (.int r)) s := by
  refine ax_enter (by decide +kernel) 0 (fun ad => [some (.int p1), some (.int p2)]) (fun ad => rfl) (fun ad => Nat.le_of_ble_eq_true rfl) (fun X hV ho => ?_)
  refine ax_go (fun r : Int32 => (some (Value.int r), s)) (fun P hP => ?_) h ho
  unfold f_X1_hasDay
  refine ax_j (ax_iload_n hV dX1_hasDay_0 rfl) ?_
  refine ax_j (ax_gst hV ms_2 ls_X1_17 dX1_hasDay_1) ?_
  refine ax_j (ax_iload_n hV dX1_hasDay_4 rfl) ?_
  refine ax_jb (ax_sald hV ms_2 dX1_hasDay_5) (fun v5 => ?_)
  refine ax_jif (ax_icmp_lt hV dX1_hasDay_6) ?_ ?_
  · refine ax_j (ax_iconst hV (0 : Int32) dX1_hasDay_28 (by decide)) ?_
    exact ax_jl (fun h => ax_zr hV rfl (by decide) dX1_hasDay_29 (hP (0 : Int32) h))
  · refine ax_j (ax_iload_n hV dX1_hasDay_9 rfl) ?_
    refine ax_j (ax_iload_n hV dX1_hasDay_10 rfl) ?_
    refine ax_j (ax_bipush hV (31 : Int32) dX1_hasDay_11 (by decide)) ?_
    refine ax_j (ax_bipush hV (12 : Int32) dX1_hasDay_13 (by decide)) ?_
    refine ax_j (ax_sipush hV (600 : Int32) dX1_hasDay_15 (by decide)) ?_
    refine ax_jb (fun v ho => ax_cSi hV lk_X1_27 rfl dX1_hasDay_18 [.int p1, .int (31 : Int32), .int (12 : Int32), .int (600 : Int32)] [.int p2] (fun ad => [.int p1, .int (31 : Int32), .int (12 : Int32), .int (600 : Int32)]) rfl rfl rfl rfl v s (T_X1_dayNumber p1 (31 : Int32) (12 : Int32) (600 : Int32) s v ho)) (fun q18 => ?_)
    refine ax_jif (ax_icmp_gt hV dX1_hasDay_21) ?_ ?_
    · refine ax_j (ax_iconst hV (0 : Int32) dX1_hasDay_28 (by decide)) ?_
      exact ax_jl (fun h => ax_zr hV rfl (by decide) dX1_hasDay_29 (hP (0 : Int32) h))
    · refine ax_j (ax_iconst hV (1 : Int32) dX1_hasDay_24 (by decide)) ?_
      refine ax_j (ax_goto hV dX1_hasDay_25) ?_
      exact ax_jl (fun h => ax_zr hV rfl (by decide) dX1_hasDay_29 (hP (1 : Int32) h))
theorem lk_X9_276 : ax_lkS RX9 276 mu_X1_hasDay 2 := ax_lkS_of (ax_m4 21 rfl rfl) (ax_m4 22 rfl rfl) (ax_m1 16 rfl rfl) lc_X1_hasDay ⟨by decide +kernel, by decide +kernel, by decide +kernel⟩
def mu_X1_yearWith : ax_Mu := (yX1_yearWith, cX1_yearWith, 3, some .int, 2, 45)
theorem lc_X1_yearWith : Cond.code mu_X1_yearWith.1 mu_X1_yearWith.2.1 mu_X1_yearWith.2.2.1 mu_X1_yearWith.2.2.2.1 ∈ ax_tb := (ax_m4 27 rfl rfl)
noncomputable def b_X1_yearWith_14 (l0 : Int32) (l1 : Int32) (s : ax_S) (a : Int32) : Option ((Int32) ⊕ (Int32)) := (if (600 : Int32) ≤ a then some (.inr a) else (f_X1_dayNumber l0 (1 : Int32) (1 : Int32) (a + (1 : Int32)) s).bind (fun q27 => (if l1 < q27 then some (.inr a) else some (.inl (a + 1)))))
noncomputable def f_X1_yearWith (p1 : Int32) (p2 : Int32) (s : ax_S) : Option (Int32) := (ax_sa 2 cx_f2 p1).bind (fun v5 => (ax_idiv (p2 - v5) (366 : Int32)).bind (fun v10 => (ax_lp (b_X1_yearWith_14 p1 p2 s) (v10 + (1 : Int32))).bind (fun e14 => some (e14))))
theorem B_X1_yearWith_14 (X : ax_G × ax_K × Option Value × ax_S) (hV : ax_ok (cx_C, X) mu_X1_yearWith) (l0 : Int32) (l1 : Int32) (s : ax_S) (P : ((Int32) ⊕ (Int32)) → Prop) (hI : ∀ a : Int32, P (.inl a) → ax_At (cx_C, X) 14 [some (.int l0), some (.int l1), some (.int a)] [] s) (hO : ∀ e : Int32, P (.inr e) → ax_At (cx_C, X) 40 [none, none, some (.int e)] [] s) (a : Int32) : ax_J (cx_C, X) P 14 [some (.int l0), some (.int l1), some (.int a)] [] s (b_X1_yearWith_14 l0 l1 s a) := by
  unfold b_X1_yearWith_14
  refine ax_j (ax_iload_n hV dX1_yearWith_14 rfl) ?_
  refine ax_j (ax_sipush hV (600 : Int32) dX1_yearWith_15 (by decide)) ?_
  refine ax_jif (ax_icmp_ge hV dX1_yearWith_18) ?_ ?_
  · refine ax_jf (lv' := [none, none, some (.int a)]) [false, false, true] rfl ?_
    exact ax_jl (fun h => hO a h)
  · refine ax_j (ax_iload_n hV dX1_yearWith_21 rfl) ?_
    refine ax_j (ax_iconst hV (1 : Int32) dX1_yearWith_22 (by decide)) ?_
    refine ax_j (ax_iconst hV (1 : Int32) dX1_yearWith_23 (by decide)) ?_
    refine ax_j (ax_iload_n hV dX1_yearWith_24 rfl) ?_
    refine ax_j (ax_iconst hV (1 : Int32) dX1_yearWith_25 (by decide)) ?_
    refine ax_j (ax_iadd hV dX1_yearWith_26) ?_
    refine ax_jb (fun v ho => ax_cSi hV lk_X1_27 rfl dX1_yearWith_27 [.int l0, .int (1 : Int32), .int (1 : Int32), .int (a + (1 : Int32))] [] (fun ad => [.int l0, .int (1 : Int32), .int (1 : Int32), .int (a + (1 : Int32))]) rfl rfl rfl rfl v s (T_X1_dayNumber l0 (1 : Int32) (1 : Int32) (a + (1 : Int32)) s v ho)) (fun q27 => ?_)
    refine ax_j (ax_iload_n hV dX1_yearWith_30 rfl) ?_
    refine ax_jif (ax_icmp_gt hV dX1_yearWith_31) ?_ ?_
    · refine ax_jf (lv' := [none, none, some (.int a)]) [false, false, true] rfl ?_
      exact ax_jl (fun h => hO a h)
    · refine ax_j (ax_iinc hV (a + 1) [some (.int l0), some (.int l1), some (.int (a + 1))] dX1_yearWith_34 rfl rfl rfl rfl) ?_
      refine ax_j (ax_goto hV dX1_yearWith_37) ?_
      exact ax_jl (fun h => hI (a + 1) h)
theorem T_X1_yearWith (p1 : Int32) (p2 : Int32) (s : ax_S) (r : Int32) (h : f_X1_yearWith p1 p2 s = some r) : ax_M cx_C mu_X1_yearWith (fun ad => [.int p1, .int p2]) s (some (.int r)) s := by
  refine ax_enter (by decide +kernel) 1 (fun ad => [some (.int p1), some (.int p2), none]) (fun ad => rfl) (fun ad => Nat.le_of_ble_eq_true rfl) (fun X hV ho => ?_)
  refine ax_go (fun r : Int32 => (some (Value.int r), s)) (fun P hP => ?_) h ho
  unfold f_X1_yearWith
  refine ax_j (ax_iload_n hV dX1_yearWith_0 rfl) ?_
  refine ax_j (ax_gst hV ms_2 ls_X1_17 dX1_yearWith_1) ?_
  refine ax_j (ax_iload_n hV dX1_yearWith_4 rfl) ?_
  refine ax_jb (ax_sald hV ms_2 dX1_yearWith_5) (fun v5 => ?_)
  refine ax_j (ax_isub hV dX1_yearWith_6) ?_
  refine ax_j (ax_sipush hV (366 : Int32) dX1_yearWith_7 (by decide)) ?_
  refine ax_jb (ax_idiv_ hV dX1_yearWith_10) (fun v10 => ?_)
  refine ax_j (ax_iconst hV (1 : Int32) dX1_yearWith_11 (by decide)) ?_
  refine ax_j (ax_iadd hV dX1_yearWith_12) ?_
  refine ax_j (ax_istore_n hV [some (.int p1), some (.int p2), some (.int (v10 + (1 : Int32)))] dX1_yearWith_13 rfl rfl) ?_
  refine ax_jlp (v10 + (1 : Int32)) (fun x14 : Int32 => [some (.int p1), some (.int p2), some (.int x14)]) (fun x14 : Int32 => s) (fun y14 : Int32 => [none, none, some (.int y14)]) (fun y14 : Int32 => s) (fun P' h1 h2 w => B_X1_yearWith_14 X hV p1 p2 s P' h1 h2 w) (fun e14 => ?_)
  refine ax_j (ax_iload_n hV dX1_yearWith_40 rfl) ?_
  exact ax_jl (fun h => ax_ir hV rfl dX1_yearWith_41 (hP e14 h))
theorem lk_X9_279 : ax_lkS RX9 279 mu_X1_yearWith 2 := ax_lkS_of (ax_m4 25 rfl rfl) (ax_m4 26 rfl rfl) (ax_m1 16 rfl rfl) lc_X1_yearWith ⟨by decide +kernel, by decide +kernel, by decide +kernel⟩
def mu_X1_monthWith : ax_Mu := (yX1_monthWith, cX1_monthWith, 4, some .int, 2, 45)
theorem lc_X1_monthWith : Cond.code mu_X1_monthWith.1 mu_X1_monthWith.2.1 mu_X1_monthWith.2.2.1 mu_X1_monthWith.2.2.2.1 ∈ ax_tb := (ax_m4 30 rfl rfl)
noncomputable def b_X1_monthWith_2 (l0 : Int32) (l1 : Int32) (l2 : Int32) (s : ax_S) (a : Int32) : Option ((Int32) ⊕ (Int32)) := (if (12 : Int32) ≤ a then some (.inr a) else (f_X1_dayNumber l0 (1 : Int32) (a + (1 : Int32)) l2 s).bind (fun q14 => (if l1 < q14 then some (.inr a) else some (.inl (a + 1)))))
noncomputable def f_X1_monthWith (p1 : Int32) (p2 : Int32) (p3 : Int32) (s : ax_S) : Option (Int32) := (ax_lp (b_X1_monthWith_2 p1 p2 p3 s) (1 : Int32)).bind (fun e2 => some (e2))
theorem B_X1_monthWith_2 (X : ax_G × ax_K × Option Value × ax_S) (hV : ax_ok (cx_C, X) mu_X1_monthWith) (l0 : Int32) (l1 : Int32) (l2 : Int32) (s : ax_S) (P : ((Int32) ⊕ (Int32)) → Prop) (hI : ∀ a : Int32, P (.inl a) → ax_At (cx_C, X) 2 [some (.int l0), some (.int l1), some (.int l2), some (.int a)] [] s) (hO : ∀ e : Int32, P (.inr e) → ax_At (cx_C, X) 27 [none, none, none, some (.int e)] [] s) (a : Int32) : ax_J (cx_C, X) P 2 [some (.int l0), some (.int l1), some (.int l2), some (.int a)] [] s (b_X1_monthWith_2 l0 l1 l2 s a) := by
  unfold b_X1_monthWith_2
  refine ax_j (ax_iload_n hV dX1_monthWith_2 rfl) ?_
  refine ax_j (ax_bipush hV (12 : Int32) dX1_monthWith_3 (by decide)) ?_
  refine ax_jif (ax_icmp_ge hV dX1_monthWith_5) ?_ ?_
  · refine ax_jf (lv' := [none, none, none, some (.int a)]) [false, false, false, true] rfl ?_
    exact ax_jl (fun h => hO a h)
  · refine ax_j (ax_iload_n hV dX1_monthWith_8 rfl) ?_
    refine ax_j (ax_iconst hV (1 : Int32) dX1_monthWith_9 (by decide)) ?_
    refine ax_j (ax_iload_n hV dX1_monthWith_10 rfl) ?_
    refine ax_j (ax_iconst hV (1 : Int32) dX1_monthWith_11 (by decide)) ?_
    refine ax_j (ax_iadd hV dX1_monthWith_12) ?_
    refine ax_j (ax_iload_n hV dX1_monthWith_13 rfl) ?_
    refine ax_jb (fun v ho => ax_cSi hV lk_X1_27 rfl dX1_monthWith_14 [.int l0, .int (1 : Int32), .int (a + (1 : Int32)), .int l2] [] (fun ad => [.int l0, .int (1 : Int32), .int (a + (1 : Int32)), .int l2]) rfl rfl rfl rfl v s (T_X1_dayNumber l0 (1 : Int32) (a + (1 : Int32)) l2 s v ho)) (fun q14 => ?_)
    refine ax_j (ax_iload_n hV dX1_monthWith_17 rfl) ?_
    refine ax_jif (ax_icmp_gt hV dX1_monthWith_18) ?_ ?_
    · refine ax_jf (lv' := [none, none, none, some (.int a)]) [false, false, false, true] rfl ?_
      exact ax_jl (fun h => hO a h)
    · refine ax_j (ax_iinc hV (a + 1) [some (.int l0), some (.int l1), some (.int l2), some (.int (a + 1))] dX1_monthWith_21 rfl rfl rfl rfl) ?_
      refine ax_j (ax_goto hV dX1_monthWith_24) ?_
      exact ax_jl (fun h => hI (a + 1) h)
theorem T_X1_monthWith (p1 : Int32) (p2 : Int32) (p3 : Int32) (s : ax_S) (r : Int32) (h : f_X1_monthWith p1 p2 p3 s = some r) : ax_M cx_C mu_X1_monthWith (fun ad => [.int p1, .int p2, .int p3]) s (some (.int r)) s := by
  refine ax_enter (by decide +kernel) 1 (fun ad => [some (.int p1), some (.int p2), some (.int p3), none]) (fun ad => rfl) (fun ad => Nat.le_of_ble_eq_true rfl) (fun X hV ho => ?_)
  refine ax_go (fun r : Int32 => (some (Value.int r), s)) (fun P hP => ?_) h ho
  unfold f_X1_monthWith
  refine ax_j (ax_iconst hV (1 : Int32) dX1_monthWith_0 (by decide)) ?_
  refine ax_j (ax_istore_n hV [some (.int p1), some (.int p2), some (.int p3), some (.int (1 : Int32))] dX1_monthWith_1 rfl rfl) ?_
  refine ax_jlp (1 : Int32) (fun x2 : Int32 => [some (.int p1), some (.int p2), some (.int p3), some (.int x2)]) (fun x2 : Int32 => s) (fun y2 : Int32 => [none, none, none, some (.int y2)]) (fun y2 : Int32 => s) (fun P' h1 h2 w => B_X1_monthWith_2 X hV p1 p2 p3 s P' h1 h2 w) (fun e2 => ?_)
  refine ax_j (ax_iload_n hV dX1_monthWith_27 rfl) ?_
  exact ax_jl (fun h => ax_ir hV rfl dX1_monthWith_28 (hP e2 h))
theorem lk_X9_282 : ax_lkS RX9 282 mu_X1_monthWith 3 := ax_lkS_of (ax_m4 28 rfl rfl) (ax_m4 29 rfl rfl) (ax_m1 16 rfl rfl) lc_X1_monthWith ⟨by decide +kernel, by decide +kernel, by decide +kernel⟩
def mu_X2_append : ax_Mu := (yX2_append, cX2_append, 2, some .int, 0, 0)
theorem lc_X2_append : Cond.code mu_X2_append.1 mu_X2_append.2.1 mu_X2_append.2.2.1 mu_X2_append.2.2.2.1 ∈ ax_tb := (ax_m4 38 rfl rfl)
noncomputable def f_X2_append (p1 : Int32) (s : ax_S) : Option (Int32 × ax_S) := (if (s.1 7 1) < (40 : Int32) then (ax_si cx_C s 36 (s.1 7 1) p1).bind (fun s21 => some ((((ax_ui s21 7 1 ((s21.1 7 1) + (1 : Int32))).1 7 1), (ax_ui s21 7 1 ((s21.1 7 1) + (1 : Int32)))))) else some (((-4 : Int32), s)))
theorem T_X2_append (p1 : Int32) (s : ax_S) (r : Int32 × ax_S) (h : f_X2_append p1 s = some r) : ax_M cx_C mu_X2_append (fun ad => [.ref (ad 7), .int p1]) s (some (.int r.1)) r.2 := by
  refine ax_enter (by decide +kernel) 0 (fun ad => [some (.ref (ad 7)), some (.int p1)]) (fun ad => rfl) (fun ad => Nat.le_of_ble_eq_true rfl) (fun X hV ho => ?_)
  refine ax_go (fun r : Int32 × ax_S => (some (Value.int r.1), r.2)) (fun P hP => ?_) h ho
  unfold f_X2_append
  refine ax_j (ax_aload_n hV dX2_append_0 rfl) ?_
  refine ax_j (ax_gfi hV lf_X2_15 dX2_append_1 rfl rfl) ?_
  refine ax_j (ax_bipush hV (40 : Int32) dX2_append_4 (by decide)) ?_
  refine ax_jif (ax_icmp_lt hV dX2_append_6) ?_ ?_
  · refine ax_j (ax_aload_n hV dX2_append_12 rfl) ?_
    refine ax_j (ax_gfr hV lf_X2_9 dX2_append_13 rfl rfl) ?_
    refine ax_j (ax_aload_n hV dX2_append_16 rfl) ?_
    refine ax_j (ax_gfi hV lf_X2_15 dX2_append_17 rfl rfl) ?_
    refine ax_j (ax_iload_n hV dX2_append_20 rfl) ?_
    refine ax_jb (ax_iast hV dX2_append_21) (fun s21 => ?_)
    refine ax_j (ax_aload_n hV dX2_append_22 rfl) ?_
    refine ax_j (ax_dup hV dX2_append_23 rfl) ?_
    refine ax_j (ax_gfi hV lf_X2_15 dX2_append_24 rfl rfl) ?_
    refine ax_j (ax_iconst hV (1 : Int32) dX2_append_27 (by decide)) ?_
    refine ax_j (ax_iadd hV dX2_append_28) ?_
    refine ax_j (ax_pfi hV lp_X2_15 dX2_append_29 rfl rfl) ?_
    refine ax_j (ax_aload_n hV dX2_append_32 rfl) ?_
    refine ax_j (ax_gfi hV lf_X2_15 dX2_append_33 rfl rfl) ?_
    exact ax_jl (fun h => ax_ir hV rfl dX2_append_36 (hP (((ax_ui s21 7 1 ((s21.1 7 1) + (1 : Int32))).1 7 1), (ax_ui s21 7 1 ((s21.1 7 1) + (1 : Int32)))) h))
  · refine ax_j (ax_bipush hV (-4 : Int32) dX2_append_9 (by decide)) ?_
    exact ax_jl (fun h => ax_ir hV rfl dX2_append_11 (hP ((-4 : Int32), s) h))
theorem lk_X9_286 : ax_lkV RX9 286 mu_X2_append RX2 1 := ax_lkV_of (ax_m4 35 rfl rfl) (ax_m4 36 rfl rfl) (ax_m4 37 rfl rfl) (ax_m1 8 rfl rfl) lc_X2_append rfl ⟨by decide +kernel, by decide +kernel, by decide +kernel⟩
def mu_X2_signHere : ax_Mu := (yX2_signHere, cX2_signHere, 1, some .int, 0, 0)
theorem lc_X2_signHere : Cond.code mu_X2_signHere.1 mu_X2_signHere.2.1 mu_X2_signHere.2.2.1 mu_X2_signHere.2.2.2.1 ∈ ax_tb := (ax_m4 62 rfl rfl)
noncomputable def f_X2_signHere  (s : ax_S) : Option (Int32) := (if (s.1 7 1) ≤ (s.1 7 4) then some ((-1 : Int32)) else (ax_ai cx_C s 36 (s.1 7 4)).bind (fun v19 => some (v19)))
theorem T_X2_signHere  (s : ax_S) (r : Int32) (h : f_X2_signHere s = some r) : ax_M cx_C mu_X2_signHere (fun ad => [.ref (ad 7)]) s (some (.int r)) s := by
  refine ax_enter (by decide +kernel) 0 (fun ad => [some (.ref (ad 7))]) (fun ad => rfl) (fun ad => Nat.le_of_ble_eq_true rfl) (fun X hV ho => ?_)
  refine ax_go (fun r : Int32 => (some (Value.int r), s)) (fun P hP => ?_) h ho
  unfold f_X2_signHere
  refine ax_j (ax_aload_n hV dX2_signHere_0 rfl) ?_
  refine ax_j (ax_gfi hV lf_X2_25 dX2_signHere_1 rfl rfl) ?_
  refine ax_j (ax_aload_n hV dX2_signHere_4 rfl) ?_
  refine ax_j (ax_gfi hV lf_X2_15 dX2_signHere_5 rfl rfl) ?_
  refine ax_jif (ax_icmp_ge hV dX2_signHere_8) ?_ ?_
  · refine ax_j (ax_iconst hV (-1 : Int32) dX2_signHere_23 (by decide)) ?_
    exact ax_jl (fun h => ax_ir hV rfl dX2_signHere_24 (hP (-1 : Int32) h))
  · refine ax_j (ax_aload_n hV dX2_signHere_11 rfl) ?_
    refine ax_j (ax_gfr hV lf_X2_9 dX2_signHere_12 rfl rfl) ?_
    refine ax_j (ax_aload_n hV dX2_signHere_15 rfl) ?_
    refine ax_j (ax_gfi hV lf_X2_25 dX2_signHere_16 rfl rfl) ?_
    refine ax_jb (ax_iald hV dX2_signHere_19) (fun v19 => ?_)
    refine ax_j (ax_goto hV dX2_signHere_20) ?_
    exact ax_jl (fun h => ax_ir hV rfl dX2_signHere_24 (hP v19 h))
theorem lk_X2_38 : ax_lkV RX2 38 mu_X2_signHere RX2 0 := ax_lkV_of (ax_m4 59 rfl rfl) (ax_m4 61 rfl rfl) (ax_mp3 1 rfl rfl rfl) (ax_m1 8 rfl rfl) lc_X2_signHere rfl ⟨by decide +kernel, by decide +kernel, by decide +kernel⟩
def mu_X2_isFigure : ax_Mu := (yX2_isFigure, cX2_isFigure, 1, some .boolean, 0, 0)
theorem lc_X2_isFigure : Cond.code mu_X2_isFigure.1 mu_X2_isFigure.2.1 mu_X2_isFigure.2.2.1 mu_X2_isFigure.2.2.2.1 ∈ ax_tb := (ax_m4 65 rfl rfl)
noncomputable def f_X2_isFigure (p1 : Int32) : Option (Int32) := (if p1 < (48 : Int32) then some ((0 : Int32)) else (if (57 : Int32) < p1 then some ((0 : Int32)) else some ((1 : Int32))))
theorem T_X2_isFigure (p1 : Int32) (s : ax_S) (r : Int32) (h : f_X2_isFigure p1 = some r) : ax_M cx_C mu_X2_isFigure (fun ad => [.int p1]) s (some (.int r)) s := by
  refine ax_enter (by decide +kernel) 0 (fun ad => [some (.int p1)]) (fun ad => rfl) (fun ad => Nat.le_of_ble_eq_true rfl) (fun X hV ho => ?_)
  refine ax_go (fun r : Int32 => (some (Value.int r), s)) (fun P hP => ?_) h ho
  unfold f_X2_isFigure
  refine ax_j (ax_iload_n hV dX2_isFigure_0 rfl) ?_
  refine ax_j (ax_bipush hV (48 : Int32) dX2_isFigure_1 (by decide)) ?_
  refine ax_jif (ax_icmp_lt hV dX2_isFigure_3) ?_ ?_
  · refine ax_j (ax_iconst hV (0 : Int32) dX2_isFigure_16 (by decide)) ?_
    exact ax_jl (fun h => ax_zr hV rfl (by decide) dX2_isFigure_17 (hP (0 : Int32) h))
  · refine ax_j (ax_iload_n hV dX2_isFigure_6 rfl) ?_
    refine ax_j (ax_bipush hV (57 : Int32) dX2_isFigure_7 (by decide)) ?_
    refine ax_jif (ax_icmp_gt hV dX2_isFigure_9) ?_ ?_
    · refine ax_j (ax_iconst hV (0 : Int32) dX2_isFigure_16 (by decide)) ?_
      exact ax_jl (fun h => ax_zr hV rfl (by decide) dX2_isFigure_17 (hP (0 : Int32) h))
    · refine ax_j (ax_iconst hV (1 : Int32) dX2_isFigure_12 (by decide)) ?_
      refine ax_j (ax_goto hV dX2_isFigure_13) ?_
      exact ax_jl (fun h => ax_zr hV rfl (by decide) dX2_isFigure_17 (hP (1 : Int32) h))
theorem lk_X2_68 : ax_lkS RX2 68 mu_X2_isFigure 1 := ax_lkS_of (ax_m4 63 rfl rfl) (ax_m4 64 rfl rfl) (ax_m1 8 rfl rfl) lc_X2_isFigure ⟨by decide +kernel, by decide +kernel, by decide +kernel⟩
def mu_X2_readNumber : ax_Mu := (yX2_readNumber, cX2_readNumber, 5, some .int, 1, 20)
theorem lc_X2_readNumber : Cond.code mu_X2_readNumber.1 mu_X2_readNumber.2.1 mu_X2_readNumber.2.2.1 mu_X2_readNumber.2.2.2.1 ∈ ax_tb := (ax_m4 58 rfl rfl)
noncomputable def b_X2_readNumber_13 (l1 : Int32) (l2 : Int32) (l3 : Int32) (a : Int32 × ax_S) : Option ((Int32 × ax_S) ⊕ (ax_S)) := (if l1 ≤ a.1 then some (.inr a.2) else (f_X2_signHere a.2).bind (fun q20 => (f_X2_isFigure q20).bind (fun q23 => (if q23 = 0 then some (.inr a.2) else (f_X2_signHere a.2).bind (fun q38 => some (.inl ((a.1 + 1), (ax_ui (ax_ui a.2 7 5 ((((10 : Int32) * (a.2.1 7 5)) + q38) - (48 : Int32))) 7 4 (((ax_ui a.2 7 5 ((((10 : Int32) * (a.2.1 7 5)) + q38) - (48 : Int32))).1 7 4) + (1 : Int32))))))))))
noncomputable def j_X2_readNumber_64 (l2 : Int32) (l3 : Int32) (s : ax_S) : Option (Int32 × ax_S) := (if (s.1 7 5) < (1 : Int32) then some ((l3, s)) else (if (s.1 7 5) ≤ l2 then some (((-1 : Int32), s)) else some ((l3, s))))
noncomputable def f_X2_readNumber (p1 : Int32) (p2 : Int32) (s : ax_S) : Option (Int32 × ax_S) := (ax_lp (b_X2_readNumber_13 p1 p2 (s.1 7 4)) ((0 : Int32), (ax_ui s 7 5 (0 : Int32)))).bind (fun e13 => j_X2_readNumber_64 p2 (s.1 7 4) e13)
theorem B_X2_readNumber_13 (X : ax_G × ax_K × Option Value × ax_S) (hV : ax_ok (cx_C, X) mu_X2_readNumber) (l1 : Int32) (l2 : Int32) (l3 : Int32) (P : ((Int32 × ax_S) ⊕ (ax_S)) → Prop) (hI : ∀ a : Int32 × ax_S, P (.inl a) → ax_At (cx_C, X) 13 [some (.ref (ax_ad (cx_C, X) 7)), some (.int l1), some (.int l2), some (.int l3), some (.int a.1)] [] a.2) (hO : ∀ e : ax_S, P (.inr e) → ax_At (cx_C, X) 64 [some (.ref (ax_ad (cx_C, X) 7)), none, some (.int l2), some (.int l3), none] [] e) (a : Int32 × ax_S) : ax_J (cx_C, X) P 13 [some (.ref (ax_ad (cx_C, X) 7)), some (.int l1), some (.int l2), some (.int l3), some (.int a.1)] [] a.2 (b_X2_readNumber_13 l1 l2 l3 a) := by
  unfold b_X2_readNumber_13
  refine ax_j (ax_iload hV dX2_readNumber_13 rfl) ?_
  refine ax_j (ax_iload_n hV dX2_readNumber_15 rfl) ?_
  refine ax_jif (ax_icmp_ge hV dX2_readNumber_16) ?_ ?_
  · refine ax_jf (lv' := [some (.ref (ax_ad (cx_C, X) 7)), none, some (.int l2), some (.int l3), none]) [true, false, true, true, false] rfl ?_
    exact ax_jl (fun h => hO a.2 h)
  · refine ax_j (ax_aload_n hV dX2_readNumber_19 rfl) ?_
    refine ax_jb (fun v ho => ax_cVi hV lk_X2_38 rfl dX2_readNumber_20 rfl rfl [] [] (fun ad => [.ref (ad 7)]) rfl rfl rfl rfl v a.2 (T_X2_signHere a.2 v ho)) (fun q20 => ?_)
    refine ax_jb (fun v ho => ax_cSi hV lk_X2_68 rfl dX2_readNumber_23 [.int q20] [] (fun ad => [.int q20]) rfl rfl rfl rfl v a.2 (T_X2_isFigure q20 a.2 v ho)) (fun q23 => ?_)
    refine ax_jif (ax_if_eq hV dX2_readNumber_26) ?_ ?_
    · refine ax_jf (lv' := [some (.ref (ax_ad (cx_C, X) 7)), none, some (.int l2), some (.int l3), none]) [true, false, true, true, false] rfl ?_
      exact ax_jl (fun h => hO a.2 h)
    · refine ax_j (ax_aload_n hV dX2_readNumber_29 rfl) ?_
      refine ax_j (ax_bipush hV (10 : Int32) dX2_readNumber_30 (by decide)) ?_
      refine ax_j (ax_aload_n hV dX2_readNumber_32 rfl) ?_
      refine ax_j (ax_gfi hV lf_X2_28 dX2_readNumber_33 rfl rfl) ?_
      refine ax_j (ax_imul hV dX2_readNumber_36) ?_
      refine ax_j (ax_aload_n hV dX2_readNumber_37 rfl) ?_
      refine ax_jb (fun v ho => ax_cVi hV lk_X2_38 rfl dX2_readNumber_38 rfl rfl [] [.int ((10 : Int32) * (a.2.1 7 5)), .ref (ax_ad (cx_C, X) 7)] (fun ad => [.ref (ad 7)]) rfl rfl rfl rfl v a.2 (T_X2_signHere a.2 v ho)) (fun q38 => ?_)
      refine ax_j (ax_iadd hV dX2_readNumber_41) ?_
      refine ax_j (ax_bipush hV (48 : Int32) dX2_readNumber_42 (by decide)) ?_
      refine ax_j (ax_isub hV dX2_readNumber_44) ?_
      refine ax_j (ax_pfi hV lp_X2_28 dX2_readNumber_45 rfl rfl) ?_
      refine ax_j (ax_aload_n hV dX2_readNumber_48 rfl) ?_
      refine ax_j (ax_dup hV dX2_readNumber_49 rfl) ?_
      refine ax_j (ax_gfi hV lf_X2_25 dX2_readNumber_50 rfl rfl) ?_
      refine ax_j (ax_iconst hV (1 : Int32) dX2_readNumber_53 (by decide)) ?_
      refine ax_j (ax_iadd hV dX2_readNumber_54) ?_
      refine ax_j (ax_pfi hV lp_X2_25 dX2_readNumber_55 rfl rfl) ?_
      refine ax_j (ax_iinc hV (a.1 + 1) [some (.ref (ax_ad (cx_C, X) 7)), some (.int l1), some (.int l2), some (.int l3), some (.int (a.1 + 1))] dX2_readNumber_58 rfl rfl rfl rfl) ?_
      refine ax_j (ax_goto hV dX2_readNumber_61) ?_
      exact ax_jl (fun h => hI ((a.1 + 1), (ax_ui (ax_ui a.2 7 5 ((((10 : Int32) * (a.2.1 7 5)) + q38) - (48 : Int32))) 7 4 (((ax_ui a.2 7 5 ((((10 : Int32) * (a.2.1 7 5)) + q38) - (48 : Int32))).1 7 4) + (1 : Int32)))) h)
theorem N_X2_readNumber_64 (X : ax_G × ax_K × Option Value × ax_S) (hV : ax_ok (cx_C, X) mu_X2_readNumber)  (P : (Int32 × ax_S) → Prop) (hP : ∀ r : Int32 × ax_S, P r → X.2.2 = (fun r : Int32 × ax_S => (some (Value.int r.1), r.2)) r) (l2 : Int32) (l3 : Int32) (s : ax_S) : ax_J (cx_C, X) P 64 [some (.ref (ax_ad (cx_C, X) 7)), none, some (.int l2), some (.int l3), none] [] s (j_X2_readNumber_64 l2 l3 s) := by
  unfold j_X2_readNumber_64
  refine ax_j (ax_aload_n hV dX2_readNumber_64 rfl) ?_
  refine ax_j (ax_gfi hV lf_X2_28 dX2_readNumber_65 rfl rfl) ?_
  refine ax_j (ax_iconst hV (1 : Int32) dX2_readNumber_68 (by decide)) ?_
  refine ax_jif (ax_icmp_lt hV dX2_readNumber_69) ?_ ?_
  · refine ax_j (ax_iload_n hV dX2_readNumber_80 rfl) ?_
    refine ax_j (ax_goto hV dX2_readNumber_81) ?_
    exact ax_jl (fun h => ax_ir hV rfl dX2_readNumber_85 (hP (l3, s) h))
  · refine ax_j (ax_aload_n hV dX2_readNumber_72 rfl) ?_
    refine ax_j (ax_gfi hV lf_X2_28 dX2_readNumber_73 rfl rfl) ?_
    refine ax_j (ax_iload_n hV dX2_readNumber_76 rfl) ?_
    refine ax_jif (ax_icmp_le hV dX2_readNumber_77) ?_ ?_
    · refine ax_j (ax_iconst hV (-1 : Int32) dX2_readNumber_84 (by decide)) ?_
      exact ax_jl (fun h => ax_ir hV rfl dX2_readNumber_85 (hP ((-1 : Int32), s) h))
    · refine ax_j (ax_iload_n hV dX2_readNumber_80 rfl) ?_
      refine ax_j (ax_goto hV dX2_readNumber_81) ?_
      exact ax_jl (fun h => ax_ir hV rfl dX2_readNumber_85 (hP (l3, s) h))
theorem T_X2_readNumber (p1 : Int32) (p2 : Int32) (s : ax_S) (r : Int32 × ax_S) (h : f_X2_readNumber p1 p2 s = some r) : ax_M cx_C mu_X2_readNumber (fun ad => [.ref (ad 7), .int p1, .int p2]) s (some (.int r.1)) r.2 := by
  refine ax_enter (by decide +kernel) 2 (fun ad => [some (.ref (ad 7)), some (.int p1), some (.int p2), none, none]) (fun ad => rfl) (fun ad => Nat.le_of_ble_eq_true rfl) (fun X hV ho => ?_)
  refine ax_go (fun r : Int32 × ax_S => (some (Value.int r.1), r.2)) (fun P hP => ?_) h ho
  unfold f_X2_readNumber
  refine ax_j (ax_aload_n hV dX2_readNumber_0 rfl) ?_
  refine ax_j (ax_gfi hV lf_X2_25 dX2_readNumber_1 rfl rfl) ?_
  refine ax_j (ax_istore_n hV [some (.ref (ax_ad (cx_C, X) 7)), some (.int p1), some (.int p2), some (.int (s.1 7 4)), none] dX2_readNumber_4 rfl rfl) ?_
  refine ax_j (ax_aload_n hV dX2_readNumber_5 rfl) ?_
  refine ax_j (ax_iconst hV (0 : Int32) dX2_readNumber_6 (by decide)) ?_
  refine ax_j (ax_pfi hV lp_X2_28 dX2_readNumber_7 rfl rfl) ?_
  refine ax_j (ax_iconst hV (0 : Int32) dX2_readNumber_10 (by decide)) ?_
  refine ax_j (ax_istore hV [some (.ref (ax_ad (cx_C, X) 7)), some (.int p1), some (.int p2), some (.int (s.1 7 4)), some (.int (0 : Int32))] dX2_readNumber_11 rfl rfl) ?_
  refine ax_jlp ((0 : Int32), (ax_ui s 7 5 (0 : Int32))) (fun x13 : Int32 × ax_S => [some (.ref (ax_ad (cx_C, X) 7)), some (.int p1), some (.int p2), some (.int (s.1 7 4)), some (.int x13.1)]) (fun x13 : Int32 × ax_S => x13.2) (fun y13 : ax_S => [some (.ref (ax_ad (cx_C, X) 7)), none, some (.int p2), some (.int (s.1 7 4)), none]) (fun y13 : ax_S => y13) (fun P' h1 h2 w => B_X2_readNumber_13 X hV p1 p2 (s.1 7 4) P' h1 h2 w) (fun e13 => ?_)
  exact N_X2_readNumber_64 X hV  P hP p2 (s.1 7 4) e13
theorem lk_X2_44 : ax_lkV RX2 44 mu_X2_readNumber RX2 2 := ax_lkV_of (ax_m4 55 rfl rfl) (ax_m4 57 rfl rfl) (ax_mp3 0 rfl rfl rfl) (ax_m1 8 rfl rfl) lc_X2_readNumber rfl ⟨by decide +kernel, by decide +kernel, by decide +kernel⟩
def mu_X2_readDot : ax_Mu := (yX2_readDot, cX2_readDot, 1, some .int, 1, 20)
theorem lc_X2_readDot : Cond.code mu_X2_readDot.1 mu_X2_readDot.2.1 mu_X2_readDot.2.2.1 mu_X2_readDot.2.2.2.1 ∈ ax_tb := (ax_m4 69 rfl rfl)
noncomputable def f_X2_readDot  (s : ax_S) : Option (Int32 × ax_S) := (f_X2_signHere s).bind (fun q1 => (if q1 = (46 : Int32) then some (((-1 : Int32), (ax_ui s 7 4 ((s.1 7 4) + (1 : Int32))))) else some (((s.1 7 4), s))))
theorem T_X2_readDot  (s : ax_S) (r : Int32 × ax_S) (h : f_X2_readDot s = some r) : ax_M cx_C mu_X2_readDot (fun ad => [.ref (ad 7)]) s (some (.int r.1)) r.2 := by
  refine ax_enter (by decide +kernel) 0 (fun ad => [some (.ref (ad 7))]) (fun ad => rfl) (fun ad => Nat.le_of_ble_eq_true rfl) (fun X hV ho => ?_)
  refine ax_go (fun r : Int32 × ax_S => (some (Value.int r.1), r.2)) (fun P hP => ?_) h ho
  unfold f_X2_readDot
  refine ax_j (ax_aload_n hV dX2_readDot_0 rfl) ?_
  refine ax_jb (fun v ho => ax_cVi hV lk_X2_38 rfl dX2_readDot_1 rfl rfl [] [] (fun ad => [.ref (ad 7)]) rfl rfl rfl rfl v s (T_X2_signHere s v ho)) (fun q1 => ?_)
  refine ax_j (ax_bipush hV (46 : Int32) dX2_readDot_4 (by decide)) ?_
  refine ax_jif (ax_icmp_eq hV dX2_readDot_6) ?_ ?_
  · refine ax_j (ax_aload_n hV dX2_readDot_14 rfl) ?_
    refine ax_j (ax_dup hV dX2_readDot_15 rfl) ?_
    refine ax_j (ax_gfi hV lf_X2_25 dX2_readDot_16 rfl rfl) ?_
    refine ax_j (ax_iconst hV (1 : Int32) dX2_readDot_19 (by decide)) ?_
    refine ax_j (ax_iadd hV dX2_readDot_20) ?_
    refine ax_j (ax_pfi hV lp_X2_25 dX2_readDot_21 rfl rfl) ?_
    refine ax_j (ax_iconst hV (-1 : Int32) dX2_readDot_24 (by decide)) ?_
    exact ax_jl (fun h => ax_ir hV rfl dX2_readDot_25 (hP ((-1 : Int32), (ax_ui s 7 4 ((s.1 7 4) + (1 : Int32)))) h))
  · refine ax_j (ax_aload_n hV dX2_readDot_9 rfl) ?_
    refine ax_j (ax_gfi hV lf_X2_25 dX2_readDot_10 rfl rfl) ?_
    exact ax_jl (fun h => ax_ir hV rfl dX2_readDot_13 (hP ((s.1 7 4), s) h))
theorem lk_X2_48 : ax_lkV RX2 48 mu_X2_readDot RX2 0 := ax_lkV_of (ax_m4 66 rfl rfl) (ax_m4 68 rfl rfl) (ax_mp3 2 rfl rfl rfl) (ax_m1 8 rfl rfl) lc_X2_readDot rfl ⟨by decide +kernel, by decide +kernel, by decide +kernel⟩
def mu_X2_readLetter : ax_Mu := (yX2_readLetter, cX2_readLetter, 6, some .int, 2, 45)
theorem lc_X2_readLetter : Cond.code mu_X2_readLetter.1 mu_X2_readLetter.2.1 mu_X2_readLetter.2.2.1 mu_X2_readLetter.2.2.2.1 ∈ ax_tb := (ax_m4 73 rfl rfl)
noncomputable def f_X2_readLetter (p1 : Int32) (p2 : Int32) (p3 : Int32) (p4 : Int32) (s : ax_S) : Option (Int32 × ax_S) := (f_X2_signHere s).bind (fun q1 => (f_X1_isOne (q1 - (97 : Int32))).bind (fun q11 => (if q11 = 0 then some (((s.1 7 4), s)) else (f_X1_isDate (q1 - (97 : Int32)) p2 p3 p4 (ax_ui s 7 4 ((s.1 7 4) + (1 : Int32)))).bind (fun q38 => (if q38 = 0 then some ((p1, (ax_ui s 7 4 ((s.1 7 4) + (1 : Int32))))) else (f_X1_dayNumber (q1 - (97 : Int32)) p2 p3 p4 (ax_ui s 7 4 ((s.1 7 4) + (1 : Int32)))).bind (fun q53 => some (((-1 : Int32), (ax_ui (ax_ui s 7 4 ((s.1 7 4) + (1 : Int32))) 7 6 q53)))))))))
theorem T_X2_readLetter (p1 : Int32) (p2 : Int32) (p3 : Int32) (p4 : Int32) (s : ax_S) (r : Int32 × ax_S) (h : f_X2_readLetter p1 p2 p3 p4 s = some r) : ax_M cx_C mu_X2_readLetter (fun ad => [.ref (ad 7), .int p1, .int p2, .int p3, .int p4]) s (some (.int r.1)) r.2 := by
  refine ax_enter (by decide +kernel) 1 (fun ad => [some (.ref (ad 7)), some (.int p1), some (.int p2), some (.int p3), some (.int p4), none]) (fun ad => rfl) (fun ad => Nat.le_of_ble_eq_true rfl) (fun X hV ho => ?_)
  refine ax_go (fun r : Int32 × ax_S => (some (Value.int r.1), r.2)) (fun P hP => ?_) h ho
  unfold f_X2_readLetter
  refine ax_j (ax_aload_n hV dX2_readLetter_0 rfl) ?_
  refine ax_jb (fun v ho => ax_cVi hV lk_X2_38 rfl dX2_readLetter_1 rfl rfl [] [] (fun ad => [.ref (ad 7)]) rfl rfl rfl rfl v s (T_X2_signHere s v ho)) (fun q1 => ?_)
  refine ax_j (ax_bipush hV (97 : Int32) dX2_readLetter_4 (by decide)) ?_
  refine ax_j (ax_isub hV dX2_readLetter_6) ?_
  refine ax_j (ax_istore hV [some (.ref (ax_ad (cx_C, X) 7)), some (.int p1), some (.int p2), some (.int p3), some (.int p4), some (.int (q1 - (97 : Int32)))] dX2_readLetter_7 rfl rfl) ?_
  refine ax_j (ax_iload hV dX2_readLetter_9 rfl) ?_
  refine ax_jb (fun v ho => ax_cSi hV lk_X2_57 rfl dX2_readLetter_11 [.int (q1 - (97 : Int32))] [] (fun ad => [.int (q1 - (97 : Int32))]) rfl rfl rfl rfl v s (T_X1_isOne (q1 - (97 : Int32)) s v ho)) (fun q11 => ?_)
  refine ax_jif (ax_if_ne hV dX2_readLetter_14) ?_ ?_
  · refine ax_j (ax_aload_n hV dX2_readLetter_17 rfl) ?_
    refine ax_j (ax_gfi hV lf_X2_25 dX2_readLetter_18 rfl rfl) ?_
    exact ax_jl (fun h => ax_ir hV rfl dX2_readLetter_21 (hP ((s.1 7 4), s) h))
  · refine ax_j (ax_aload_n hV dX2_readLetter_22 rfl) ?_
    refine ax_j (ax_dup hV dX2_readLetter_23 rfl) ?_
    refine ax_j (ax_gfi hV lf_X2_25 dX2_readLetter_24 rfl rfl) ?_
    refine ax_j (ax_iconst hV (1 : Int32) dX2_readLetter_27 (by decide)) ?_
    refine ax_j (ax_iadd hV dX2_readLetter_28) ?_
    refine ax_j (ax_pfi hV lp_X2_25 dX2_readLetter_29 rfl rfl) ?_
    refine ax_j (ax_iload hV dX2_readLetter_32 rfl) ?_
    refine ax_j (ax_iload_n hV dX2_readLetter_34 rfl) ?_
    refine ax_j (ax_iload_n hV dX2_readLetter_35 rfl) ?_
    refine ax_j (ax_iload hV dX2_readLetter_36 rfl) ?_
    refine ax_jb (fun v ho => ax_cSi hV lk_X2_61 rfl dX2_readLetter_38 [.int (q1 - (97 : Int32)), .int p2, .int p3, .int p4] [] (fun ad => [.int (q1 - (97 : Int32)), .int p2, .int p3, .int p4]) rfl rfl rfl rfl v (ax_ui s 7 4 ((s.1 7 4) + (1 : Int32))) (T_X1_isDate (q1 - (97 : Int32)) p2 p3 p4 (ax_ui s 7 4 ((s.1 7 4) + (1 : Int32))) v ho)) (fun q38 => ?_)
    refine ax_jif (ax_if_ne hV dX2_readLetter_41) ?_ ?_
    · refine ax_j (ax_iload_n hV dX2_readLetter_44 rfl) ?_
      exact ax_jl (fun h => ax_ir hV rfl dX2_readLetter_45 (hP (p1, (ax_ui s 7 4 ((s.1 7 4) + (1 : Int32)))) h))
    · refine ax_j (ax_aload_n hV dX2_readLetter_46 rfl) ?_
      refine ax_j (ax_iload hV dX2_readLetter_47 rfl) ?_
      refine ax_j (ax_iload_n hV dX2_readLetter_49 rfl) ?_
      refine ax_j (ax_iload_n hV dX2_readLetter_50 rfl) ?_
      refine ax_j (ax_iload hV dX2_readLetter_51 rfl) ?_
      refine ax_jb (fun v ho => ax_cSi hV lk_X2_65 rfl dX2_readLetter_53 [.int (q1 - (97 : Int32)), .int p2, .int p3, .int p4] [.ref (ax_ad (cx_C, X) 7)] (fun ad => [.int (q1 - (97 : Int32)), .int p2, .int p3, .int p4]) rfl rfl rfl rfl v (ax_ui s 7 4 ((s.1 7 4) + (1 : Int32))) (T_X1_dayNumber (q1 - (97 : Int32)) p2 p3 p4 (ax_ui s 7 4 ((s.1 7 4) + (1 : Int32))) v ho)) (fun q53 => ?_)
      refine ax_j (ax_pfi hV lp_X2_31 dX2_readLetter_56 rfl rfl) ?_
      refine ax_j (ax_iconst hV (-1 : Int32) dX2_readLetter_59 (by decide)) ?_
      exact ax_jl (fun h => ax_ir hV rfl dX2_readLetter_60 (hP ((-1 : Int32), (ax_ui (ax_ui s 7 4 ((s.1 7 4) + (1 : Int32))) 7 6 q53)) h))
theorem lk_X2_53 : ax_lkV RX2 53 mu_X2_readLetter RX2 4 := ax_lkV_of (ax_m4 70 rfl rfl) (ax_m4 72 rfl rfl) (ax_mp3 3 rfl rfl rfl) (ax_m1 8 rfl rfl) lc_X2_readLetter rfl ⟨by decide +kernel, by decide +kernel, by decide +kernel⟩
def mu_X2_readDate : ax_Mu := (yX2_readDate, cX2_readDate, 5, some .int, 3, 70)
theorem lc_X2_readDate : Cond.code mu_X2_readDate.1 mu_X2_readDate.2.1 mu_X2_readDate.2.2.1 mu_X2_readDate.2.2.2.1 ∈ ax_tb := (ax_m4 54 rfl rfl)
noncomputable def j_X2_readDate_71 (l1 : Int32) (l2 : Int32) (l3 : Int32) (l4 : Int32) (s : ax_S) : Option (Int32 × ax_S) := (if l2 = (-1 : Int32) then (f_X2_readLetter l1 l3 l4 (s.1 7 5) s).bind (fun q87 => some ((q87.1, q87.2))) else some ((l2, s)))
noncomputable def j_X2_readDate_57 (l1 : Int32) (l2 : Int32) (l3 : Int32) (l4 : Int32) (s : ax_S) : Option (Int32 × ax_S) := (if l2 = (-1 : Int32) then (f_X2_readNumber (3 : Int32) (600 : Int32) s).bind (fun q67 => j_X2_readDate_71 l1 q67.1 l3 l4 q67.2) else j_X2_readDate_71 l1 l2 l3 l4 s)
noncomputable def j_X2_readDate_41 (l1 : Int32) (l2 : Int32) (l3 : Int32) (s : ax_S) : Option (Int32 × ax_S) := (if l2 = (-1 : Int32) then (f_X2_readDot s).bind (fun q53 => j_X2_readDate_57 l1 q53.1 l3 (s.1 7 5) q53.2) else j_X2_readDate_57 l1 l2 l3 (s.1 7 5) s)
noncomputable def j_X2_readDate_28 (l1 : Int32) (l2 : Int32) (l3 : Int32) (s : ax_S) : Option (Int32 × ax_S) := (if l2 = (-1 : Int32) then (f_X2_readNumber (2 : Int32) (12 : Int32) s).bind (fun q37 => j_X2_readDate_41 l1 q37.1 l3 q37.2) else j_X2_readDate_41 l1 l2 l3 s)
noncomputable def f_X2_readDate  (s : ax_S) : Option (Int32 × ax_S) := (f_X2_readNumber (2 : Int32) (31 : Int32) s).bind (fun q9 => (if q9.1 = (-1 : Int32) then (f_X2_readDot q9.2).bind (fun q24 => j_X2_readDate_28 (s.1 7 4) q24.1 (q9.2.1 7 5) q24.2) else j_X2_readDate_28 (s.1 7 4) q9.1 (q9.2.1 7 5) q9.2))
theorem N_X2_readDate_71 (X : ax_G × ax_K × Option Value × ax_S) (hV : ax_ok (cx_C, X) mu_X2_readDate)  (P : (Int32 × ax_S) → Prop) (hP : ∀ r : Int32 × ax_S, P r → X.2.2 = (fun r : Int32 × ax_S => (some (Value.int r.1), r.2)) r) (l1 : Int32) (l2 : Int32) (l3 : Int32) (l4 : Int32) (s : ax_S) : ax_J (cx_C, X) P 71 [some (.ref (ax_ad (cx_C, X) 7)), some (.int l1), some (.int l2), some (.int l3), some (.int l4)] [] s (j_X2_readDate_71 l1 l2 l3 l4 s) := by
  unfold j_X2_readDate_71
  refine ax_j (ax_iload_n hV dX2_readDate_71 rfl) ?_
  refine ax_j (ax_iconst hV (-1 : Int32) dX2_readDate_72 (by decide)) ?_
  refine ax_jif (ax_icmp_eq hV dX2_readDate_73) ?_ ?_
  · refine ax_j (ax_aload_n hV dX2_readDate_78 rfl) ?_
    refine ax_j (ax_iload_n hV dX2_readDate_79 rfl) ?_
    refine ax_j (ax_iload_n hV dX2_readDate_80 rfl) ?_
    refine ax_j (ax_iload hV dX2_readDate_81 rfl) ?_
    refine ax_j (ax_aload_n hV dX2_readDate_83 rfl) ?_
    refine ax_j (ax_gfi hV lf_X2_28 dX2_readDate_84 rfl rfl) ?_
    refine ax_jb (fun v ho => ax_cVi hV lk_X2_53 rfl dX2_readDate_87 rfl rfl [.int l1, .int l3, .int l4, .int (s.1 7 5)] [] (fun ad => [.ref (ad 7), .int l1, .int l3, .int l4, .int (s.1 7 5)]) rfl rfl rfl rfl v.1 v.2 (T_X2_readLetter l1 l3 l4 (s.1 7 5) s v ho)) (fun q87 => ?_)
    exact ax_jl (fun h => ax_ir hV rfl dX2_readDate_90 (hP (q87.1, q87.2) h))
  · refine ax_j (ax_iload_n hV dX2_readDate_76 rfl) ?_
    exact ax_jl (fun h => ax_ir hV rfl dX2_readDate_77 (hP (l2, s) h))
theorem N_X2_readDate_57 (X : ax_G × ax_K × Option Value × ax_S) (hV : ax_ok (cx_C, X) mu_X2_readDate)  (P : (Int32 × ax_S) → Prop) (hP : ∀ r : Int32 × ax_S, P r → X.2.2 = (fun r : Int32 × ax_S => (some (Value.int r.1), r.2)) r) (l1 : Int32) (l2 : Int32) (l3 : Int32) (l4 : Int32) (s : ax_S) : ax_J (cx_C, X) P 57 [some (.ref (ax_ad (cx_C, X) 7)), some (.int l1), some (.int l2), some (.int l3), some (.int l4)] [] s (j_X2_readDate_57 l1 l2 l3 l4 s) := by
  unfold j_X2_readDate_57
  refine ax_j (ax_iload_n hV dX2_readDate_57 rfl) ?_
  refine ax_j (ax_iconst hV (-1 : Int32) dX2_readDate_58 (by decide)) ?_
  refine ax_jif (ax_icmp_ne hV dX2_readDate_59) ?_ ?_
  · refine ax_j (ax_aload_n hV dX2_readDate_62 rfl) ?_
    refine ax_j (ax_iconst hV (3 : Int32) dX2_readDate_63 (by decide)) ?_
    refine ax_j (ax_sipush hV (600 : Int32) dX2_readDate_64 (by decide)) ?_
    refine ax_jb (fun v ho => ax_cVi hV lk_X2_44 rfl dX2_readDate_67 rfl rfl [.int (3 : Int32), .int (600 : Int32)] [] (fun ad => [.ref (ad 7), .int (3 : Int32), .int (600 : Int32)]) rfl rfl rfl rfl v.1 v.2 (T_X2_readNumber (3 : Int32) (600 : Int32) s v ho)) (fun q67 => ?_)
    refine ax_j (ax_istore_n hV [some (.ref (ax_ad (cx_C, X) 7)), some (.int l1), some (.int q67.1), some (.int l3), some (.int l4)] dX2_readDate_70 rfl rfl) ?_
    exact N_X2_readDate_71 X hV  P hP l1 q67.1 l3 l4 q67.2
  · exact N_X2_readDate_71 X hV  P hP l1 l2 l3 l4 s
theorem N_X2_readDate_41 (X : ax_G × ax_K × Option Value × ax_S) (hV : ax_ok (cx_C, X) mu_X2_readDate)  (P : (Int32 × ax_S) → Prop) (hP : ∀ r : Int32 × ax_S, P r → X.2.2 = (fun r : Int32 × ax_S => (some (Value.int r.1), r.2)) r) (l1 : Int32) (l2 : Int32) (l3 : Int32) (s : ax_S) : ax_J (cx_C, X) P 41 [some (.ref (ax_ad (cx_C, X) 7)), some (.int l1), some (.int l2), some (.int l3), none] [] s (j_X2_readDate_41 l1 l2 l3 s) := by
  unfold j_X2_readDate_41
  refine ax_j (ax_aload_n hV dX2_readDate_41 rfl) ?_
  refine ax_j (ax_gfi hV lf_X2_28 dX2_readDate_42 rfl rfl) ?_
  refine ax_j (ax_istore hV [some (.ref (ax_ad (cx_C, X) 7)), some (.int l1), some (.int l2), some (.int l3), some (.int (s.1 7 5))] dX2_readDate_45 rfl rfl) ?_
  refine ax_j (ax_iload_n hV dX2_readDate_47 rfl) ?_
  refine ax_j (ax_iconst hV (-1 : Int32) dX2_readDate_48 (by decide)) ?_
  refine ax_jif (ax_icmp_ne hV dX2_readDate_49) ?_ ?_
  · refine ax_j (ax_aload_n hV dX2_readDate_52 rfl) ?_
    refine ax_jb (fun v ho => ax_cVi hV lk_X2_48 rfl dX2_readDate_53 rfl rfl [] [] (fun ad => [.ref (ad 7)]) rfl rfl rfl rfl v.1 v.2 (T_X2_readDot s v ho)) (fun q53 => ?_)
    refine ax_j (ax_istore_n hV [some (.ref (ax_ad (cx_C, X) 7)), some (.int l1), some (.int q53.1), some (.int l3), some (.int (s.1 7 5))] dX2_readDate_56 rfl rfl) ?_
    exact N_X2_readDate_57 X hV  P hP l1 q53.1 l3 (s.1 7 5) q53.2
  · exact N_X2_readDate_57 X hV  P hP l1 l2 l3 (s.1 7 5) s
theorem N_X2_readDate_28 (X : ax_G × ax_K × Option Value × ax_S) (hV : ax_ok (cx_C, X) mu_X2_readDate)  (P : (Int32 × ax_S) → Prop) (hP : ∀ r : Int32 × ax_S, P r → X.2.2 = (fun r : Int32 × ax_S => (some (Value.int r.1), r.2)) r) (l1 : Int32) (l2 : Int32) (l3 : Int32) (s : ax_S) : ax_J (cx_C, X) P 28 [some (.ref (ax_ad (cx_C, X) 7)), some (.int l1), some (.int l2), some (.int l3), none] [] s (j_X2_readDate_28 l1 l2 l3 s) := by
  unfold j_X2_readDate_28
  refine ax_j (ax_iload_n hV dX2_readDate_28 rfl) ?_
  refine ax_j (ax_iconst hV (-1 : Int32) dX2_readDate_29 (by decide)) ?_
  refine ax_jif (ax_icmp_ne hV dX2_readDate_30) ?_ ?_
  · refine ax_j (ax_aload_n hV dX2_readDate_33 rfl) ?_
    refine ax_j (ax_iconst hV (2 : Int32) dX2_readDate_34 (by decide)) ?_
    refine ax_j (ax_bipush hV (12 : Int32) dX2_readDate_35 (by decide)) ?_
    refine ax_jb (fun v ho => ax_cVi hV lk_X2_44 rfl dX2_readDate_37 rfl rfl [.int (2 : Int32), .int (12 : Int32)] [] (fun ad => [.ref (ad 7), .int (2 : Int32), .int (12 : Int32)]) rfl rfl rfl rfl v.1 v.2 (T_X2_readNumber (2 : Int32) (12 : Int32) s v ho)) (fun q37 => ?_)
    refine ax_j (ax_istore_n hV [some (.ref (ax_ad (cx_C, X) 7)), some (.int l1), some (.int q37.1), some (.int l3), none] dX2_readDate_40 rfl rfl) ?_
    exact N_X2_readDate_41 X hV  P hP l1 q37.1 l3 q37.2
  · exact N_X2_readDate_41 X hV  P hP l1 l2 l3 s
theorem T_X2_readDate  (s : ax_S) (r : Int32 × ax_S) (h : f_X2_readDate s = some r) : ax_M cx_C mu_X2_readDate (fun ad => [.ref (ad 7)]) s (some (.int r.1)) r.2 := by
  refine ax_enter (by decide +kernel) 4 (fun ad => [some (.ref (ad 7)), none, none, none, none]) (fun ad => rfl) (fun ad => Nat.le_of_ble_eq_true rfl) (fun X hV ho => ?_)
  refine ax_go (fun r : Int32 × ax_S => (some (Value.int r.1), r.2)) (fun P hP => ?_) h ho
  unfold f_X2_readDate
  refine ax_j (ax_aload_n hV dX2_readDate_0 rfl) ?_
  refine ax_j (ax_gfi hV lf_X2_25 dX2_readDate_1 rfl rfl) ?_
  refine ax_j (ax_istore_n hV [some (.ref (ax_ad (cx_C, X) 7)), some (.int (s.1 7 4)), none, none, none] dX2_readDate_4 rfl rfl) ?_
  refine ax_j (ax_aload_n hV dX2_readDate_5 rfl) ?_
  refine ax_j (ax_iconst hV (2 : Int32) dX2_readDate_6 (by decide)) ?_
  refine ax_j (ax_bipush hV (31 : Int32) dX2_readDate_7 (by decide)) ?_
  refine ax_jb (fun v ho => ax_cVi hV lk_X2_44 rfl dX2_readDate_9 rfl rfl [.int (2 : Int32), .int (31 : Int32)] [] (fun ad => [.ref (ad 7), .int (2 : Int32), .int (31 : Int32)]) rfl rfl rfl rfl v.1 v.2 (T_X2_readNumber (2 : Int32) (31 : Int32) s v ho)) (fun q9 => ?_)
  refine ax_j (ax_istore_n hV [some (.ref (ax_ad (cx_C, X) 7)), some (.int (s.1 7 4)), some (.int q9.1), none, none] dX2_readDate_12 rfl rfl) ?_
  refine ax_j (ax_aload_n hV dX2_readDate_13 rfl) ?_
  refine ax_j (ax_gfi hV lf_X2_28 dX2_readDate_14 rfl rfl) ?_
  refine ax_j (ax_istore_n hV [some (.ref (ax_ad (cx_C, X) 7)), some (.int (s.1 7 4)), some (.int q9.1), some (.int (q9.2.1 7 5)), none] dX2_readDate_17 rfl rfl) ?_
  refine ax_j (ax_iload_n hV dX2_readDate_18 rfl) ?_
  refine ax_j (ax_iconst hV (-1 : Int32) dX2_readDate_19 (by decide)) ?_
  refine ax_jif (ax_icmp_ne hV dX2_readDate_20) ?_ ?_
  · refine ax_j (ax_aload_n hV dX2_readDate_23 rfl) ?_
    refine ax_jb (fun v ho => ax_cVi hV lk_X2_48 rfl dX2_readDate_24 rfl rfl [] [] (fun ad => [.ref (ad 7)]) rfl rfl rfl rfl v.1 v.2 (T_X2_readDot q9.2 v ho)) (fun q24 => ?_)
    refine ax_j (ax_istore_n hV [some (.ref (ax_ad (cx_C, X) 7)), some (.int (s.1 7 4)), some (.int q24.1), some (.int (q9.2.1 7 5)), none] dX2_readDate_27 rfl rfl) ?_
    exact N_X2_readDate_28 X hV  P hP (s.1 7 4) q24.1 (q9.2.1 7 5) q24.2
  · exact N_X2_readDate_28 X hV  P hP (s.1 7 4) q9.1 (q9.2.1 7 5) q9.2
theorem lk_X2_34 : ax_lkV RX2 34 mu_X2_readDate RX2 0 := ax_lkV_of (ax_m4 51 rfl rfl) (ax_m4 53 rfl rfl) (ax_mp2 15 rfl rfl rfl) (ax_m1 8 rfl rfl) lc_X2_readDate rfl ⟨by decide +kernel, by decide +kernel, by decide +kernel⟩
def mu_X2_readSecond : ax_Mu := (yX2_readSecond, cX2_readSecond, 3, some .int, 4, 94)
theorem lc_X2_readSecond : Cond.code mu_X2_readSecond.1 mu_X2_readSecond.2.1 mu_X2_readSecond.2.2.1 mu_X2_readSecond.2.2.2.1 ∈ ax_tb := (ax_m4 80 rfl rfl)
noncomputable def f_X2_readSecond  (s : ax_S) : Option (Int32 × ax_S) := (f_X2_readDate s).bind (fun q6 => (if q6.1 = (-1 : Int32) then (if (q6.2.1 7 2) ≤ (q6.2.1 7 6) then (if ((ax_ui q6.2 7 3 (q6.2.1 7 6)).1 7 4) = ((ax_ui q6.2 7 3 (q6.2.1 7 6)).1 7 1) then some (((-1 : Int32), (ax_ui q6.2 7 3 (q6.2.1 7 6)))) else some ((((ax_ui q6.2 7 3 (q6.2.1 7 6)).1 7 4), (ax_ui q6.2 7 3 (q6.2.1 7 6))))) else some (((s.1 7 4), q6.2))) else some ((q6.1, q6.2))))
theorem T_X2_readSecond  (s : ax_S) (r : Int32 × ax_S) (h : f_X2_readSecond s = some r) : ax_M cx_C mu_X2_readSecond (fun ad => [.ref (ad 7)]) s (some (.int r.1)) r.2 := by
  refine ax_enter (by decide +kernel) 2 (fun ad => [some (.ref (ad 7)), none, none]) (fun ad => rfl) (fun ad => Nat.le_of_ble_eq_true rfl) (fun X hV ho => ?_)
  refine ax_go (fun r : Int32 × ax_S => (some (Value.int r.1), r.2)) (fun P hP => ?_) h ho
  unfold f_X2_readSecond
  refine ax_j (ax_aload_n hV dX2_readSecond_0 rfl) ?_
  refine ax_j (ax_gfi hV lf_X2_25 dX2_readSecond_1 rfl rfl) ?_
  refine ax_j (ax_istore_n hV [some (.ref (ax_ad (cx_C, X) 7)), some (.int (s.1 7 4)), none] dX2_readSecond_4 rfl rfl) ?_
  refine ax_j (ax_aload_n hV dX2_readSecond_5 rfl) ?_
  refine ax_jb (fun v ho => ax_cVi hV lk_X2_34 rfl dX2_readSecond_6 rfl rfl [] [] (fun ad => [.ref (ad 7)]) rfl rfl rfl rfl v.1 v.2 (T_X2_readDate s v ho)) (fun q6 => ?_)
  refine ax_j (ax_istore_n hV [some (.ref (ax_ad (cx_C, X) 7)), some (.int (s.1 7 4)), some (.int q6.1)] dX2_readSecond_9 rfl rfl) ?_
  refine ax_j (ax_iload_n hV dX2_readSecond_10 rfl) ?_
  refine ax_j (ax_iconst hV (-1 : Int32) dX2_readSecond_11 (by decide)) ?_
  refine ax_jif (ax_icmp_eq hV dX2_readSecond_12) ?_ ?_
  · refine ax_j (ax_aload_n hV dX2_readSecond_17 rfl) ?_
    refine ax_j (ax_gfi hV lf_X2_31 dX2_readSecond_18 rfl rfl) ?_
    refine ax_j (ax_aload_n hV dX2_readSecond_21 rfl) ?_
    refine ax_j (ax_gfi hV lf_X2_19 dX2_readSecond_22 rfl rfl) ?_
    refine ax_jif (ax_icmp_ge hV dX2_readSecond_25) ?_ ?_
    · refine ax_j (ax_aload_n hV dX2_readSecond_30 rfl) ?_
      refine ax_j (ax_aload_n hV dX2_readSecond_31 rfl) ?_
      refine ax_j (ax_gfi hV lf_X2_31 dX2_readSecond_32 rfl rfl) ?_
      refine ax_j (ax_pfi hV lp_X2_22 dX2_readSecond_35 rfl rfl) ?_
      refine ax_j (ax_aload_n hV dX2_readSecond_38 rfl) ?_
      refine ax_j (ax_gfi hV lf_X2_25 dX2_readSecond_39 rfl rfl) ?_
      refine ax_j (ax_aload_n hV dX2_readSecond_42 rfl) ?_
      refine ax_j (ax_gfi hV lf_X2_15 dX2_readSecond_43 rfl rfl) ?_
      refine ax_jif (ax_icmp_ne hV dX2_readSecond_46) ?_ ?_
      · refine ax_j (ax_iconst hV (-1 : Int32) dX2_readSecond_49 (by decide)) ?_
        refine ax_j (ax_goto hV dX2_readSecond_50) ?_
        exact ax_jl (fun h => ax_ir hV rfl dX2_readSecond_57 (hP ((-1 : Int32), (ax_ui q6.2 7 3 (q6.2.1 7 6))) h))
      · refine ax_j (ax_aload_n hV dX2_readSecond_53 rfl) ?_
        refine ax_j (ax_gfi hV lf_X2_25 dX2_readSecond_54 rfl rfl) ?_
        exact ax_jl (fun h => ax_ir hV rfl dX2_readSecond_57 (hP (((ax_ui q6.2 7 3 (q6.2.1 7 6)).1 7 4), (ax_ui q6.2 7 3 (q6.2.1 7 6))) h))
    · refine ax_j (ax_iload_n hV dX2_readSecond_28 rfl) ?_
      exact ax_jl (fun h => ax_ir hV rfl dX2_readSecond_29 (hP ((s.1 7 4), q6.2) h))
  · refine ax_j (ax_iload_n hV dX2_readSecond_15 rfl) ?_
    exact ax_jl (fun h => ax_ir hV rfl dX2_readSecond_16 (hP (q6.1, q6.2) h))
theorem lk_X2_41 : ax_lkV RX2 41 mu_X2_readSecond RX2 0 := ax_lkV_of (ax_m4 77 rfl rfl) (ax_m4 79 rfl rfl) (ax_mp3 4 rfl rfl rfl) (ax_m1 8 rfl rfl) lc_X2_readSecond rfl ⟨by decide +kernel, by decide +kernel, by decide +kernel⟩
def mu_X2_findFault : ax_Mu := (yX2_findFault, cX2_findFault, 2, some .int, 5, 116)
theorem lc_X2_findFault : Cond.code mu_X2_findFault.1 mu_X2_findFault.2.1 mu_X2_findFault.2.2.1 mu_X2_findFault.2.2.2.1 ∈ ax_tb := (ax_m4 50 rfl rfl)
noncomputable def f_X2_findFault  (s : ax_S) : Option (Int32 × ax_S) := (f_X2_readDate (ax_ui s 7 4 (0 : Int32))).bind (fun q6 => (if q6.1 = (-1 : Int32) then (if ((ax_ui (ax_ui q6.2 7 2 (q6.2.1 7 6)) 7 3 ((ax_ui q6.2 7 2 (q6.2.1 7 6)).1 7 6)).1 7 4) = ((ax_ui (ax_ui q6.2 7 2 (q6.2.1 7 6)) 7 3 ((ax_ui q6.2 7 2 (q6.2.1 7 6)).1 7 6)).1 7 1) then some (((-1 : Int32), (ax_ui (ax_ui q6.2 7 2 (q6.2.1 7 6)) 7 3 ((ax_ui q6.2 7 2 (q6.2.1 7 6)).1 7 6)))) else (f_X2_signHere (ax_ui (ax_ui q6.2 7 2 (q6.2.1 7 6)) 7 3 ((ax_ui q6.2 7 2 (q6.2.1 7 6)).1 7 6))).bind (fun q47 => (if q47 = (45 : Int32) then (f_X2_readSecond (ax_ui (ax_ui (ax_ui q6.2 7 2 (q6.2.1 7 6)) 7 3 ((ax_ui q6.2 7 2 (q6.2.1 7 6)).1 7 6)) 7 4 (((ax_ui (ax_ui q6.2 7 2 (q6.2.1 7 6)) 7 3 ((ax_ui q6.2 7 2 (q6.2.1 7 6)).1 7 6)).1 7 4) + (1 : Int32)))).bind (fun q71 => some ((q71.1, q71.2))) else some ((((ax_ui (ax_ui q6.2 7 2 (q6.2.1 7 6)) 7 3 ((ax_ui q6.2 7 2 (q6.2.1 7 6)).1 7 6)).1 7 4), (ax_ui (ax_ui q6.2 7 2 (q6.2.1 7 6)) 7 3 ((ax_ui q6.2 7 2 (q6.2.1 7 6)).1 7 6))))))) else some ((q6.1, q6.2))))
theorem T_X2_findFault  (s : ax_S) (r : Int32 × ax_S) (h : f_X2_findFault s = some r) : ax_M cx_C mu_X2_findFault (fun ad => [.ref (ad 7)]) s (some (.int r.1)) r.2 := by
  refine ax_enter (by decide +kernel) 1 (fun ad => [some (.ref (ad 7)), none]) (fun ad => rfl) (fun ad => Nat.le_of_ble_eq_true rfl) (fun X hV ho => ?_)
  refine ax_go (fun r : Int32 × ax_S => (some (Value.int r.1), r.2)) (fun P hP => ?_) h ho
  unfold f_X2_findFault
  refine ax_j (ax_aload_n hV dX2_findFault_0 rfl) ?_
  refine ax_j (ax_iconst hV (0 : Int32) dX2_findFault_1 (by decide)) ?_
  refine ax_j (ax_pfi hV lp_X2_25 dX2_findFault_2 rfl rfl) ?_
  refine ax_j (ax_aload_n hV dX2_findFault_5 rfl) ?_
  refine ax_jb (fun v ho => ax_cVi hV lk_X2_34 rfl dX2_findFault_6 rfl rfl [] [] (fun ad => [.ref (ad 7)]) rfl rfl rfl rfl v.1 v.2 (T_X2_readDate (ax_ui s 7 4 (0 : Int32)) v ho)) (fun q6 => ?_)
  refine ax_j (ax_istore_n hV [some (.ref (ax_ad (cx_C, X) 7)), some (.int q6.1)] dX2_findFault_9 rfl rfl) ?_
  refine ax_j (ax_iload_n hV dX2_findFault_10 rfl) ?_
  refine ax_j (ax_iconst hV (-1 : Int32) dX2_findFault_11 (by decide)) ?_
  refine ax_jif (ax_icmp_eq hV dX2_findFault_12) ?_ ?_
  · refine ax_j (ax_aload_n hV dX2_findFault_17 rfl) ?_
    refine ax_j (ax_aload_n hV dX2_findFault_18 rfl) ?_
    refine ax_j (ax_gfi hV lf_X2_31 dX2_findFault_19 rfl rfl) ?_
    refine ax_j (ax_pfi hV lp_X2_19 dX2_findFault_22 rfl rfl) ?_
    refine ax_j (ax_aload_n hV dX2_findFault_25 rfl) ?_
    refine ax_j (ax_aload_n hV dX2_findFault_26 rfl) ?_
    refine ax_j (ax_gfi hV lf_X2_31 dX2_findFault_27 rfl rfl) ?_
    refine ax_j (ax_pfi hV lp_X2_22 dX2_findFault_30 rfl rfl) ?_
    refine ax_j (ax_aload_n hV dX2_findFault_33 rfl) ?_
    refine ax_j (ax_gfi hV lf_X2_25 dX2_findFault_34 rfl rfl) ?_
    refine ax_j (ax_aload_n hV dX2_findFault_37 rfl) ?_
    refine ax_j (ax_gfi hV lf_X2_15 dX2_findFault_38 rfl rfl) ?_
    refine ax_jif (ax_icmp_ne hV dX2_findFault_41) ?_ ?_
    · refine ax_j (ax_iconst hV (-1 : Int32) dX2_findFault_44 (by decide)) ?_
      exact ax_jl (fun h => ax_ir hV rfl dX2_findFault_45 (hP ((-1 : Int32), (ax_ui (ax_ui q6.2 7 2 (q6.2.1 7 6)) 7 3 ((ax_ui q6.2 7 2 (q6.2.1 7 6)).1 7 6))) h))
    · refine ax_j (ax_aload_n hV dX2_findFault_46 rfl) ?_
      refine ax_jb (fun v ho => ax_cVi hV lk_X2_38 rfl dX2_findFault_47 rfl rfl [] [] (fun ad => [.ref (ad 7)]) rfl rfl rfl rfl v (ax_ui (ax_ui q6.2 7 2 (q6.2.1 7 6)) 7 3 ((ax_ui q6.2 7 2 (q6.2.1 7 6)).1 7 6)) (T_X2_signHere (ax_ui (ax_ui q6.2 7 2 (q6.2.1 7 6)) 7 3 ((ax_ui q6.2 7 2 (q6.2.1 7 6)).1 7 6)) v ho)) (fun q47 => ?_)
      refine ax_j (ax_bipush hV (45 : Int32) dX2_findFault_50 (by decide)) ?_
      refine ax_jif (ax_icmp_eq hV dX2_findFault_52) ?_ ?_
      · refine ax_j (ax_aload_n hV dX2_findFault_60 rfl) ?_
        refine ax_j (ax_dup hV dX2_findFault_61 rfl) ?_
        refine ax_j (ax_gfi hV lf_X2_25 dX2_findFault_62 rfl rfl) ?_
        refine ax_j (ax_iconst hV (1 : Int32) dX2_findFault_65 (by decide)) ?_
        refine ax_j (ax_iadd hV dX2_findFault_66) ?_
        refine ax_j (ax_pfi hV lp_X2_25 dX2_findFault_67 rfl rfl) ?_
        refine ax_j (ax_aload_n hV dX2_findFault_70 rfl) ?_
        refine ax_jb (fun v ho => ax_cVi hV lk_X2_41 rfl dX2_findFault_71 rfl rfl [] [] (fun ad => [.ref (ad 7)]) rfl rfl rfl rfl v.1 v.2 (T_X2_readSecond (ax_ui (ax_ui (ax_ui q6.2 7 2 (q6.2.1 7 6)) 7 3 ((ax_ui q6.2 7 2 (q6.2.1 7 6)).1 7 6)) 7 4 (((ax_ui (ax_ui q6.2 7 2 (q6.2.1 7 6)) 7 3 ((ax_ui q6.2 7 2 (q6.2.1 7 6)).1 7 6)).1 7 4) + (1 : Int32))) v ho)) (fun q71 => ?_)
        exact ax_jl (fun h => ax_ir hV rfl dX2_findFault_74 (hP (q71.1, q71.2) h))
      · refine ax_j (ax_aload_n hV dX2_findFault_55 rfl) ?_
        refine ax_j (ax_gfi hV lf_X2_25 dX2_findFault_56 rfl rfl) ?_
        exact ax_jl (fun h => ax_ir hV rfl dX2_findFault_59 (hP (((ax_ui (ax_ui q6.2 7 2 (q6.2.1 7 6)) 7 3 ((ax_ui q6.2 7 2 (q6.2.1 7 6)).1 7 6)).1 7 4), (ax_ui (ax_ui q6.2 7 2 (q6.2.1 7 6)) 7 3 ((ax_ui q6.2 7 2 (q6.2.1 7 6)).1 7 6))) h))
  · refine ax_j (ax_iload_n hV dX2_findFault_15 rfl) ?_
    exact ax_jl (fun h => ax_ir hV rfl dX2_findFault_16 (hP (q6.1, q6.2) h))
theorem lk_X9_292 : ax_lkV RX9 292 mu_X2_findFault RX2 0 := ax_lkV_of (ax_m4 47 rfl rfl) (ax_m4 48 rfl rfl) (ax_m4 49 rfl rfl) (ax_m1 8 rfl rfl) lc_X2_findFault rfl ⟨by decide +kernel, by decide +kernel, by decide +kernel⟩
def mu_J7_fill_53178 : ax_Mu := (yJ7_fill_53178, cJ7_fill_53178, 4, none, 0, 0)
theorem lc_J7_fill_53178 : Cond.code mu_J7_fill_53178.1 mu_J7_fill_53178.2.1 mu_J7_fill_53178.2.2.1 mu_J7_fill_53178.2.2.2.1 ∈ ax_tb := (ax_m2 191 rfl rfl)
noncomputable def b_J7_fill_53178_5 (p1 : Nat) (l1 : Int32) (l3 : Int32) (a : Int32 × ax_S) : Option ((Int32 × ax_S) ⊕ (ax_S)) := (if l3 ≤ a.1 then some (.inr a.2) else (ax_si cx_C a.2 p1 a.1 l1).bind (fun s13 => some (.inl ((a.1 + 1), s13))))
noncomputable def f_J7_fill_53178 (p1 : Nat) (p2 : Int32) (s : ax_S) : Option (ax_S) := (ax_ln cx_C p1).bind (fun v3 => (ax_lp (b_J7_fill_53178_5 p1 p2 v3) ((0 : Int32), s)).bind (fun e5 => some (e5)))
theorem B_J7_fill_53178_5 (X : ax_G × ax_K × Option Value × ax_S) (hV : ax_ok (cx_C, X) mu_J7_fill_53178) (p1 : Nat) (l1 : Int32) (l3 : Int32) (P : ((Int32 × ax_S) ⊕ (ax_S)) → Prop) (hI : ∀ a : Int32 × ax_S, P (.inl a) → ax_At (cx_C, X) 5 [some (.ref (ax_ad (cx_C, X) p1)), some (.int l1), some (.int a.1), some (.int l3)] [] a.2) (hO : ∀ e : ax_S, P (.inr e) → ax_At (cx_C, X) 20 [none, none, none, none] [] e) (a : Int32 × ax_S) : ax_J (cx_C, X) P 5 [some (.ref (ax_ad (cx_C, X) p1)), some (.int l1), some (.int a.1), some (.int l3)] [] a.2 (b_J7_fill_53178_5 p1 l1 l3 a) := by
  unfold b_J7_fill_53178_5
  refine ax_j (ax_iload_n hV dJ7_fill_53178_5 rfl) ?_
  refine ax_j (ax_iload_n hV dJ7_fill_53178_6 rfl) ?_
  refine ax_jif (ax_icmp_ge hV dJ7_fill_53178_7) ?_ ?_
  · refine ax_jf (lv' := [none, none, none, none]) [false, false, false, false] rfl ?_
    exact ax_jl (fun h => hO a.2 h)
  · refine ax_j (ax_aload_n hV dJ7_fill_53178_10 rfl) ?_
    refine ax_j (ax_iload_n hV dJ7_fill_53178_11 rfl) ?_
    refine ax_j (ax_iload_n hV dJ7_fill_53178_12 rfl) ?_
    refine ax_jb (ax_iast hV dJ7_fill_53178_13) (fun s13 => ?_)
    refine ax_j (ax_iinc hV (a.1 + 1) [some (.ref (ax_ad (cx_C, X) p1)), some (.int l1), some (.int (a.1 + 1)), some (.int l3)] dJ7_fill_53178_14 rfl rfl rfl rfl) ?_
    refine ax_j (ax_goto hV dJ7_fill_53178_17) ?_
    exact ax_jl (fun h => hI ((a.1 + 1), s13) h)
theorem T_J7_fill_53178 (p1 : Nat) (p2 : Int32) (s : ax_S) (r : ax_S) (h : f_J7_fill_53178 p1 p2 s = some r) : ax_M cx_C mu_J7_fill_53178 (fun ad => [.ref (ad p1), .int p2]) s none r := by
  refine ax_enter (by decide +kernel) 2 (fun ad => [some (.ref (ad p1)), some (.int p2), none, none]) (fun ad => rfl) (fun ad => Nat.le_of_ble_eq_true rfl) (fun X hV ho => ?_)
  refine ax_go (fun r : ax_S => ((none : Option Value), r)) (fun P hP => ?_) h ho
  unfold f_J7_fill_53178
  refine ax_j (ax_iconst hV (0 : Int32) dJ7_fill_53178_0 (by decide)) ?_
  refine ax_j (ax_istore_n hV [some (.ref (ax_ad (cx_C, X) p1)), some (.int p2), some (.int (0 : Int32)), none] dJ7_fill_53178_1 rfl rfl) ?_
  refine ax_j (ax_aload_n hV dJ7_fill_53178_2 rfl) ?_
  refine ax_jb (ax_alen hV dJ7_fill_53178_3) (fun v3 => ?_)
  refine ax_j (ax_istore_n hV [some (.ref (ax_ad (cx_C, X) p1)), some (.int p2), some (.int (0 : Int32)), some (.int v3)] dJ7_fill_53178_4 rfl rfl) ?_
  refine ax_jlp ((0 : Int32), s) (fun x5 : Int32 × ax_S => [some (.ref (ax_ad (cx_C, X) p1)), some (.int p2), some (.int x5.1), some (.int v3)]) (fun x5 : Int32 × ax_S => x5.2) (fun y5 : ax_S => [none, none, none, none]) (fun y5 : ax_S => y5) (fun P' h1 h2 w => B_J7_fill_53178_5 X hV p1 p2 v3 P' h1 h2 w) (fun e5 => ?_)
  exact ax_jl (fun h => ax_vr hV rfl dJ7_fill_53178_20 (hP e5 h))
theorem lk_X3_29 : ax_lkS RX3 29 mu_J7_fill_53178 2 := ax_lkS_of (ax_m3 123 rfl rfl) (ax_m2 190 rfl rfl) (ax_m1 11 rfl rfl) lc_J7_fill_53178 ⟨by decide +kernel, by decide +kernel, by decide +kernel⟩
theorem lk_X5_28 : ax_lkS RX5 28 mu_J7_fill_53178 2 := ax_lkS_of (ax_m3 182 rfl rfl) (ax_m2 190 rfl rfl) (ax_m1 11 rfl rfl) lc_J7_fill_53178 ⟨by decide +kernel, by decide +kernel, by decide +kernel⟩
theorem lk_X6_94 : ax_lkS RX6 94 mu_J7_fill_53178 2 := ax_lkS_of (ax_m2 189 rfl rfl) (ax_m2 190 rfl rfl) (ax_m1 11 rfl rfl) lc_J7_fill_53178 ⟨by decide +kernel, by decide +kernel, by decide +kernel⟩
def mu_X3_clear : ax_Mu := (yX3_clear, cX3_clear, 1, none, 1, 23)
theorem lc_X3_clear : Cond.code mu_X3_clear.1 mu_X3_clear.2.1 mu_X3_clear.2.2.1 mu_X3_clear.2.2.2.1 ∈ ax_tb := (ax_m3 122 rfl rfl)
noncomputable def f_X3_clear  (s : ax_S) : Option (ax_S) := (f_J7_fill_53178 30 (0 : Int32) s).bind (fun q5 => some ((ax_ui (ax_ui (ax_ul q5 4 3 (0 : Int64)) 4 4 (0 : Int32)) 4 1 (0 : Int32))))
theorem T_X3_clear  (s : ax_S) (r : ax_S) (h : f_X3_clear s = some r) : ax_M cx_C mu_X3_clear (fun ad => [.ref (ad 4)]) s none r := by
  refine ax_enter (by decide +kernel) 0 (fun ad => [some (.ref (ad 4))]) (fun ad => rfl) (fun ad => Nat.le_of_ble_eq_true rfl) (fun X hV ho => ?_)
  refine ax_go (fun r : ax_S => ((none : Option Value), r)) (fun P hP => ?_) h ho
  unfold f_X3_clear
  refine ax_j (ax_aload_n hV dX3_clear_0 rfl) ?_
  refine ax_j (ax_gfr hV lf_X3_19 dX3_clear_1 rfl rfl) ?_
  refine ax_j (ax_iconst hV (0 : Int32) dX3_clear_4 (by decide)) ?_
  refine ax_jb (fun v ho => ax_cSv hV lk_X3_29 rfl dX3_clear_5 [.ref (ax_ad (cx_C, X) 30), .int (0 : Int32)] [] (fun ad => [.ref (ad 30), .int (0 : Int32)]) rfl rfl rfl rfl v (T_J7_fill_53178 30 (0 : Int32) s v ho)) (fun q5 => ?_)
  refine ax_j (ax_aload_n hV dX3_clear_8 rfl) ?_
  refine ax_j (ax_lconst hV (0 : Int64) dX3_clear_9 (by decide)) ?_
  refine ax_j (ax_pfl hV lp_X3_22 dX3_clear_10 rfl rfl) ?_
  refine ax_j (ax_aload_n hV dX3_clear_13 rfl) ?_
  refine ax_j (ax_iconst hV (0 : Int32) dX3_clear_14 (by decide)) ?_
  refine ax_j (ax_pfi hV lp_X3_26 dX3_clear_15 rfl rfl) ?_
  refine ax_j (ax_aload_n hV dX3_clear_18 rfl) ?_
  refine ax_j (ax_iconst hV (0 : Int32) dX3_clear_19 (by decide)) ?_
  refine ax_j (ax_pfi hV lp_X3_15 dX3_clear_20 rfl rfl) ?_
  exact ax_jl (fun h => ax_vr hV rfl dX3_clear_23 (hP (ax_ui (ax_ui (ax_ul q5 4 3 (0 : Int64)) 4 4 (0 : Int32)) 4 1 (0 : Int32)) h))
theorem lk_X9_390 : ax_lkV RX9 390 mu_X3_clear RX3 0 := ax_lkV_of (ax_m3 119 rfl rfl) (ax_m3 120 rfl rfl) (ax_m3 121 rfl rfl) (ax_m1 5 rfl rfl) lc_X3_clear rfl ⟨by decide +kernel, by decide +kernel, by decide +kernel⟩
def mu_J6_bitCount_0f7a4 : ax_Mu := (yJ6_bitCount_0f7a4, cJ6_bitCount_0f7a4, 1, some .int, 0, 0)
theorem lc_J6_bitCount_0f7a4 : Cond.code mu_J6_bitCount_0f7a4.1 mu_J6_bitCount_0f7a4.2.1 mu_J6_bitCount_0f7a4.2.2.1 mu_J6_bitCount_0f7a4.2.2.2.1 ∈ ax_tb := (ax_m3 140 rfl rfl)
noncomputable def f_J6_bitCount_0f7a4 (p1 : Int32) : Option (Int32) := some (((((((((p1 - ((ax_iushr p1 (1 : Int32)) &&& (1431655765 : Int32))) &&& (858993459 : Int32)) + ((ax_iushr (p1 - ((ax_iushr p1 (1 : Int32)) &&& (1431655765 : Int32))) (2 : Int32)) &&& (858993459 : Int32))) + (ax_iushr (((p1 - ((ax_iushr p1 (1 : Int32)) &&& (1431655765 : Int32))) &&& (858993459 : Int32)) + ((ax_iushr (p1 - ((ax_iushr p1 (1 : Int32)) &&& (1431655765 : Int32))) (2 : Int32)) &&& (858993459 : Int32))) (4 : Int32))) &&& (252645135 : Int32)) + (ax_iushr (((((p1 - ((ax_iushr p1 (1 : Int32)) &&& (1431655765 : Int32))) &&& (858993459 : Int32)) + ((ax_iushr (p1 - ((ax_iushr p1 (1 : Int32)) &&& (1431655765 : Int32))) (2 : Int32)) &&& (858993459 : Int32))) + (ax_iushr (((p1 - ((ax_iushr p1 (1 : Int32)) &&& (1431655765 : Int32))) &&& (858993459 : Int32)) + ((ax_iushr (p1 - ((ax_iushr p1 (1 : Int32)) &&& (1431655765 : Int32))) (2 : Int32)) &&& (858993459 : Int32))) (4 : Int32))) &&& (252645135 : Int32)) (8 : Int32))) + (ax_iushr ((((((p1 - ((ax_iushr p1 (1 : Int32)) &&& (1431655765 : Int32))) &&& (858993459 : Int32)) + ((ax_iushr (p1 - ((ax_iushr p1 (1 : Int32)) &&& (1431655765 : Int32))) (2 : Int32)) &&& (858993459 : Int32))) + (ax_iushr (((p1 - ((ax_iushr p1 (1 : Int32)) &&& (1431655765 : Int32))) &&& (858993459 : Int32)) + ((ax_iushr (p1 - ((ax_iushr p1 (1 : Int32)) &&& (1431655765 : Int32))) (2 : Int32)) &&& (858993459 : Int32))) (4 : Int32))) &&& (252645135 : Int32)) + (ax_iushr (((((p1 - ((ax_iushr p1 (1 : Int32)) &&& (1431655765 : Int32))) &&& (858993459 : Int32)) + ((ax_iushr (p1 - ((ax_iushr p1 (1 : Int32)) &&& (1431655765 : Int32))) (2 : Int32)) &&& (858993459 : Int32))) + (ax_iushr (((p1 - ((ax_iushr p1 (1 : Int32)) &&& (1431655765 : Int32))) &&& (858993459 : Int32)) + ((ax_iushr (p1 - ((ax_iushr p1 (1 : Int32)) &&& (1431655765 : Int32))) (2 : Int32)) &&& (858993459 : Int32))) (4 : Int32))) &&& (252645135 : Int32)) (8 : Int32))) (16 : Int32))) &&& (63 : Int32)))
theorem T_J6_bitCount_0f7a4 (p1 : Int32) (s : ax_S) (r : Int32) (h : f_J6_bitCount_0f7a4 p1 = some r) : ax_M cx_C mu_J6_bitCount_0f7a4 (fun ad => [.int p1]) s (some (.int r)) s := by
  refine ax_enter (by decide +kernel) 0 (fun ad => [some (.int p1)]) (fun ad => rfl) (fun ad => Nat.le_of_ble_eq_true rfl) (fun X hV ho => ?_)
  refine ax_go (fun r : Int32 => (some (Value.int r), s)) (fun P hP => ?_) h ho
  unfold f_J6_bitCount_0f7a4
  refine ax_j (ax_iload_n hV dJ6_bitCount_0f7a4_0 rfl) ?_
  refine ax_j (ax_iload_n hV dJ6_bitCount_0f7a4_1 rfl) ?_
  refine ax_j (ax_iconst hV (1 : Int32) dJ6_bitCount_0f7a4_2 (by decide)) ?_
  refine ax_j (ax_iushr_ hV dJ6_bitCount_0f7a4_3) ?_
  refine ax_j (ax_ldcw hV kc_J6_265 dJ6_bitCount_0f7a4_4) ?_
  refine ax_j (ax_iand hV dJ6_bitCount_0f7a4_7) ?_
  refine ax_j (ax_isub hV dJ6_bitCount_0f7a4_8) ?_
  refine ax_j (ax_istore_n hV [some (.int (p1 - ((ax_iushr p1 (1 : Int32)) &&& (1431655765 : Int32))))] dJ6_bitCount_0f7a4_9 rfl rfl) ?_
  refine ax_j (ax_iload_n hV dJ6_bitCount_0f7a4_10 rfl) ?_
  refine ax_j (ax_ldcw hV kc_J6_266 dJ6_bitCount_0f7a4_11) ?_
  refine ax_j (ax_iand hV dJ6_bitCount_0f7a4_14) ?_
  refine ax_j (ax_iload_n hV dJ6_bitCount_0f7a4_15 rfl) ?_
  refine ax_j (ax_iconst hV (2 : Int32) dJ6_bitCount_0f7a4_16 (by decide)) ?_
  refine ax_j (ax_iushr_ hV dJ6_bitCount_0f7a4_17) ?_
  refine ax_j (ax_ldcw hV kc_J6_266 dJ6_bitCount_0f7a4_18) ?_
  refine ax_j (ax_iand hV dJ6_bitCount_0f7a4_21) ?_
  refine ax_j (ax_iadd hV dJ6_bitCount_0f7a4_22) ?_
  refine ax_j (ax_istore_n hV [some (.int (((p1 - ((ax_iushr p1 (1 : Int32)) &&& (1431655765 : Int32))) &&& (858993459 : Int32)) + ((ax_iushr (p1 - ((ax_iushr p1 (1 : Int32)) &&& (1431655765 : Int32))) (2 : Int32)) &&& (858993459 : Int32))))] dJ6_bitCount_0f7a4_23 rfl rfl) ?_
  refine ax_j (ax_iload_n hV dJ6_bitCount_0f7a4_24 rfl) ?_
  refine ax_j (ax_iload_n hV dJ6_bitCount_0f7a4_25 rfl) ?_
  refine ax_j (ax_iconst hV (4 : Int32) dJ6_bitCount_0f7a4_26 (by decide)) ?_
  refine ax_j (ax_iushr_ hV dJ6_bitCount_0f7a4_27) ?_
  refine ax_j (ax_iadd hV dJ6_bitCount_0f7a4_28) ?_
  refine ax_j (ax_ldcw hV kc_J6_267 dJ6_bitCount_0f7a4_29) ?_
  refine ax_j (ax_iand hV dJ6_bitCount_0f7a4_32) ?_
  refine ax_j (ax_istore_n hV [some (.int (((((p1 - ((ax_iushr p1 (1 : Int32)) &&& (1431655765 : Int32))) &&& (858993459 : Int32)) + ((ax_iushr (p1 - ((ax_iushr p1 (1 : Int32)) &&& (1431655765 : Int32))) (2 : Int32)) &&& (858993459 : Int32))) + (ax_iushr (((p1 - ((ax_iushr p1 (1 : Int32)) &&& (1431655765 : Int32))) &&& (858993459 : Int32)) + ((ax_iushr (p1 - ((ax_iushr p1 (1 : Int32)) &&& (1431655765 : Int32))) (2 : Int32)) &&& (858993459 : Int32))) (4 : Int32))) &&& (252645135 : Int32)))] dJ6_bitCount_0f7a4_33 rfl rfl) ?_
  refine ax_j (ax_iload_n hV dJ6_bitCount_0f7a4_34 rfl) ?_
  refine ax_j (ax_iload_n hV dJ6_bitCount_0f7a4_35 rfl) ?_
  refine ax_j (ax_bipush hV (8 : Int32) dJ6_bitCount_0f7a4_36 (by decide)) ?_
  refine ax_j (ax_iushr_ hV dJ6_bitCount_0f7a4_38) ?_
  refine ax_j (ax_iadd hV dJ6_bitCount_0f7a4_39) ?_
  refine ax_j (ax_istore_n hV [some (.int ((((((p1 - ((ax_iushr p1 (1 : Int32)) &&& (1431655765 : Int32))) &&& (858993459 : Int32)) + ((ax_iushr (p1 - ((ax_iushr p1 (1 : Int32)) &&& (1431655765 : Int32))) (2 : Int32)) &&& (858993459 : Int32))) + (ax_iushr (((p1 - ((ax_iushr p1 (1 : Int32)) &&& (1431655765 : Int32))) &&& (858993459 : Int32)) + ((ax_iushr (p1 - ((ax_iushr p1 (1 : Int32)) &&& (1431655765 : Int32))) (2 : Int32)) &&& (858993459 : Int32))) (4 : Int32))) &&& (252645135 : Int32)) + (ax_iushr (((((p1 - ((ax_iushr p1 (1 : Int32)) &&& (1431655765 : Int32))) &&& (858993459 : Int32)) + ((ax_iushr (p1 - ((ax_iushr p1 (1 : Int32)) &&& (1431655765 : Int32))) (2 : Int32)) &&& (858993459 : Int32))) + (ax_iushr (((p1 - ((ax_iushr p1 (1 : Int32)) &&& (1431655765 : Int32))) &&& (858993459 : Int32)) + ((ax_iushr (p1 - ((ax_iushr p1 (1 : Int32)) &&& (1431655765 : Int32))) (2 : Int32)) &&& (858993459 : Int32))) (4 : Int32))) &&& (252645135 : Int32)) (8 : Int32))))] dJ6_bitCount_0f7a4_40 rfl rfl) ?_
  refine ax_j (ax_iload_n hV dJ6_bitCount_0f7a4_41 rfl) ?_
  refine ax_j (ax_iload_n hV dJ6_bitCount_0f7a4_42 rfl) ?_
  refine ax_j (ax_bipush hV (16 : Int32) dJ6_bitCount_0f7a4_43 (by decide)) ?_
  refine ax_j (ax_iushr_ hV dJ6_bitCount_0f7a4_45) ?_
  refine ax_j (ax_iadd hV dJ6_bitCount_0f7a4_46) ?_
  refine ax_j (ax_istore_n hV [some (.int (((((((p1 - ((ax_iushr p1 (1 : Int32)) &&& (1431655765 : Int32))) &&& (858993459 : Int32)) + ((ax_iushr (p1 - ((ax_iushr p1 (1 : Int32)) &&& (1431655765 : Int32))) (2 : Int32)) &&& (858993459 : Int32))) + (ax_iushr (((p1 - ((ax_iushr p1 (1 : Int32)) &&& (1431655765 : Int32))) &&& (858993459 : Int32)) + ((ax_iushr (p1 - ((ax_iushr p1 (1 : Int32)) &&& (1431655765 : Int32))) (2 : Int32)) &&& (858993459 : Int32))) (4 : Int32))) &&& (252645135 : Int32)) + (ax_iushr (((((p1 - ((ax_iushr p1 (1 : Int32)) &&& (1431655765 : Int32))) &&& (858993459 : Int32)) + ((ax_iushr (p1 - ((ax_iushr p1 (1 : Int32)) &&& (1431655765 : Int32))) (2 : Int32)) &&& (858993459 : Int32))) + (ax_iushr (((p1 - ((ax_iushr p1 (1 : Int32)) &&& (1431655765 : Int32))) &&& (858993459 : Int32)) + ((ax_iushr (p1 - ((ax_iushr p1 (1 : Int32)) &&& (1431655765 : Int32))) (2 : Int32)) &&& (858993459 : Int32))) (4 : Int32))) &&& (252645135 : Int32)) (8 : Int32))) + (ax_iushr ((((((p1 - ((ax_iushr p1 (1 : Int32)) &&& (1431655765 : Int32))) &&& (858993459 : Int32)) + ((ax_iushr (p1 - ((ax_iushr p1 (1 : Int32)) &&& (1431655765 : Int32))) (2 : Int32)) &&& (858993459 : Int32))) + (ax_iushr (((p1 - ((ax_iushr p1 (1 : Int32)) &&& (1431655765 : Int32))) &&& (858993459 : Int32)) + ((ax_iushr (p1 - ((ax_iushr p1 (1 : Int32)) &&& (1431655765 : Int32))) (2 : Int32)) &&& (858993459 : Int32))) (4 : Int32))) &&& (252645135 : Int32)) + (ax_iushr (((((p1 - ((ax_iushr p1 (1 : Int32)) &&& (1431655765 : Int32))) &&& (858993459 : Int32)) + ((ax_iushr (p1 - ((ax_iushr p1 (1 : Int32)) &&& (1431655765 : Int32))) (2 : Int32)) &&& (858993459 : Int32))) + (ax_iushr (((p1 - ((ax_iushr p1 (1 : Int32)) &&& (1431655765 : Int32))) &&& (858993459 : Int32)) + ((ax_iushr (p1 - ((ax_iushr p1 (1 : Int32)) &&& (1431655765 : Int32))) (2 : Int32)) &&& (858993459 : Int32))) (4 : Int32))) &&& (252645135 : Int32)) (8 : Int32))) (16 : Int32))))] dJ6_bitCount_0f7a4_47 rfl rfl) ?_
  refine ax_j (ax_iload_n hV dJ6_bitCount_0f7a4_48 rfl) ?_
  refine ax_j (ax_bipush hV (63 : Int32) dJ6_bitCount_0f7a4_49 (by decide)) ?_
  refine ax_j (ax_iand hV dJ6_bitCount_0f7a4_51) ?_
  exact ax_jl (fun h => ax_ir hV rfl dJ6_bitCount_0f7a4_52 (hP ((((((((p1 - ((ax_iushr p1 (1 : Int32)) &&& (1431655765 : Int32))) &&& (858993459 : Int32)) + ((ax_iushr (p1 - ((ax_iushr p1 (1 : Int32)) &&& (1431655765 : Int32))) (2 : Int32)) &&& (858993459 : Int32))) + (ax_iushr (((p1 - ((ax_iushr p1 (1 : Int32)) &&& (1431655765 : Int32))) &&& (858993459 : Int32)) + ((ax_iushr (p1 - ((ax_iushr p1 (1 : Int32)) &&& (1431655765 : Int32))) (2 : Int32)) &&& (858993459 : Int32))) (4 : Int32))) &&& (252645135 : Int32)) + (ax_iushr (((((p1 - ((ax_iushr p1 (1 : Int32)) &&& (1431655765 : Int32))) &&& (858993459 : Int32)) + ((ax_iushr (p1 - ((ax_iushr p1 (1 : Int32)) &&& (1431655765 : Int32))) (2 : Int32)) &&& (858993459 : Int32))) + (ax_iushr (((p1 - ((ax_iushr p1 (1 : Int32)) &&& (1431655765 : Int32))) &&& (858993459 : Int32)) + ((ax_iushr (p1 - ((ax_iushr p1 (1 : Int32)) &&& (1431655765 : Int32))) (2 : Int32)) &&& (858993459 : Int32))) (4 : Int32))) &&& (252645135 : Int32)) (8 : Int32))) + (ax_iushr ((((((p1 - ((ax_iushr p1 (1 : Int32)) &&& (1431655765 : Int32))) &&& (858993459 : Int32)) + ((ax_iushr (p1 - ((ax_iushr p1 (1 : Int32)) &&& (1431655765 : Int32))) (2 : Int32)) &&& (858993459 : Int32))) + (ax_iushr (((p1 - ((ax_iushr p1 (1 : Int32)) &&& (1431655765 : Int32))) &&& (858993459 : Int32)) + ((ax_iushr (p1 - ((ax_iushr p1 (1 : Int32)) &&& (1431655765 : Int32))) (2 : Int32)) &&& (858993459 : Int32))) (4 : Int32))) &&& (252645135 : Int32)) + (ax_iushr (((((p1 - ((ax_iushr p1 (1 : Int32)) &&& (1431655765 : Int32))) &&& (858993459 : Int32)) + ((ax_iushr (p1 - ((ax_iushr p1 (1 : Int32)) &&& (1431655765 : Int32))) (2 : Int32)) &&& (858993459 : Int32))) + (ax_iushr (((p1 - ((ax_iushr p1 (1 : Int32)) &&& (1431655765 : Int32))) &&& (858993459 : Int32)) + ((ax_iushr (p1 - ((ax_iushr p1 (1 : Int32)) &&& (1431655765 : Int32))) (2 : Int32)) &&& (858993459 : Int32))) (4 : Int32))) &&& (252645135 : Int32)) (8 : Int32))) (16 : Int32))) &&& (63 : Int32)) h))
theorem lk_X3_39 : ax_lkS RX3 39 mu_J6_bitCount_0f7a4 1 := ax_lkS_of (ax_m3 138 rfl rfl) (ax_m3 139 rfl rfl) (ax_m1 15 rfl rfl) lc_J6_bitCount_0f7a4 ⟨by decide +kernel, by decide +kernel, by decide +kernel⟩
def mu_X3_rowsOf : ax_Mu := (yX3_rowsOf, cX3_rowsOf, 5, some .long, 0, 0)
theorem lc_X3_rowsOf : Cond.code mu_X3_rowsOf.1 mu_X3_rowsOf.2.1 mu_X3_rowsOf.2.2.1 mu_X3_rowsOf.2.2.2.1 ∈ ax_tb := (ax_m3 147 rfl rfl)
noncomputable def b_X3_rowsOf_5 (l1 : Int32) (s : ax_S) (a : Int64 × Int32) : Option ((Int64 × Int32) ⊕ (Int64)) := (if (s.1 4 1) ≤ a.2 then some (.inr a.1) else (if ((ax_iushr l1 a.2) &&& (1 : Int32)) = 0 then some (.inl (a.1, (a.2 + 1))) else (ax_ai cx_C s 29 a.2).bind (fun v31 => some (.inl ((a.1 ||| (ax_lshl (1 : Int64) v31)), (a.2 + 1))))))
noncomputable def f_X3_rowsOf (p1 : Int32) (s : ax_S) : Option (Int64) := (ax_lp (b_X3_rowsOf_5 p1 s) ((0 : Int64), (0 : Int32))).bind (fun e5 => some (e5))
theorem B_X3_rowsOf_5 (X : ax_G × ax_K × Option Value × ax_S) (hV : ax_ok (cx_C, X) mu_X3_rowsOf) (l1 : Int32) (s : ax_S) (P : ((Int64 × Int32) ⊕ (Int64)) → Prop) (hI : ∀ a : Int64 × Int32, P (.inl a) → ax_At (cx_C, X) 5 [some (.ref (ax_ad (cx_C, X) 4)), some (.int l1), some (.long a.1), none, some (.int a.2)] [] s) (hO : ∀ e : Int64, P (.inr e) → ax_At (cx_C, X) 41 [none, none, some (.long e), none, none] [] s) (a : Int64 × Int32) : ax_J (cx_C, X) P 5 [some (.ref (ax_ad (cx_C, X) 4)), some (.int l1), some (.long a.1), none, some (.int a.2)] [] s (b_X3_rowsOf_5 l1 s a) := by
  unfold b_X3_rowsOf_5
  refine ax_j (ax_iload hV dX3_rowsOf_5 rfl) ?_
  refine ax_j (ax_aload_n hV dX3_rowsOf_7 rfl) ?_
  refine ax_j (ax_gfi hV lf_X3_15 dX3_rowsOf_8 rfl rfl) ?_
  refine ax_jif (ax_icmp_ge hV dX3_rowsOf_11) ?_ ?_
  · refine ax_jf (lv' := [none, none, some (.long a.1), none, none]) [false, false, true, false, false] rfl ?_
    exact ax_jl (fun h => hO a.1 h)
  · refine ax_j (ax_iload_n hV dX3_rowsOf_14 rfl) ?_
    refine ax_j (ax_iload hV dX3_rowsOf_15 rfl) ?_
    refine ax_j (ax_iushr_ hV dX3_rowsOf_17) ?_
    refine ax_j (ax_iconst hV (1 : Int32) dX3_rowsOf_18 (by decide)) ?_
    refine ax_j (ax_iand hV dX3_rowsOf_19) ?_
    refine ax_jif (ax_if_eq hV dX3_rowsOf_20) ?_ ?_
    · refine ax_j (ax_iinc hV (a.2 + 1) [some (.ref (ax_ad (cx_C, X) 4)), some (.int l1), some (.long a.1), none, some (.int (a.2 + 1))] dX3_rowsOf_35 rfl rfl rfl rfl) ?_
      refine ax_j (ax_goto hV dX3_rowsOf_38) ?_
      exact ax_jl (fun h => hI (a.1, (a.2 + 1)) h)
    · refine ax_j (ax_lload_n hV dX3_rowsOf_23 rfl) ?_
      refine ax_j (ax_lconst hV (1 : Int64) dX3_rowsOf_24 (by decide)) ?_
      refine ax_j (ax_aload_n hV dX3_rowsOf_25 rfl) ?_
      refine ax_j (ax_gfr hV lf_X3_9 dX3_rowsOf_26 rfl rfl) ?_
      refine ax_j (ax_iload hV dX3_rowsOf_29 rfl) ?_
      refine ax_jb (ax_iald hV dX3_rowsOf_31) (fun v31 => ?_)
      refine ax_j (ax_lshl_ hV dX3_rowsOf_32) ?_
      refine ax_j (ax_lor hV dX3_rowsOf_33) ?_
      refine ax_j (ax_lstore_n hV [some (.ref (ax_ad (cx_C, X) 4)), some (.int l1), some (.long (a.1 ||| (ax_lshl (1 : Int64) v31))), none, some (.int a.2)] dX3_rowsOf_34 rfl rfl) ?_
      refine ax_j (ax_iinc hV (a.2 + 1) [some (.ref (ax_ad (cx_C, X) 4)), some (.int l1), some (.long (a.1 ||| (ax_lshl (1 : Int64) v31))), none, some (.int (a.2 + 1))] dX3_rowsOf_35 rfl rfl rfl rfl) ?_
      refine ax_j (ax_goto hV dX3_rowsOf_38) ?_
      exact ax_jl (fun h => hI ((a.1 ||| (ax_lshl (1 : Int64) v31)), (a.2 + 1)) h)
theorem T_X3_rowsOf (p1 : Int32) (s : ax_S) (r : Int64) (h : f_X3_rowsOf p1 s = some r) : ax_M cx_C mu_X3_rowsOf (fun ad => [.ref (ad 4), .int p1]) s (some (.long r)) s := by
  refine ax_enter (by decide +kernel) 3 (fun ad => [some (.ref (ad 4)), some (.int p1), none, none, none]) (fun ad => rfl) (fun ad => Nat.le_of_ble_eq_true rfl) (fun X hV ho => ?_)
  refine ax_go (fun r : Int64 => (some (Value.long r), s)) (fun P hP => ?_) h ho
  unfold f_X3_rowsOf
  refine ax_j (ax_lconst hV (0 : Int64) dX3_rowsOf_0 (by decide)) ?_
  refine ax_j (ax_lstore_n hV [some (.ref (ax_ad (cx_C, X) 4)), some (.int p1), some (.long (0 : Int64)), none, none] dX3_rowsOf_1 rfl rfl) ?_
  refine ax_j (ax_iconst hV (0 : Int32) dX3_rowsOf_2 (by decide)) ?_
  refine ax_j (ax_istore hV [some (.ref (ax_ad (cx_C, X) 4)), some (.int p1), some (.long (0 : Int64)), none, some (.int (0 : Int32))] dX3_rowsOf_3 rfl rfl) ?_
  refine ax_jlp ((0 : Int64), (0 : Int32)) (fun x5 : Int64 × Int32 => [some (.ref (ax_ad (cx_C, X) 4)), some (.int p1), some (.long x5.1), none, some (.int x5.2)]) (fun x5 : Int64 × Int32 => s) (fun y5 : Int64 => [none, none, some (.long y5), none, none]) (fun y5 : Int64 => s) (fun P' h1 h2 w => B_X3_rowsOf_5 X hV p1 s P' h1 h2 w) (fun e5 => ?_)
  refine ax_j (ax_lload_n hV dX3_rowsOf_41 rfl) ?_
  exact ax_jl (fun h => ax_lr hV rfl dX3_rowsOf_42 (hP e5 h))
theorem lk_X3_45 : ax_lkV RX3 45 mu_X3_rowsOf RX3 1 := ax_lkV_of (ax_m3 144 rfl rfl) (ax_m3 146 rfl rfl) (ax_mp2 5 rfl rfl rfl) (ax_m1 5 rfl rfl) lc_X3_rowsOf rfl ⟨by decide +kernel, by decide +kernel, by decide +kernel⟩

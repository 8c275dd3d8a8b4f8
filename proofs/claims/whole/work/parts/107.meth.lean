def mu_X10_takeBack : ax_Mu := (yX10_takeBack, cX10_takeBack, 2, some .int, 1, 22)
theorem lc_X10_takeBack : Cond.code mu_X10_takeBack.1 mu_X10_takeBack.2.1 mu_X10_takeBack.2.2.1 mu_X10_takeBack.2.2.2.1 ∈ ax_tb := (ax_m5 123 rfl rfl)
noncomputable def f_X10_takeBack (p1 : Int32) (s : ax_S) : Option (Int32 × ax_S) := (f_X10_in p1 (0 : Int32) ((s.1 0 6) - (1 : Int32))).bind (fun q8 => (if q8 = 0 then some (((-2 : Int32), s)) else (ax_ai cx_R s 10 p1).bind (fun v22 => (if v22 = (-1 : Int32) then (ax_si cx_R s 10 p1 (s.1 0 0)).bind (fun s39 => some (((1 : Int32), s39))) else some (((-3 : Int32), s))))))
theorem T_X10_takeBack (p1 : Int32) (s : ax_S) (r : Int32 × ax_S) (h : f_X10_takeBack p1 s = some r) : ax_M cx_R mu_X10_takeBack (fun ad => [.ref (ad 0), .int p1]) s (some (.int r.1)) r.2 := by
  refine ax_enter (by decide +kernel) 0 (fun ad => [some (.ref (ad 0)), some (.int p1)]) (fun ad => rfl) (fun ad => Nat.le_of_ble_eq_true rfl) (fun X hV ho => ?_)
  refine ax_go (fun r : Int32 × ax_S => (some (Value.int r.1), r.2)) (fun P hP => ?_) h ho
  unfold f_X10_takeBack
  refine ax_j (ax_iload_n hV dX10_takeBack_0 rfl) ?_
  refine ax_j (ax_iconst hV (0 : Int32) dX10_takeBack_1 (by decide)) ?_
  refine ax_j (ax_aload_n hV dX10_takeBack_2 rfl) ?_
  refine ax_j (ax_gfi hV lf_X10_111 dX10_takeBack_3 rfl rfl) ?_
  refine ax_j (ax_iconst hV (1 : Int32) dX10_takeBack_6 (by decide)) ?_
  refine ax_j (ax_isub hV dX10_takeBack_7) ?_
  refine ax_jb (fun v ho => ax_cSi hV lk_X10_97 rfl dX10_takeBack_8 [.int p1, .int (0 : Int32), .int ((s.1 0 6) - (1 : Int32))] [] (fun ad => [.int p1, .int (0 : Int32), .int ((s.1 0 6) - (1 : Int32))]) rfl rfl rfl rfl v s (T_X10_in p1 (0 : Int32) ((s.1 0 6) - (1 : Int32)) s v ho)) (fun q8 => ?_)
  refine ax_jif (ax_if_ne hV dX10_takeBack_11) ?_ ?_
  · refine ax_j (ax_bipush hV (-2 : Int32) dX10_takeBack_14 (by decide)) ?_
    exact ax_jl (fun h => ax_ir hV rfl dX10_takeBack_16 (hP ((-2 : Int32), s) h))
  · refine ax_j (ax_aload_n hV dX10_takeBack_17 rfl) ?_
    refine ax_j (ax_gfr hV lf_X10_37 dX10_takeBack_18 rfl rfl) ?_
    refine ax_j (ax_iload_n hV dX10_takeBack_21 rfl) ?_
    refine ax_jb (ax_iald hV dX10_takeBack_22) (fun v22 => ?_)
    refine ax_j (ax_iconst hV (-1 : Int32) dX10_takeBack_23 (by decide)) ?_
    refine ax_jif (ax_icmp_eq hV dX10_takeBack_24) ?_ ?_
    · refine ax_j (ax_aload_n hV dX10_takeBack_30 rfl) ?_
      refine ax_j (ax_gfr hV lf_X10_37 dX10_takeBack_31 rfl rfl) ?_
      refine ax_j (ax_iload_n hV dX10_takeBack_34 rfl) ?_
      refine ax_j (ax_aload_n hV dX10_takeBack_35 rfl) ?_
      refine ax_j (ax_gfi hV lf_X10_104 dX10_takeBack_36 rfl rfl) ?_
      refine ax_jb (ax_iast hV dX10_takeBack_39) (fun s39 => ?_)
      refine ax_j (ax_iconst hV (1 : Int32) dX10_takeBack_40 (by decide)) ?_
      exact ax_jl (fun h => ax_ir hV rfl dX10_takeBack_41 (hP ((1 : Int32), s39) h))
    · refine ax_j (ax_bipush hV (-3 : Int32) dX10_takeBack_27 (by decide)) ?_
      exact ax_jl (fun h => ax_ir hV rfl dX10_takeBack_29 (hP ((-3 : Int32), s) h))
def mu_X10_aboutOf : ax_Mu := (yX10_aboutOf, cX10_aboutOf, 3, some .int, 2, 43)
theorem lc_X10_aboutOf : Cond.code mu_X10_aboutOf.1 mu_X10_aboutOf.2.1 mu_X10_aboutOf.2.2.1 mu_X10_aboutOf.2.2.2.1 ∈ ax_tb := (ax_m5 131 rfl rfl)
noncomputable def f_X10_aboutOf (p1 : Int32) (p2 : Int32) (s : ax_S) : Option (Int32) := (if p2 = 0 then (ax_ai cx_R s 4 p1).bind (fun v53 => some (v53)) else (if p2 = 1 then (ax_ai cx_R s 5 p1).bind (fun v60 => some (v60)) else (if p2 = 2 then (ax_ai cx_R s 6 p1).bind (fun v67 => some (v67)) else (if p2 = 3 then (ax_ai cx_R s 7 p1).bind (fun v74 => some (v74)) else (if p2 = 4 then (ax_ai cx_R s 8 p1).bind (fun v81 => some (v81)) else (if p2 = 5 then (ax_ai cx_R s 9 p1).bind (fun v88 => some (v88)) else (if p2 = 6 then (ax_ai cx_R s 10 p1).bind (fun v95 => some (v95)) else (if p2 = 7 then (f_X10_isKnown p1 s).bind (fun q99 => (if q99 = 0 then some ((0 : Int32)) else some ((1 : Int32)))) else some ((-300000 : Int32))))))))))
theorem T_X10_aboutOf (p1 : Int32) (p2 : Int32) (s : ax_S) (r : Int32) (h : f_X10_aboutOf p1 p2 s = some r) : ax_M cx_R mu_X10_aboutOf (fun ad => [.ref (ad 0), .int p1, .int p2]) s (some (.int r)) s := by
  refine ax_enter (by decide +kernel) 0 (fun ad => [some (.ref (ad 0)), some (.int p1), some (.int p2)]) (fun ad => rfl) (fun ad => Nat.le_of_ble_eq_true rfl) (fun X hV ho => ?_)
  refine ax_go (fun r : Int32 => (some (Value.int r), s)) (fun P hP => ?_) h ho
  unfold f_X10_aboutOf
  refine ax_j (ax_iload_n hV dX10_aboutOf_0 rfl) ?_
  refine ax_jc (fun h1_0 => ?_) (fun h1_0 => ?_)
  · refine ax_j (ax_tsw (tgt := 48) hV 0 h1_0 dX10_aboutOf_1 rfl (by decide) (by decide) (by decide)) ?_
    refine ax_j (ax_aload_n hV dX10_aboutOf_48 rfl) ?_
    refine ax_j (ax_gfr hV lf_X10_19 dX10_aboutOf_49 rfl rfl) ?_
    refine ax_j (ax_iload_n hV dX10_aboutOf_52 rfl) ?_
    refine ax_jb (ax_iald hV dX10_aboutOf_53) (fun v53 => ?_)
    exact ax_jl (fun h => ax_ir hV rfl dX10_aboutOf_54 (hP v53 h))
  · refine ax_jc (fun h1_1 => ?_) (fun h1_1 => ?_)
    · refine ax_j (ax_tsw (tgt := 55) hV 1 h1_1 dX10_aboutOf_1 rfl (by decide) (by decide) (by decide)) ?_
      refine ax_j (ax_aload_n hV dX10_aboutOf_55 rfl) ?_
      refine ax_j (ax_gfr hV lf_X10_22 dX10_aboutOf_56 rfl rfl) ?_
      refine ax_j (ax_iload_n hV dX10_aboutOf_59 rfl) ?_
      refine ax_jb (ax_iald hV dX10_aboutOf_60) (fun v60 => ?_)
      exact ax_jl (fun h => ax_ir hV rfl dX10_aboutOf_61 (hP v60 h))
    · refine ax_jc (fun h1_2 => ?_) (fun h1_2 => ?_)
      · refine ax_j (ax_tsw (tgt := 62) hV 2 h1_2 dX10_aboutOf_1 rfl (by decide) (by decide) (by decide)) ?_
        refine ax_j (ax_aload_n hV dX10_aboutOf_62 rfl) ?_
        refine ax_j (ax_gfr hV lf_X10_25 dX10_aboutOf_63 rfl rfl) ?_
        refine ax_j (ax_iload_n hV dX10_aboutOf_66 rfl) ?_
        refine ax_jb (ax_iald hV dX10_aboutOf_67) (fun v67 => ?_)
        exact ax_jl (fun h => ax_ir hV rfl dX10_aboutOf_68 (hP v67 h))
      · refine ax_jc (fun h1_3 => ?_) (fun h1_3 => ?_)
        · refine ax_j (ax_tsw (tgt := 69) hV 3 h1_3 dX10_aboutOf_1 rfl (by decide) (by decide) (by decide)) ?_
          refine ax_j (ax_aload_n hV dX10_aboutOf_69 rfl) ?_
          refine ax_j (ax_gfr hV lf_X10_28 dX10_aboutOf_70 rfl rfl) ?_
          refine ax_j (ax_iload_n hV dX10_aboutOf_73 rfl) ?_
          refine ax_jb (ax_iald hV dX10_aboutOf_74) (fun v74 => ?_)
          exact ax_jl (fun h => ax_ir hV rfl dX10_aboutOf_75 (hP v74 h))
        · refine ax_jc (fun h1_4 => ?_) (fun h1_4 => ?_)
          · refine ax_j (ax_tsw (tgt := 76) hV 4 h1_4 dX10_aboutOf_1 rfl (by decide) (by decide) (by decide)) ?_
            refine ax_j (ax_aload_n hV dX10_aboutOf_76 rfl) ?_
            refine ax_j (ax_gfr hV lf_X10_31 dX10_aboutOf_77 rfl rfl) ?_
            refine ax_j (ax_iload_n hV dX10_aboutOf_80 rfl) ?_
            refine ax_jb (ax_iald hV dX10_aboutOf_81) (fun v81 => ?_)
            exact ax_jl (fun h => ax_ir hV rfl dX10_aboutOf_82 (hP v81 h))
          · refine ax_jc (fun h1_5 => ?_) (fun h1_5 => ?_)
            · refine ax_j (ax_tsw (tgt := 83) hV 5 h1_5 dX10_aboutOf_1 rfl (by decide) (by decide) (by decide)) ?_
              refine ax_j (ax_aload_n hV dX10_aboutOf_83 rfl) ?_
              refine ax_j (ax_gfr hV lf_X10_34 dX10_aboutOf_84 rfl rfl) ?_
              refine ax_j (ax_iload_n hV dX10_aboutOf_87 rfl) ?_
              refine ax_jb (ax_iald hV dX10_aboutOf_88) (fun v88 => ?_)
              exact ax_jl (fun h => ax_ir hV rfl dX10_aboutOf_89 (hP v88 h))
            · refine ax_jc (fun h1_6 => ?_) (fun h1_6 => ?_)
              · refine ax_j (ax_tsw (tgt := 90) hV 6 h1_6 dX10_aboutOf_1 rfl (by decide) (by decide) (by decide)) ?_
                refine ax_j (ax_aload_n hV dX10_aboutOf_90 rfl) ?_
                refine ax_j (ax_gfr hV lf_X10_37 dX10_aboutOf_91 rfl rfl) ?_
                refine ax_j (ax_iload_n hV dX10_aboutOf_94 rfl) ?_
                refine ax_jb (ax_iald hV dX10_aboutOf_95) (fun v95 => ?_)
                exact ax_jl (fun h => ax_ir hV rfl dX10_aboutOf_96 (hP v95 h))
              · refine ax_jc (fun h1_7 => ?_) (fun h1_7 => ?_)
                · refine ax_j (ax_tsw (tgt := 97) hV 7 h1_7 dX10_aboutOf_1 rfl (by decide) (by decide) (by decide)) ?_
                  refine ax_j (ax_aload_n hV dX10_aboutOf_97 rfl) ?_
                  refine ax_j (ax_iload_n hV dX10_aboutOf_98 rfl) ?_
                  refine ax_jb (fun v ho => ax_cVi hV lk_X10_147 rfl dX10_aboutOf_99 rfl rfl [.int p1] [] (fun ad => [.ref (ad 0), .int p1]) rfl rfl rfl rfl v s (T_X10_isKnown p1 s v ho)) (fun q99 => ?_)
                  refine ax_jif (ax_if_eq hV dX10_aboutOf_102) ?_ ?_
                  · refine ax_j (ax_iconst hV (0 : Int32) dX10_aboutOf_109 (by decide)) ?_
                    exact ax_jl (fun h => ax_ir hV rfl dX10_aboutOf_110 (hP (0 : Int32) h))
                  · refine ax_j (ax_iconst hV (1 : Int32) dX10_aboutOf_105 (by decide)) ?_
                    refine ax_j (ax_goto hV dX10_aboutOf_106) ?_
                    exact ax_jl (fun h => ax_ir hV rfl dX10_aboutOf_110 (hP (1 : Int32) h))
                · refine ax_j (ax_tswd (tgt := 111) hV (ax_nk_s (ax_nk_s (ax_nk_s (ax_nk_s (ax_nk_s (ax_nk_s (ax_nk_s (ax_nk_s ax_nk_0 h1_0) h1_1) h1_2) h1_3) h1_4) h1_5) h1_6) h1_7) dX10_aboutOf_1 (by decide) (by decide)) ?_
                  refine ax_j (ax_ldc hV kc_X10_150 dX10_aboutOf_111) ?_
                  exact ax_jl (fun h => ax_ir hV rfl dX10_aboutOf_113 (hP (-300000 : Int32) h))
theorem lk_X10_151 : ax_lkV RX10 151 mu_X10_aboutOf RX10 2 := ax_lkV_of (ax_m5 128 rfl rfl) (ax_m5 130 rfl rfl) (ax_mp3 12 rfl rfl rfl) (ax_m1 10 rfl rfl) lc_X10_aboutOf rfl ⟨by decide +kernel, by decide +kernel, by decide +kernel⟩
def mu_X10_about : ax_Mu := (yX10_about, cX10_about, 3, some .int, 3, 65)
theorem lc_X10_about : Cond.code mu_X10_about.1 mu_X10_about.2.1 mu_X10_about.2.2.1 mu_X10_about.2.2.2.1 ∈ ax_tb := (ax_m5 127 rfl rfl)
noncomputable def f_X10_about (p1 : Int32) (p2 : Int32) (s : ax_S) : Option (Int32) := (f_X10_in p1 (0 : Int32) ((s.1 0 6) - (1 : Int32))).bind (fun q8 => (if q8 = 0 then some ((-300000 : Int32)) else (f_X10_aboutOf p1 p2 s).bind (fun q17 => some (q17))))
theorem T_X10_about (p1 : Int32) (p2 : Int32) (s : ax_S) (r : Int32) (h : f_X10_about p1 p2 s = some r) : ax_M cx_R mu_X10_about (fun ad => [.ref (ad 0), .int p1, .int p2]) s (some (.int r)) s := by
  refine ax_enter (by decide +kernel) 0 (fun ad => [some (.ref (ad 0)), some (.int p1), some (.int p2)]) (fun ad => rfl) (fun ad => Nat.le_of_ble_eq_true rfl) (fun X hV ho => ?_)
  refine ax_go (fun r : Int32 => (some (Value.int r), s)) (fun P hP => ?_) h ho
  unfold f_X10_about
  refine ax_j (ax_iload_n hV dX10_about_0 rfl) ?_
  refine ax_j (ax_iconst hV (0 : Int32) dX10_about_1 (by decide)) ?_
  refine ax_j (ax_aload_n hV dX10_about_2 rfl) ?_
  refine ax_j (ax_gfi hV lf_X10_111 dX10_about_3 rfl rfl) ?_
  refine ax_j (ax_iconst hV (1 : Int32) dX10_about_6 (by decide)) ?_
  refine ax_j (ax_isub hV dX10_about_7) ?_
  refine ax_jb (fun v ho => ax_cSi hV lk_X10_97 rfl dX10_about_8 [.int p1, .int (0 : Int32), .int ((s.1 0 6) - (1 : Int32))] [] (fun ad => [.int p1, .int (0 : Int32), .int ((s.1 0 6) - (1 : Int32))]) rfl rfl rfl rfl v s (T_X10_in p1 (0 : Int32) ((s.1 0 6) - (1 : Int32)) s v ho)) (fun q8 => ?_)
  refine ax_jif (ax_if_eq hV dX10_about_11) ?_ ?_
  · refine ax_j (ax_ldc hV kc_X10_150 dX10_about_23) ?_
    exact ax_jl (fun h => ax_ir hV rfl dX10_about_25 (hP (-300000 : Int32) h))
  · refine ax_j (ax_aload_n hV dX10_about_14 rfl) ?_
    refine ax_j (ax_iload_n hV dX10_about_15 rfl) ?_
    refine ax_j (ax_iload_n hV dX10_about_16 rfl) ?_
    refine ax_jb (fun v ho => ax_cVi hV lk_X10_151 rfl dX10_about_17 rfl rfl [.int p1, .int p2] [] (fun ad => [.ref (ad 0), .int p1, .int p2]) rfl rfl rfl rfl v s (T_X10_aboutOf p1 p2 s v ho)) (fun q17 => ?_)
    refine ax_j (ax_goto hV dX10_about_20) ?_
    exact ax_jl (fun h => ax_ir hV rfl dX10_about_25 (hP q17 h))
def mu_X10_asOf : ax_Mu := (yX10_asOf, cX10_asOf, 3, some .int, 1, 22)
theorem lc_X10_asOf : Cond.code mu_X10_asOf.1 mu_X10_asOf.2.1 mu_X10_asOf.2.2.1 mu_X10_asOf.2.2.2.1 ∈ ax_tb := (ax_m5 144 rfl rfl)
noncomputable def f_X10_asOf (p1 : Int32) (s : ax_S) : Option (Int32 × ax_S) := (f_X10_in p1 (-1 : Int32) (s.1 0 0)).bind (fun q6 => (if q6 = 0 then some (((-2 : Int32), s)) else some (((s.1 0 14), (ax_ui s 0 14 p1)))))
theorem T_X10_asOf (p1 : Int32) (s : ax_S) (r : Int32 × ax_S) (h : f_X10_asOf p1 s = some r) : ax_M cx_R mu_X10_asOf (fun ad => [.ref (ad 0), .int p1]) s (some (.int r.1)) r.2 := by
  refine ax_enter (by decide +kernel) 1 (fun ad => [some (.ref (ad 0)), some (.int p1), none]) (fun ad => rfl) (fun ad => Nat.le_of_ble_eq_true rfl) (fun X hV ho => ?_)
  refine ax_go (fun r : Int32 × ax_S => (some (Value.int r.1), r.2)) (fun P hP => ?_) h ho
  unfold f_X10_asOf
  refine ax_j (ax_iload_n hV dX10_asOf_0 rfl) ?_
  refine ax_j (ax_iconst hV (-1 : Int32) dX10_asOf_1 (by decide)) ?_
  refine ax_j (ax_aload_n hV dX10_asOf_2 rfl) ?_
  refine ax_j (ax_gfi hV lf_X10_104 dX10_asOf_3 rfl rfl) ?_
  refine ax_jb (fun v ho => ax_cSi hV lk_X10_97 rfl dX10_asOf_6 [.int p1, .int (-1 : Int32), .int (s.1 0 0)] [] (fun ad => [.int p1, .int (-1 : Int32), .int (s.1 0 0)]) rfl rfl rfl rfl v s (T_X10_in p1 (-1 : Int32) (s.1 0 0) s v ho)) (fun q6 => ?_)
  refine ax_jif (ax_if_ne hV dX10_asOf_9) ?_ ?_
  · refine ax_j (ax_bipush hV (-2 : Int32) dX10_asOf_12 (by decide)) ?_
    exact ax_jl (fun h => ax_ir hV rfl dX10_asOf_14 (hP ((-2 : Int32), s) h))
  · refine ax_j (ax_aload_n hV dX10_asOf_15 rfl) ?_
    refine ax_j (ax_gfi hV lf_X10_40 dX10_asOf_16 rfl rfl) ?_
    refine ax_j (ax_istore_n hV [some (.ref (ax_ad (cx_R, X) 0)), some (.int p1), some (.int (s.1 0 14))] dX10_asOf_19 rfl rfl) ?_
    refine ax_j (ax_aload_n hV dX10_asOf_20 rfl) ?_
    refine ax_j (ax_iload_n hV dX10_asOf_21 rfl) ?_
    refine ax_j (ax_pfi hV lp_X10_40 dX10_asOf_22 rfl rfl) ?_
    refine ax_j (ax_iload_n hV dX10_asOf_25 rfl) ?_
    exact ax_jl (fun h => ax_ir hV rfl dX10_asOf_26 (hP ((s.1 0 14), (ax_ui s 0 14 p1)) h))
def mu_X10_atMost : ax_Mu := (yX10_atMost, cX10_atMost, 5, none, 0, 0)
theorem lc_X10_atMost : Cond.code mu_X10_atMost.1 mu_X10_atMost.2.1 mu_X10_atMost.2.2.1 mu_X10_atMost.2.2.2.1 ∈ ax_tb := (ax_m5 166 rfl rfl)
noncomputable def f_X10_atMost (p1 : Int32) (p2 : Int32) (p3 : Int32) (s : ax_S) : Option (ax_S) := (ax_ai cx_R s 11 (((19 : Int32) * p1) + p2)).bind (fun v21 => (if v21 ≤ p3 then (ax_ai cx_R s 11 (((19 : Int32) * p1) + p2)).bind (fun v35 => (ax_si cx_R s 11 (((19 : Int32) * p1) + p2) v35).bind (fun s36 => some (s36))) else (ax_si cx_R s 11 (((19 : Int32) * p1) + p2) p3).bind (fun s36 => some (s36))))
theorem T_X10_atMost (p1 : Int32) (p2 : Int32) (p3 : Int32) (s : ax_S) (r : ax_S) (h : f_X10_atMost p1 p2 p3 s = some r) : ax_M cx_R mu_X10_atMost (fun ad => [.ref (ad 0), .int p1, .int p2, .int p3]) s none r := by
  refine ax_enter (by decide +kernel) 1 (fun ad => [some (.ref (ad 0)), some (.int p1), some (.int p2), some (.int p3), none]) (fun ad => rfl) (fun ad => Nat.le_of_ble_eq_true rfl) (fun X hV ho => ?_)
  refine ax_go (fun r : ax_S => ((none : Option Value), r)) (fun P hP => ?_) h ho
  unfold f_X10_atMost
  refine ax_j (ax_bipush hV (19 : Int32) dX10_atMost_0 (by decide)) ?_
  refine ax_j (ax_iload_n hV dX10_atMost_2 rfl) ?_
  refine ax_j (ax_imul hV dX10_atMost_3) ?_
  refine ax_j (ax_iload_n hV dX10_atMost_4 rfl) ?_
  refine ax_j (ax_iadd hV dX10_atMost_5) ?_
  refine ax_j (ax_istore hV [some (.ref (ax_ad (cx_R, X) 0)), some (.int p1), some (.int p2), some (.int p3), some (.int (((19 : Int32) * p1) + p2))] dX10_atMost_6 rfl rfl) ?_
  refine ax_j (ax_aload_n hV dX10_atMost_8 rfl) ?_
  refine ax_j (ax_gfr hV lf_X10_44 dX10_atMost_9 rfl rfl) ?_
  refine ax_j (ax_iload hV dX10_atMost_12 rfl) ?_
  refine ax_j (ax_iload_n hV dX10_atMost_14 rfl) ?_
  refine ax_j (ax_aload_n hV dX10_atMost_15 rfl) ?_
  refine ax_j (ax_gfr hV lf_X10_44 dX10_atMost_16 rfl rfl) ?_
  refine ax_j (ax_iload hV dX10_atMost_19 rfl) ?_
  refine ax_jb (ax_iald hV dX10_atMost_21) (fun v21 => ?_)
  refine ax_jif (ax_icmp_ge hV dX10_atMost_22) ?_ ?_
  · refine ax_j (ax_aload_n hV dX10_atMost_29 rfl) ?_
    refine ax_j (ax_gfr hV lf_X10_44 dX10_atMost_30 rfl rfl) ?_
    refine ax_j (ax_iload hV dX10_atMost_33 rfl) ?_
    refine ax_jb (ax_iald hV dX10_atMost_35) (fun v35 => ?_)
    refine ax_jb (ax_iast hV dX10_atMost_36) (fun s36 => ?_)
    exact ax_jl (fun h => ax_vr hV rfl dX10_atMost_37 (hP s36 h))
  · refine ax_j (ax_iload_n hV dX10_atMost_25 rfl) ?_
    refine ax_j (ax_goto hV dX10_atMost_26) ?_
    refine ax_jb (ax_iast hV dX10_atMost_36) (fun s36 => ?_)
    exact ax_jl (fun h => ax_vr hV rfl dX10_atMost_37 (hP s36 h))
theorem lk_X10_156 : ax_lkV RX10 156 mu_X10_atMost RX10 3 := ax_lkV_of (ax_m5 163 rfl rfl) (ax_m5 165 rfl rfl) (ax_mp4 2 rfl rfl rfl) (ax_m1 10 rfl rfl) lc_X10_atMost rfl ⟨by decide +kernel, by decide +kernel, by decide +kernel⟩
def mu_X10_leansOn : ax_Mu := (yX10_leansOn, cX10_leansOn, 2, some .int, 0, 0)
theorem lc_X10_leansOn : Cond.code mu_X10_leansOn.1 mu_X10_leansOn.2.1 mu_X10_leansOn.2.2.1 mu_X10_leansOn.2.2.2.1 ∈ ax_tb := (ax_m5 170 rfl rfl)
noncomputable def f_X10_leansOn (p1 : Int32) (s : ax_S) : Option (Int32) := (ax_ai cx_R s 6 p1).bind (fun v5 => (if v5 = (-1 : Int32) then (ax_ai cx_R s 4 p1).bind (fun v17 => some (((13 : Int32) + v17))) else (ax_ai cx_R s 6 p1).bind (fun v28 => some (((1 : Int32) + v28)))))
theorem T_X10_leansOn (p1 : Int32) (s : ax_S) (r : Int32) (h : f_X10_leansOn p1 s = some r) : ax_M cx_R mu_X10_leansOn (fun ad => [.ref (ad 0), .int p1]) s (some (.int r)) s := by
  refine ax_enter (by decide +kernel) 0 (fun ad => [some (.ref (ad 0)), some (.int p1)]) (fun ad => rfl) (fun ad => Nat.le_of_ble_eq_true rfl) (fun X hV ho => ?_)
  refine ax_go (fun r : Int32 => (some (Value.int r), s)) (fun P hP => ?_) h ho
  unfold f_X10_leansOn
  refine ax_j (ax_aload_n hV dX10_leansOn_0 rfl) ?_
  refine ax_j (ax_gfr hV lf_X10_25 dX10_leansOn_1 rfl rfl) ?_
  refine ax_j (ax_iload_n hV dX10_leansOn_4 rfl) ?_
  refine ax_jb (ax_iald hV dX10_leansOn_5) (fun v5 => ?_)
  refine ax_j (ax_iconst hV (-1 : Int32) dX10_leansOn_6 (by decide)) ?_
  refine ax_jif (ax_icmp_ne hV dX10_leansOn_7) ?_ ?_
  · refine ax_j (ax_bipush hV (13 : Int32) dX10_leansOn_10 (by decide)) ?_
    refine ax_j (ax_aload_n hV dX10_leansOn_12 rfl) ?_
    refine ax_j (ax_gfr hV lf_X10_19 dX10_leansOn_13 rfl rfl) ?_
    refine ax_j (ax_iload_n hV dX10_leansOn_16 rfl) ?_
    refine ax_jb (ax_iald hV dX10_leansOn_17) (fun v17 => ?_)
    refine ax_j (ax_iadd hV dX10_leansOn_18) ?_
    refine ax_j (ax_goto hV dX10_leansOn_19) ?_
    exact ax_jl (fun h => ax_ir hV rfl dX10_leansOn_30 (hP ((13 : Int32) + v17) h))
  · refine ax_j (ax_iconst hV (1 : Int32) dX10_leansOn_22 (by decide)) ?_
    refine ax_j (ax_aload_n hV dX10_leansOn_23 rfl) ?_
    refine ax_j (ax_gfr hV lf_X10_25 dX10_leansOn_24 rfl rfl) ?_
    refine ax_j (ax_iload_n hV dX10_leansOn_27 rfl) ?_
    refine ax_jb (ax_iald hV dX10_leansOn_28) (fun v28 => ?_)
    refine ax_j (ax_iadd hV dX10_leansOn_29) ?_
    exact ax_jl (fun h => ax_ir hV rfl dX10_leansOn_30 (hP ((1 : Int32) + v28) h))
theorem lk_X10_160 : ax_lkV RX10 160 mu_X10_leansOn RX10 1 := ax_lkV_of (ax_m5 167 rfl rfl) (ax_m5 169 rfl rfl) (ax_mp4 3 rfl rfl rfl) (ax_m1 10 rfl rfl) lc_X10_leansOn rfl ⟨by decide +kernel, by decide +kernel, by decide +kernel⟩
def mu_X10_works : ax_Mu := (yX10_works, cX10_works, 7, some .boolean, 1, 24)
theorem lc_X10_works : Cond.code mu_X10_works.1 mu_X10_works.2.1 mu_X10_works.2.2.1 mu_X10_works.2.2.2.1 ∈ ax_tb := (ax_m5 161 rfl rfl)
noncomputable def b_X10_works_2 (l1 : Int64) (a : Int32 × ax_S) : Option ((Int32 × ax_S) ⊕ (ax_S)) := (if (361 : Int32) ≤ a.1 then some (.inr a.2) else (ax_idiv a.1 (19 : Int32)).bind (fun v17 => (ax_irem a.1 (19 : Int32)).bind (fun v21 => (if v17 = v21 then (ax_si cx_R a.2 11 a.1 (0 : Int32)).bind (fun s31 => some (.inl ((a.1 + 1), s31))) else (ax_si cx_R a.2 11 a.1 (100000000 : Int32)).bind (fun s31 => some (.inl ((a.1 + 1), s31)))))))
noncomputable def b_X10_works_40 (l1 : Int64) (a : Int32 × ax_S) : Option ((Int32 × ax_S) ⊕ (ax_S)) := (if (a.2.1 0 1) ≤ a.1 then some (.inr a.2) else (f_X10_atMost (0 : Int32) ((1 : Int32) + a.1) (200000 : Int32) a.2).bind (fun q55 => (f_X10_atMost ((1 : Int32) + a.1) (0 : Int32) (200000 : Int32) q55).bind (fun q65 => some (.inl ((a.1 + 1), q65)))))
noncomputable def b_X10_works_76 (l1 : Int64) (a : Int32 × ax_S) : Option ((Int32 × ax_S) ⊕ (ax_S)) := (if (a.2.1 0 2) ≤ a.1 then some (.inr a.2) else (ax_ai cx_R a.2 1 a.1).bind (fun v95 => (f_X10_atMost (0 : Int32) ((13 : Int32) + a.1) (-v95) a.2).bind (fun q97 => (ax_ai cx_R q97 2 a.1).bind (fun v111 => (f_X10_atMost ((13 : Int32) + a.1) (0 : Int32) v111 q97).bind (fun q112 => some (.inl ((a.1 + 1), q112)))))))
noncomputable def b_X10_works_123 (l1 : Int64) (a : Int32 × ax_S) : Option ((Int32 × ax_S) ⊕ (ax_S)) := (if (a.2.1 0 6) ≤ a.1 then some (.inr a.2) else (if (lg_cmp ((ax_lshr l1 a.1) &&& (1 : Int64)) (1 : Int64)) = 0 then (f_X10_leansOn a.1 a.2).bind (fun q144 => (ax_ai cx_R a.2 5 a.1).bind (fun v153 => (ax_ai cx_R a.2 8 a.1).bind (fun v160 => (f_X10_atMost q144 ((1 : Int32) + v153) v160 a.2).bind (fun q161 => (ax_ai cx_R q161 5 a.1).bind (fun v171 => (f_X10_leansOn a.1 q161).bind (fun q175 => (ax_ai cx_R q161 7 a.1).bind (fun v183 => (f_X10_atMost ((1 : Int32) + v171) q175 (-v183) q161).bind (fun q185 => some (.inl ((a.1 + 1), q185)))))))))) else some (.inl ((a.1 + 1), a.2))))
noncomputable def j_X10_works_215_286 (l3 : Int32) (l4 : Int32) (l5 : Int32) (k0 : Int32) (s : ax_S) : Option ((Int32 × ax_S) ⊕ (ax_S)) := (ax_ai cx_R s 11 (((19 : Int32) * l4) + l5)).bind (fun v314 => (if v314 ≤ k0 then (ax_ai cx_R s 11 (((19 : Int32) * l4) + l5)).bind (fun v335 => (ax_si cx_R s 11 (((19 : Int32) * l4) + l5) v335).bind (fun s336 => some (.inl ((l5 + 1), s336)))) else (ax_si cx_R s 11 (((19 : Int32) * l4) + l5) k0).bind (fun s336 => some (.inl ((l5 + 1), s336)))))
noncomputable def b_X10_works_215 (l3 : Int32) (l4 : Int32) (a : Int32 × ax_S) : Option ((Int32 × ax_S) ⊕ (ax_S)) := (if (19 : Int32) ≤ a.1 then some (.inr a.2) else (ax_ai cx_R a.2 11 (((19 : Int32) * l4) + l3)).bind (fun v233 => (if (100000000 : Int32) ≤ v233 then some (.inr a.2) else (ax_ai cx_R a.2 11 (((19 : Int32) * l3) + a.1)).bind (fun v250 => (if (100000000 : Int32) ≤ v250 then j_X10_works_215_286 l3 l4 a.1 (100000000 : Int32) a.2 else (ax_ai cx_R a.2 11 (((19 : Int32) * l4) + l3)).bind (fun v267 => (ax_ai cx_R a.2 11 (((19 : Int32) * l3) + a.1)).bind (fun v279 => j_X10_works_215_286 l3 l4 a.1 (v267 + v279) a.2)))))))
noncomputable def b_X10_works_205 (l3 : Int32) (a : Int32 × ax_S) : Option ((Int32 × ax_S) ⊕ (ax_S)) := (if (19 : Int32) ≤ a.1 then some (.inr a.2) else (ax_lp (b_X10_works_215 l3 a.1) ((0 : Int32), a.2)).bind (fun e215 => some (.inl ((a.1 + 1), e215))))
noncomputable def b_X10_works_352 (l3 : Int32) (s : ax_S) (a : Int32) : Option ((Int32) ⊕ ((Unit) ⊕ (Int32 × ax_S))) := (if (19 : Int32) ≤ a then some (.inr (.inl ())) else (ax_ai cx_R s 11 ((20 : Int32) * a)).bind (fun v368 => (if 0 ≤ v368 then some (.inl (a + 1)) else some (.inr (.inr ((0 : Int32), s))))))
noncomputable def b_X10_works_196  (a : Int32 × ax_S) : Option ((Int32 × ax_S) ⊕ ((ax_S) ⊕ (Int32 × ax_S))) := (if (19 : Int32) ≤ a.1 then some (.inr (.inl a.2)) else (ax_lp (b_X10_works_205 a.1) ((0 : Int32), a.2)).bind (fun e205 => (ax_lp (b_X10_works_352 a.1 e205) (0 : Int32)).bind (Sum.elim (fun e352 => some (.inl ((a.1 + 1), e205))) (fun r => some (.inr (.inr r))))))
noncomputable def f_X10_works (p1 : Int64) (s : ax_S) : Option (Int32 × ax_S) := (ax_lp (b_X10_works_2 p1) ((0 : Int32), s)).bind (fun e2 => (ax_lp (b_X10_works_40 p1) ((0 : Int32), e2)).bind (fun e40 => (ax_lp (b_X10_works_76 p1) ((0 : Int32), e40)).bind (fun e76 => (ax_lp (b_X10_works_123 p1) ((0 : Int32), e76)).bind (fun e123 => (ax_lp (b_X10_works_196) ((0 : Int32), e123)).bind (Sum.elim (fun e196 => some (((1 : Int32), e196))) (fun r => some (r)))))))
theorem B_X10_works_2 (X : ax_G × ax_K × Option Value × ax_S) (hV : ax_ok (cx_R, X) mu_X10_works) (l1 : Int64) (P : ((Int32 × ax_S) ⊕ (ax_S)) → Prop) (hI : ∀ a : Int32 × ax_S, P (.inl a) → ax_At (cx_R, X) 2 [some (.ref (ax_ad (cx_R, X) 0)), some (.long l1), none, some (.int a.1), none, none, none] [] a.2) (hO : ∀ e : ax_S, P (.inr e) → ax_At (cx_R, X) 38 [some (.ref (ax_ad (cx_R, X) 0)), some (.long l1), none, none, none, none, none] [] e) (a : Int32 × ax_S) : ax_J (cx_R, X) P 2 [some (.ref (ax_ad (cx_R, X) 0)), some (.long l1), none, some (.int a.1), none, none, none] [] a.2 (b_X10_works_2 l1 a) := by
  unfold b_X10_works_2
  refine ax_j (ax_iload_n hV dX10_works_2 rfl) ?_
  refine ax_j (ax_sipush hV (361 : Int32) dX10_works_3 (by decide)) ?_
  refine ax_jif (ax_icmp_ge hV dX10_works_6) ?_ ?_
  · refine ax_jf (lv' := [some (.ref (ax_ad (cx_R, X) 0)), some (.long l1), none, none, none, none, none]) [true, true, false, false, false, false, false] rfl ?_
    exact ax_jl (fun h => hO a.2 h)
  · refine ax_j (ax_aload_n hV dX10_works_9 rfl) ?_
    refine ax_j (ax_gfr hV lf_X10_44 dX10_works_10 rfl rfl) ?_
    refine ax_j (ax_iload_n hV dX10_works_13 rfl) ?_
    refine ax_j (ax_iload_n hV dX10_works_14 rfl) ?_
    refine ax_j (ax_bipush hV (19 : Int32) dX10_works_15 (by decide)) ?_
    refine ax_jb (ax_idiv_ hV dX10_works_17) (fun v17 => ?_)
    refine ax_j (ax_iload_n hV dX10_works_18 rfl) ?_
    refine ax_j (ax_bipush hV (19 : Int32) dX10_works_19 (by decide)) ?_
    refine ax_jb (ax_irem_ hV dX10_works_21) (fun v21 => ?_)
    refine ax_jif (ax_icmp_ne hV dX10_works_22) ?_ ?_
    · refine ax_j (ax_iconst hV (0 : Int32) dX10_works_25 (by decide)) ?_
      refine ax_j (ax_goto hV dX10_works_26) ?_
      refine ax_jb (ax_iast hV dX10_works_31) (fun s31 => ?_)
      refine ax_j (ax_iinc hV (a.1 + 1) [some (.ref (ax_ad (cx_R, X) 0)), some (.long l1), none, some (.int (a.1 + 1)), none, none, none] dX10_works_32 rfl rfl rfl rfl) ?_
      refine ax_j (ax_goto hV dX10_works_35) ?_
      exact ax_jl (fun h => hI ((a.1 + 1), s31) h)
    · refine ax_j (ax_ldc hV kc_X10_155 dX10_works_29) ?_
      refine ax_jb (ax_iast hV dX10_works_31) (fun s31 => ?_)
      refine ax_j (ax_iinc hV (a.1 + 1) [some (.ref (ax_ad (cx_R, X) 0)), some (.long l1), none, some (.int (a.1 + 1)), none, none, none] dX10_works_32 rfl rfl rfl rfl) ?_
      refine ax_j (ax_goto hV dX10_works_35) ?_
      exact ax_jl (fun h => hI ((a.1 + 1), s31) h)
theorem B_X10_works_40 (X : ax_G × ax_K × Option Value × ax_S) (hV : ax_ok (cx_R, X) mu_X10_works) (l1 : Int64) (P : ((Int32 × ax_S) ⊕ (ax_S)) → Prop) (hI : ∀ a : Int32 × ax_S, P (.inl a) → ax_At (cx_R, X) 40 [some (.ref (ax_ad (cx_R, X) 0)), some (.long l1), none, some (.int a.1), none, none, none] [] a.2) (hO : ∀ e : ax_S, P (.inr e) → ax_At (cx_R, X) 74 [some (.ref (ax_ad (cx_R, X) 0)), some (.long l1), none, none, none, none, none] [] e) (a : Int32 × ax_S) : ax_J (cx_R, X) P 40 [some (.ref (ax_ad (cx_R, X) 0)), some (.long l1), none, some (.int a.1), none, none, none] [] a.2 (b_X10_works_40 l1 a) := by
  unfold b_X10_works_40
  refine ax_j (ax_iload_n hV dX10_works_40 rfl) ?_
  refine ax_j (ax_aload_n hV dX10_works_41 rfl) ?_
  refine ax_j (ax_gfi hV lf_X10_94 dX10_works_42 rfl rfl) ?_
  refine ax_jif (ax_icmp_ge hV dX10_works_45) ?_ ?_
  · refine ax_jf (lv' := [some (.ref (ax_ad (cx_R, X) 0)), some (.long l1), none, none, none, none, none]) [true, true, false, false, false, false, false] rfl ?_
    exact ax_jl (fun h => hO a.2 h)
  · refine ax_j (ax_aload_n hV dX10_works_48 rfl) ?_
    refine ax_j (ax_iconst hV (0 : Int32) dX10_works_49 (by decide)) ?_
    refine ax_j (ax_iconst hV (1 : Int32) dX10_works_50 (by decide)) ?_
    refine ax_j (ax_iload_n hV dX10_works_51 rfl) ?_
    refine ax_j (ax_iadd hV dX10_works_52) ?_
    refine ax_j (ax_ldc hV kc_X10_126 dX10_works_53) ?_
    refine ax_jb (fun v ho => ax_cVv hV lk_X10_156 rfl dX10_works_55 rfl rfl [.int (0 : Int32), .int ((1 : Int32) + a.1), .int (200000 : Int32)] [] (fun ad => [.ref (ad 0), .int (0 : Int32), .int ((1 : Int32) + a.1), .int (200000 : Int32)]) rfl rfl rfl rfl v (T_X10_atMost (0 : Int32) ((1 : Int32) + a.1) (200000 : Int32) a.2 v ho)) (fun q55 => ?_)
    refine ax_j (ax_aload_n hV dX10_works_58 rfl) ?_
    refine ax_j (ax_iconst hV (1 : Int32) dX10_works_59 (by decide)) ?_
    refine ax_j (ax_iload_n hV dX10_works_60 rfl) ?_
    refine ax_j (ax_iadd hV dX10_works_61) ?_
    refine ax_j (ax_iconst hV (0 : Int32) dX10_works_62 (by decide)) ?_
    refine ax_j (ax_ldc hV kc_X10_126 dX10_works_63) ?_
    refine ax_jb (fun v ho => ax_cVv hV lk_X10_156 rfl dX10_works_65 rfl rfl [.int ((1 : Int32) + a.1), .int (0 : Int32), .int (200000 : Int32)] [] (fun ad => [.ref (ad 0), .int ((1 : Int32) + a.1), .int (0 : Int32), .int (200000 : Int32)]) rfl rfl rfl rfl v (T_X10_atMost ((1 : Int32) + a.1) (0 : Int32) (200000 : Int32) q55 v ho)) (fun q65 => ?_)
    refine ax_j (ax_iinc hV (a.1 + 1) [some (.ref (ax_ad (cx_R, X) 0)), some (.long l1), none, some (.int (a.1 + 1)), none, none, none] dX10_works_68 rfl rfl rfl rfl) ?_
    refine ax_j (ax_goto hV dX10_works_71) ?_
    exact ax_jl (fun h => hI ((a.1 + 1), q65) h)
theorem B_X10_works_76 (X : ax_G × ax_K × Option Value × ax_S) (hV : ax_ok (cx_R, X) mu_X10_works) (l1 : Int64) (P : ((Int32 × ax_S) ⊕ (ax_S)) → Prop) (hI : ∀ a : Int32 × ax_S, P (.inl a) → ax_At (cx_R, X) 76 [some (.ref (ax_ad (cx_R, X) 0)), some (.long l1), none, some (.int a.1), none, none, none] [] a.2) (hO : ∀ e : ax_S, P (.inr e) → ax_At (cx_R, X) 121 [some (.ref (ax_ad (cx_R, X) 0)), some (.long l1), none, none, none, none, none] [] e) (a : Int32 × ax_S) : ax_J (cx_R, X) P 76 [some (.ref (ax_ad (cx_R, X) 0)), some (.long l1), none, some (.int a.1), none, none, none] [] a.2 (b_X10_works_76 l1 a) := by
  unfold b_X10_works_76
  refine ax_j (ax_iload_n hV dX10_works_76 rfl) ?_
  refine ax_j (ax_aload_n hV dX10_works_77 rfl) ?_
  refine ax_j (ax_gfi hV lf_X10_101 dX10_works_78 rfl rfl) ?_
  refine ax_jif (ax_icmp_ge hV dX10_works_81) ?_ ?_
  · refine ax_jf (lv' := [some (.ref (ax_ad (cx_R, X) 0)), some (.long l1), none, none, none, none, none]) [true, true, false, false, false, false, false] rfl ?_
    exact ax_jl (fun h => hO a.2 h)
  · refine ax_j (ax_aload_n hV dX10_works_84 rfl) ?_
    refine ax_j (ax_iconst hV (0 : Int32) dX10_works_85 (by decide)) ?_
    refine ax_j (ax_bipush hV (13 : Int32) dX10_works_86 (by decide)) ?_
    refine ax_j (ax_iload_n hV dX10_works_88 rfl) ?_
    refine ax_j (ax_iadd hV dX10_works_89) ?_
    refine ax_j (ax_aload_n hV dX10_works_90 rfl) ?_
    refine ax_j (ax_gfr hV lf_X10_9 dX10_works_91 rfl rfl) ?_
    refine ax_j (ax_iload_n hV dX10_works_94 rfl) ?_
    refine ax_jb (ax_iald hV dX10_works_95) (fun v95 => ?_)
    refine ax_j (ax_ineg hV dX10_works_96) ?_
    refine ax_jb (fun v ho => ax_cVv hV lk_X10_156 rfl dX10_works_97 rfl rfl [.int (0 : Int32), .int ((13 : Int32) + a.1), .int (-v95)] [] (fun ad => [.ref (ad 0), .int (0 : Int32), .int ((13 : Int32) + a.1), .int (-v95)]) rfl rfl rfl rfl v (T_X10_atMost (0 : Int32) ((13 : Int32) + a.1) (-v95) a.2 v ho)) (fun q97 => ?_)
    refine ax_j (ax_aload_n hV dX10_works_100 rfl) ?_
    refine ax_j (ax_bipush hV (13 : Int32) dX10_works_101 (by decide)) ?_
    refine ax_j (ax_iload_n hV dX10_works_103 rfl) ?_
    refine ax_j (ax_iadd hV dX10_works_104) ?_
    refine ax_j (ax_iconst hV (0 : Int32) dX10_works_105 (by decide)) ?_
    refine ax_j (ax_aload_n hV dX10_works_106 rfl) ?_
    refine ax_j (ax_gfr hV lf_X10_13 dX10_works_107 rfl rfl) ?_
    refine ax_j (ax_iload_n hV dX10_works_110 rfl) ?_
    refine ax_jb (ax_iald hV dX10_works_111) (fun v111 => ?_)
    refine ax_jb (fun v ho => ax_cVv hV lk_X10_156 rfl dX10_works_112 rfl rfl [.int ((13 : Int32) + a.1), .int (0 : Int32), .int v111] [] (fun ad => [.ref (ad 0), .int ((13 : Int32) + a.1), .int (0 : Int32), .int v111]) rfl rfl rfl rfl v (T_X10_atMost ((13 : Int32) + a.1) (0 : Int32) v111 q97 v ho)) (fun q112 => ?_)
    refine ax_j (ax_iinc hV (a.1 + 1) [some (.ref (ax_ad (cx_R, X) 0)), some (.long l1), none, some (.int (a.1 + 1)), none, none, none] dX10_works_115 rfl rfl rfl rfl) ?_
    refine ax_j (ax_goto hV dX10_works_118) ?_
    exact ax_jl (fun h => hI ((a.1 + 1), q112) h)
theorem B_X10_works_123 (X : ax_G × ax_K × Option Value × ax_S) (hV : ax_ok (cx_R, X) mu_X10_works) (l1 : Int64) (P : ((Int32 × ax_S) ⊕ (ax_S)) → Prop) (hI : ∀ a : Int32 × ax_S, P (.inl a) → ax_At (cx_R, X) 123 [some (.ref (ax_ad (cx_R, X) 0)), some (.long l1), none, some (.int a.1), none, none, none] [] a.2) (hO : ∀ e : ax_S, P (.inr e) → ax_At (cx_R, X) 194 [some (.ref (ax_ad (cx_R, X) 0)), none, none, none, none, none, none] [] e) (a : Int32 × ax_S) : ax_J (cx_R, X) P 123 [some (.ref (ax_ad (cx_R, X) 0)), some (.long l1), none, some (.int a.1), none, none, none] [] a.2 (b_X10_works_123 l1 a) := by
  unfold b_X10_works_123
  refine ax_j (ax_iload_n hV dX10_works_123 rfl) ?_
  refine ax_j (ax_aload_n hV dX10_works_124 rfl) ?_
  refine ax_j (ax_gfi hV lf_X10_111 dX10_works_125 rfl rfl) ?_
  refine ax_jif (ax_icmp_ge hV dX10_works_128) ?_ ?_
  · refine ax_jf (lv' := [some (.ref (ax_ad (cx_R, X) 0)), none, none, none, none, none, none]) [true, false, false, false, false, false, false] rfl ?_
    exact ax_jl (fun h => hO a.2 h)
  · refine ax_j (ax_lload_n hV dX10_works_131 rfl) ?_
    refine ax_j (ax_iload_n hV dX10_works_132 rfl) ?_
    refine ax_j (ax_lshr_ hV dX10_works_133) ?_
    refine ax_j (ax_lconst hV (1 : Int64) dX10_works_134 (by decide)) ?_
    refine ax_j (ax_land hV dX10_works_135) ?_
    refine ax_j (ax_lconst hV (1 : Int64) dX10_works_136 (by decide)) ?_
    refine ax_j (ax_lcmp hV dX10_works_137) ?_
    refine ax_jif (ax_if_ne hV dX10_works_138) ?_ ?_
    · refine ax_j (ax_aload_n hV dX10_works_141 rfl) ?_
      refine ax_j (ax_aload_n hV dX10_works_142 rfl) ?_
      refine ax_j (ax_iload_n hV dX10_works_143 rfl) ?_
      refine ax_jb (fun v ho => ax_cVi hV lk_X10_160 rfl dX10_works_144 rfl rfl [.int a.1] [.ref (ax_ad (cx_R, X) 0)] (fun ad => [.ref (ad 0), .int a.1]) rfl rfl rfl rfl v a.2 (T_X10_leansOn a.1 a.2 v ho)) (fun q144 => ?_)
      refine ax_j (ax_iconst hV (1 : Int32) dX10_works_147 (by decide)) ?_
      refine ax_j (ax_aload_n hV dX10_works_148 rfl) ?_
      refine ax_j (ax_gfr hV lf_X10_22 dX10_works_149 rfl rfl) ?_
      refine ax_j (ax_iload_n hV dX10_works_152 rfl) ?_
      refine ax_jb (ax_iald hV dX10_works_153) (fun v153 => ?_)
      refine ax_j (ax_iadd hV dX10_works_154) ?_
      refine ax_j (ax_aload_n hV dX10_works_155 rfl) ?_
      refine ax_j (ax_gfr hV lf_X10_31 dX10_works_156 rfl rfl) ?_
      refine ax_j (ax_iload_n hV dX10_works_159 rfl) ?_
      refine ax_jb (ax_iald hV dX10_works_160) (fun v160 => ?_)
      refine ax_jb (fun v ho => ax_cVv hV lk_X10_156 rfl dX10_works_161 rfl rfl [.int q144, .int ((1 : Int32) + v153), .int v160] [] (fun ad => [.ref (ad 0), .int q144, .int ((1 : Int32) + v153), .int v160]) rfl rfl rfl rfl v (T_X10_atMost q144 ((1 : Int32) + v153) v160 a.2 v ho)) (fun q161 => ?_)
      refine ax_j (ax_aload_n hV dX10_works_164 rfl) ?_
      refine ax_j (ax_iconst hV (1 : Int32) dX10_works_165 (by decide)) ?_
      refine ax_j (ax_aload_n hV dX10_works_166 rfl) ?_
      refine ax_j (ax_gfr hV lf_X10_22 dX10_works_167 rfl rfl) ?_
      refine ax_j (ax_iload_n hV dX10_works_170 rfl) ?_
      refine ax_jb (ax_iald hV dX10_works_171) (fun v171 => ?_)
      refine ax_j (ax_iadd hV dX10_works_172) ?_
      refine ax_j (ax_aload_n hV dX10_works_173 rfl) ?_
      refine ax_j (ax_iload_n hV dX10_works_174 rfl) ?_
      refine ax_jb (fun v ho => ax_cVi hV lk_X10_160 rfl dX10_works_175 rfl rfl [.int a.1] [.int ((1 : Int32) + v171), .ref (ax_ad (cx_R, X) 0)] (fun ad => [.ref (ad 0), .int a.1]) rfl rfl rfl rfl v q161 (T_X10_leansOn a.1 q161 v ho)) (fun q175 => ?_)
      refine ax_j (ax_aload_n hV dX10_works_178 rfl) ?_
      refine ax_j (ax_gfr hV lf_X10_28 dX10_works_179 rfl rfl) ?_
      refine ax_j (ax_iload_n hV dX10_works_182 rfl) ?_
      refine ax_jb (ax_iald hV dX10_works_183) (fun v183 => ?_)
      refine ax_j (ax_ineg hV dX10_works_184) ?_
      refine ax_jb (fun v ho => ax_cVv hV lk_X10_156 rfl dX10_works_185 rfl rfl [.int ((1 : Int32) + v171), .int q175, .int (-v183)] [] (fun ad => [.ref (ad 0), .int ((1 : Int32) + v171), .int q175, .int (-v183)]) rfl rfl rfl rfl v (T_X10_atMost ((1 : Int32) + v171) q175 (-v183) q161 v ho)) (fun q185 => ?_)
      refine ax_j (ax_iinc hV (a.1 + 1) [some (.ref (ax_ad (cx_R, X) 0)), some (.long l1), none, some (.int (a.1 + 1)), none, none, none] dX10_works_188 rfl rfl rfl rfl) ?_
      refine ax_j (ax_goto hV dX10_works_191) ?_
      exact ax_jl (fun h => hI ((a.1 + 1), q185) h)
    · refine ax_j (ax_iinc hV (a.1 + 1) [some (.ref (ax_ad (cx_R, X) 0)), some (.long l1), none, some (.int (a.1 + 1)), none, none, none] dX10_works_188 rfl rfl rfl rfl) ?_
      refine ax_j (ax_goto hV dX10_works_191) ?_
      exact ax_jl (fun h => hI ((a.1 + 1), a.2) h)
theorem N_X10_works_215_286 (X : ax_G × ax_K × Option Value × ax_S) (hV : ax_ok (cx_R, X) mu_X10_works) (l3 : Int32) (l4 : Int32) (P : ((Int32 × ax_S) ⊕ (ax_S)) → Prop) (hI : ∀ a : Int32 × ax_S, P (.inl a) → ax_At (cx_R, X) 215 [some (.ref (ax_ad (cx_R, X) 0)), none, none, some (.int l3), some (.int l4), some (.int a.1), none] [] a.2) (hO : ∀ e : ax_S, P (.inr e) → ax_At (cx_R, X) 343 [some (.ref (ax_ad (cx_R, X) 0)), none, none, some (.int l3), some (.int l4), none, none] [] e) (l5 : Int32) (k0 : Int32) (s : ax_S) : ax_J (cx_R, X) P 286 [some (.ref (ax_ad (cx_R, X) 0)), none, none, some (.int l3), some (.int l4), some (.int l5), none] [.int k0] s (j_X10_works_215_286 l3 l4 l5 k0 s) := by
  unfold j_X10_works_215_286
  refine ax_j (ax_istore hV [some (.ref (ax_ad (cx_R, X) 0)), none, none, some (.int l3), some (.int l4), some (.int l5), some (.int k0)] dX10_works_286 rfl rfl) ?_
  refine ax_j (ax_aload_n hV dX10_works_288 rfl) ?_
  refine ax_j (ax_gfr hV lf_X10_44 dX10_works_289 rfl rfl) ?_
  refine ax_j (ax_bipush hV (19 : Int32) dX10_works_292 (by decide)) ?_
  refine ax_j (ax_iload hV dX10_works_294 rfl) ?_
  refine ax_j (ax_imul hV dX10_works_296) ?_
  refine ax_j (ax_iload hV dX10_works_297 rfl) ?_
  refine ax_j (ax_iadd hV dX10_works_299) ?_
  refine ax_j (ax_iload hV dX10_works_300 rfl) ?_
  refine ax_j (ax_aload_n hV dX10_works_302 rfl) ?_
  refine ax_j (ax_gfr hV lf_X10_44 dX10_works_303 rfl rfl) ?_
  refine ax_j (ax_bipush hV (19 : Int32) dX10_works_306 (by decide)) ?_
  refine ax_j (ax_iload hV dX10_works_308 rfl) ?_
  refine ax_j (ax_imul hV dX10_works_310) ?_
  refine ax_j (ax_iload hV dX10_works_311 rfl) ?_
  refine ax_j (ax_iadd hV dX10_works_313) ?_
  refine ax_jb (ax_iald hV dX10_works_314) (fun v314 => ?_)
  refine ax_jif (ax_icmp_ge hV dX10_works_315) ?_ ?_
  · refine ax_j (ax_aload_n hV dX10_works_323 rfl) ?_
    refine ax_j (ax_gfr hV lf_X10_44 dX10_works_324 rfl rfl) ?_
    refine ax_j (ax_bipush hV (19 : Int32) dX10_works_327 (by decide)) ?_
    refine ax_j (ax_iload hV dX10_works_329 rfl) ?_
    refine ax_j (ax_imul hV dX10_works_331) ?_
    refine ax_j (ax_iload hV dX10_works_332 rfl) ?_
    refine ax_j (ax_iadd hV dX10_works_334) ?_
    refine ax_jb (ax_iald hV dX10_works_335) (fun v335 => ?_)
    refine ax_jb (ax_iast hV dX10_works_336) (fun s336 => ?_)
    refine ax_j (ax_iinc hV (l5 + 1) [some (.ref (ax_ad (cx_R, X) 0)), none, none, some (.int l3), some (.int l4), some (.int (l5 + 1)), some (.int k0)] dX10_works_337 rfl rfl rfl rfl) ?_
    refine ax_j (ax_goto hV dX10_works_340) ?_
    refine ax_jf (lv' := [some (.ref (ax_ad (cx_R, X) 0)), none, none, some (.int l3), some (.int l4), some (.int (l5 + 1)), none]) [true, false, false, true, true, true, false] rfl ?_
    exact ax_jl (fun h => hI ((l5 + 1), s336) h)
  · refine ax_j (ax_iload hV dX10_works_318 rfl) ?_
    refine ax_j (ax_goto hV dX10_works_320) ?_
    refine ax_jb (ax_iast hV dX10_works_336) (fun s336 => ?_)
    refine ax_j (ax_iinc hV (l5 + 1) [some (.ref (ax_ad (cx_R, X) 0)), none, none, some (.int l3), some (.int l4), some (.int (l5 + 1)), some (.int k0)] dX10_works_337 rfl rfl rfl rfl) ?_
    refine ax_j (ax_goto hV dX10_works_340) ?_
    refine ax_jf (lv' := [some (.ref (ax_ad (cx_R, X) 0)), none, none, some (.int l3), some (.int l4), some (.int (l5 + 1)), none]) [true, false, false, true, true, true, false] rfl ?_
    exact ax_jl (fun h => hI ((l5 + 1), s336) h)
theorem B_X10_works_215 (X : ax_G × ax_K × Option Value × ax_S) (hV : ax_ok (cx_R, X) mu_X10_works) (l3 : Int32) (l4 : Int32) (P : ((Int32 × ax_S) ⊕ (ax_S)) → Prop) (hI : ∀ a : Int32 × ax_S, P (.inl a) → ax_At (cx_R, X) 215 [some (.ref (ax_ad (cx_R, X) 0)), none, none, some (.int l3), some (.int l4), some (.int a.1), none] [] a.2) (hO : ∀ e : ax_S, P (.inr e) → ax_At (cx_R, X) 343 [some (.ref (ax_ad (cx_R, X) 0)), none, none, some (.int l3), some (.int l4), none, none] [] e) (a : Int32 × ax_S) : ax_J (cx_R, X) P 215 [some (.ref (ax_ad (cx_R, X) 0)), none, none, some (.int l3), some (.int l4), some (.int a.1), none] [] a.2 (b_X10_works_215 l3 l4 a) := by
  unfold b_X10_works_215
  refine ax_j (ax_iload hV dX10_works_215 rfl) ?_
  refine ax_j (ax_bipush hV (19 : Int32) dX10_works_217 (by decide)) ?_
  refine ax_jif (ax_icmp_ge hV dX10_works_219) ?_ ?_
  · refine ax_jf (lv' := [some (.ref (ax_ad (cx_R, X) 0)), none, none, some (.int l3), some (.int l4), none, none]) [true, false, false, true, true, false, false] rfl ?_
    exact ax_jl (fun h => hO a.2 h)
  · refine ax_j (ax_aload_n hV dX10_works_222 rfl) ?_
    refine ax_j (ax_gfr hV lf_X10_44 dX10_works_223 rfl rfl) ?_
    refine ax_j (ax_bipush hV (19 : Int32) dX10_works_226 (by decide)) ?_
    refine ax_j (ax_iload hV dX10_works_228 rfl) ?_
    refine ax_j (ax_imul hV dX10_works_230) ?_
    refine ax_j (ax_iload_n hV dX10_works_231 rfl) ?_
    refine ax_j (ax_iadd hV dX10_works_232) ?_
    refine ax_jb (ax_iald hV dX10_works_233) (fun v233 => ?_)
    refine ax_j (ax_ldc hV kc_X10_155 dX10_works_234) ?_
    refine ax_jif (ax_icmp_ge hV dX10_works_236) ?_ ?_
    · refine ax_jf (lv' := [some (.ref (ax_ad (cx_R, X) 0)), none, none, some (.int l3), some (.int l4), none, none]) [true, false, false, true, true, false, false] rfl ?_
      exact ax_jl (fun h => hO a.2 h)
    · refine ax_j (ax_aload_n hV dX10_works_239 rfl) ?_
      refine ax_j (ax_gfr hV lf_X10_44 dX10_works_240 rfl rfl) ?_
      refine ax_j (ax_bipush hV (19 : Int32) dX10_works_243 (by decide)) ?_
      refine ax_j (ax_iload_n hV dX10_works_245 rfl) ?_
      refine ax_j (ax_imul hV dX10_works_246) ?_
      refine ax_j (ax_iload hV dX10_works_247 rfl) ?_
      refine ax_j (ax_iadd hV dX10_works_249) ?_
      refine ax_jb (ax_iald hV dX10_works_250) (fun v250 => ?_)
      refine ax_j (ax_ldc hV kc_X10_155 dX10_works_251) ?_
      refine ax_jif (ax_icmp_ge hV dX10_works_253) ?_ ?_
      · refine ax_j (ax_ldc hV kc_X10_155 dX10_works_284) ?_
        exact N_X10_works_215_286 X hV l3 l4 P hI hO a.1 (100000000 : Int32) a.2
      · refine ax_j (ax_aload_n hV dX10_works_256 rfl) ?_
        refine ax_j (ax_gfr hV lf_X10_44 dX10_works_257 rfl rfl) ?_
        refine ax_j (ax_bipush hV (19 : Int32) dX10_works_260 (by decide)) ?_
        refine ax_j (ax_iload hV dX10_works_262 rfl) ?_
        refine ax_j (ax_imul hV dX10_works_264) ?_
        refine ax_j (ax_iload_n hV dX10_works_265 rfl) ?_
        refine ax_j (ax_iadd hV dX10_works_266) ?_
        refine ax_jb (ax_iald hV dX10_works_267) (fun v267 => ?_)
        refine ax_j (ax_aload_n hV dX10_works_268 rfl) ?_
        refine ax_j (ax_gfr hV lf_X10_44 dX10_works_269 rfl rfl) ?_
        refine ax_j (ax_bipush hV (19 : Int32) dX10_works_272 (by decide)) ?_
        refine ax_j (ax_iload_n hV dX10_works_274 rfl) ?_
        refine ax_j (ax_imul hV dX10_works_275) ?_
        refine ax_j (ax_iload hV dX10_works_276 rfl) ?_
        refine ax_j (ax_iadd hV dX10_works_278) ?_
        refine ax_jb (ax_iald hV dX10_works_279) (fun v279 => ?_)
        refine ax_j (ax_iadd hV dX10_works_280) ?_
        refine ax_j (ax_goto hV dX10_works_281) ?_
        exact N_X10_works_215_286 X hV l3 l4 P hI hO a.1 (v267 + v279) a.2
theorem B_X10_works_205 (X : ax_G × ax_K × Option Value × ax_S) (hV : ax_ok (cx_R, X) mu_X10_works) (l3 : Int32) (P : ((Int32 × ax_S) ⊕ (ax_S)) → Prop) (hI : ∀ a : Int32 × ax_S, P (.inl a) → ax_At (cx_R, X) 205 [some (.ref (ax_ad (cx_R, X) 0)), none, none, some (.int l3), some (.int a.1), none, none] [] a.2) (hO : ∀ e : ax_S, P (.inr e) → ax_At (cx_R, X) 349 [some (.ref (ax_ad (cx_R, X) 0)), none, none, some (.int l3), none, none, none] [] e) (a : Int32 × ax_S) : ax_J (cx_R, X) P 205 [some (.ref (ax_ad (cx_R, X) 0)), none, none, some (.int l3), some (.int a.1), none, none] [] a.2 (b_X10_works_205 l3 a) := by
  unfold b_X10_works_205
  refine ax_j (ax_iload hV dX10_works_205 rfl) ?_
  refine ax_j (ax_bipush hV (19 : Int32) dX10_works_207 (by decide)) ?_
  refine ax_jif (ax_icmp_ge hV dX10_works_209) ?_ ?_
  · refine ax_jf (lv' := [some (.ref (ax_ad (cx_R, X) 0)), none, none, some (.int l3), none, none, none]) [true, false, false, true, false, false, false] rfl ?_
    exact ax_jl (fun h => hO a.2 h)
  · refine ax_j (ax_iconst hV (0 : Int32) dX10_works_212 (by decide)) ?_
    refine ax_j (ax_istore hV [some (.ref (ax_ad (cx_R, X) 0)), none, none, some (.int l3), some (.int a.1), some (.int (0 : Int32)), none] dX10_works_213 rfl rfl) ?_
    refine ax_jlp ((0 : Int32), a.2) (fun x215 : Int32 × ax_S => [some (.ref (ax_ad (cx_R, X) 0)), none, none, some (.int l3), some (.int a.1), some (.int x215.1), none]) (fun x215 : Int32 × ax_S => x215.2) (fun y215 : ax_S => [some (.ref (ax_ad (cx_R, X) 0)), none, none, some (.int l3), some (.int a.1), none, none]) (fun y215 : ax_S => y215) (fun P' h1 h2 w => B_X10_works_215 X hV l3 a.1 P' h1 h2 w) (fun e215 => ?_)
    refine ax_j (ax_iinc hV (a.1 + 1) [some (.ref (ax_ad (cx_R, X) 0)), none, none, some (.int l3), some (.int (a.1 + 1)), none, none] dX10_works_343 rfl rfl rfl rfl) ?_
    refine ax_j (ax_goto hV dX10_works_346) ?_
    exact ax_jl (fun h => hI ((a.1 + 1), e215) h)
theorem B_X10_works_352 (X : ax_G × ax_K × Option Value × ax_S) (hV : ax_ok (cx_R, X) mu_X10_works) (l3 : Int32) (s : ax_S) (P : ((Int32) ⊕ ((Unit) ⊕ (Int32 × ax_S))) → Prop) (hI : ∀ a : Int32, P (.inl a) → ax_At (cx_R, X) 352 [some (.ref (ax_ad (cx_R, X) 0)), none, none, some (.int l3), some (.int a), none, none] [] s) (hO : ∀ e : Unit, P (.inr (.inl e)) → ax_At (cx_R, X) 380 [some (.ref (ax_ad (cx_R, X) 0)), none, none, some (.int l3), none, none, none] [] s) (hR : ∀ r : Int32 × ax_S, P (.inr (.inr r)) → X.2.2 = (fun r : Int32 × ax_S => (some (Value.int r.1), r.2)) r) (a : Int32) : ax_J (cx_R, X) P 352 [some (.ref (ax_ad (cx_R, X) 0)), none, none, some (.int l3), some (.int a), none, none] [] s (b_X10_works_352 l3 s a) := by
  unfold b_X10_works_352
  refine ax_j (ax_iload hV dX10_works_352 rfl) ?_
  refine ax_j (ax_bipush hV (19 : Int32) dX10_works_354 (by decide)) ?_
  refine ax_jif (ax_icmp_ge hV dX10_works_356) ?_ ?_
  · refine ax_jf (lv' := [some (.ref (ax_ad (cx_R, X) 0)), none, none, some (.int l3), none, none, none]) [true, false, false, true, false, false, false] rfl ?_
    exact ax_jl (fun h => hO () h)
  · refine ax_j (ax_aload_n hV dX10_works_359 rfl) ?_
    refine ax_j (ax_gfr hV lf_X10_44 dX10_works_360 rfl rfl) ?_
    refine ax_j (ax_bipush hV (20 : Int32) dX10_works_363 (by decide)) ?_
    refine ax_j (ax_iload hV dX10_works_365 rfl) ?_
    refine ax_j (ax_imul hV dX10_works_367) ?_
    refine ax_jb (ax_iald hV dX10_works_368) (fun v368 => ?_)
    refine ax_jif (ax_if_ge hV dX10_works_369) ?_ ?_
    · refine ax_j (ax_iinc hV (a + 1) [some (.ref (ax_ad (cx_R, X) 0)), none, none, some (.int l3), some (.int (a + 1)), none, none] dX10_works_374 rfl rfl rfl rfl) ?_
      refine ax_j (ax_goto hV dX10_works_377) ?_
      exact ax_jl (fun h => hI (a + 1) h)
    · refine ax_j (ax_iconst hV (0 : Int32) dX10_works_372 (by decide)) ?_
      exact ax_jl (fun h => ax_zr hV rfl (by decide) dX10_works_373 (hR ((0 : Int32), s) h))
theorem B_X10_works_196 (X : ax_G × ax_K × Option Value × ax_S) (hV : ax_ok (cx_R, X) mu_X10_works)  (P : ((Int32 × ax_S) ⊕ ((ax_S) ⊕ (Int32 × ax_S))) → Prop) (hI : ∀ a : Int32 × ax_S, P (.inl a) → ax_At (cx_R, X) 196 [some (.ref (ax_ad (cx_R, X) 0)), none, none, some (.int a.1), none, none, none] [] a.2) (hO : ∀ e : ax_S, P (.inr (.inl e)) → ax_At (cx_R, X) 386 [none, none, none, none, none, none, none] [] e) (hR : ∀ r : Int32 × ax_S, P (.inr (.inr r)) → X.2.2 = (fun r : Int32 × ax_S => (some (Value.int r.1), r.2)) r) (a : Int32 × ax_S) : ax_J (cx_R, X) P 196 [some (.ref (ax_ad (cx_R, X) 0)), none, none, some (.int a.1), none, none, none] [] a.2 (b_X10_works_196 a) := by
  unfold b_X10_works_196
  refine ax_j (ax_iload_n hV dX10_works_196 rfl) ?_
  refine ax_j (ax_bipush hV (19 : Int32) dX10_works_197 (by decide)) ?_
  refine ax_jif (ax_icmp_ge hV dX10_works_199) ?_ ?_
  · refine ax_jf (lv' := [none, none, none, none, none, none, none]) [false, false, false, false, false, false, false] rfl ?_
    exact ax_jl (fun h => hO a.2 h)
  · refine ax_j (ax_iconst hV (0 : Int32) dX10_works_202 (by decide)) ?_
    refine ax_j (ax_istore hV [some (.ref (ax_ad (cx_R, X) 0)), none, none, some (.int a.1), some (.int (0 : Int32)), none, none] dX10_works_203 rfl rfl) ?_
    refine ax_jlp ((0 : Int32), a.2) (fun x205 : Int32 × ax_S => [some (.ref (ax_ad (cx_R, X) 0)), none, none, some (.int a.1), some (.int x205.1), none, none]) (fun x205 : Int32 × ax_S => x205.2) (fun y205 : ax_S => [some (.ref (ax_ad (cx_R, X) 0)), none, none, some (.int a.1), none, none, none]) (fun y205 : ax_S => y205) (fun P' h1 h2 w => B_X10_works_205 X hV a.1 P' h1 h2 w) (fun e205 => ?_)
    refine ax_j (ax_iconst hV (0 : Int32) dX10_works_349 (by decide)) ?_
    refine ax_j (ax_istore hV [some (.ref (ax_ad (cx_R, X) 0)), none, none, some (.int a.1), some (.int (0 : Int32)), none, none] dX10_works_350 rfl rfl) ?_
    refine ax_jlr (0 : Int32) (fun x352 : Int32 => [some (.ref (ax_ad (cx_R, X) 0)), none, none, some (.int a.1), some (.int x352), none, none]) (fun x352 : Int32 => e205) (fun y352 : Unit => [some (.ref (ax_ad (cx_R, X) 0)), none, none, some (.int a.1), none, none, none]) (fun y352 : Unit => e205) (fun P' h1 h2 h3 w => B_X10_works_352 X hV a.1 e205 P' h1 h2 (fun r h => hR r (h3 r h)) w) (fun e352 => ?_)
    refine ax_j (ax_iinc hV (a.1 + 1) [some (.ref (ax_ad (cx_R, X) 0)), none, none, some (.int (a.1 + 1)), none, none, none] dX10_works_380 rfl rfl rfl rfl) ?_
    refine ax_j (ax_goto hV dX10_works_383) ?_
    exact ax_jl (fun h => hI ((a.1 + 1), e205) h)
theorem T_X10_works (p1 : Int64) (s : ax_S) (r : Int32 × ax_S) (h : f_X10_works p1 s = some r) : ax_M cx_R mu_X10_works (fun ad => [.ref (ad 0), .long p1]) s (some (.int r.1)) r.2 := by
  refine ax_enter (by decide +kernel) 4 (fun ad => [some (.ref (ad 0)), some (.long p1), none, none, none, none, none]) (fun ad => rfl) (fun ad => Nat.le_of_ble_eq_true rfl) (fun X hV ho => ?_)
  refine ax_go (fun r : Int32 × ax_S => (some (Value.int r.1), r.2)) (fun P hP => ?_) h ho
  unfold f_X10_works
  refine ax_j (ax_iconst hV (0 : Int32) dX10_works_0 (by decide)) ?_
  refine ax_j (ax_istore_n hV [some (.ref (ax_ad (cx_R, X) 0)), some (.long p1), none, some (.int (0 : Int32)), none, none, none] dX10_works_1 rfl rfl) ?_
  refine ax_jlp ((0 : Int32), s) (fun x2 : Int32 × ax_S => [some (.ref (ax_ad (cx_R, X) 0)), some (.long p1), none, some (.int x2.1), none, none, none]) (fun x2 : Int32 × ax_S => x2.2) (fun y2 : ax_S => [some (.ref (ax_ad (cx_R, X) 0)), some (.long p1), none, none, none, none, none]) (fun y2 : ax_S => y2) (fun P' h1 h2 w => B_X10_works_2 X hV p1 P' h1 h2 w) (fun e2 => ?_)
  refine ax_j (ax_iconst hV (0 : Int32) dX10_works_38 (by decide)) ?_
  refine ax_j (ax_istore_n hV [some (.ref (ax_ad (cx_R, X) 0)), some (.long p1), none, some (.int (0 : Int32)), none, none, none] dX10_works_39 rfl rfl) ?_
  refine ax_jlp ((0 : Int32), e2) (fun x40 : Int32 × ax_S => [some (.ref (ax_ad (cx_R, X) 0)), some (.long p1), none, some (.int x40.1), none, none, none]) (fun x40 : Int32 × ax_S => x40.2) (fun y40 : ax_S => [some (.ref (ax_ad (cx_R, X) 0)), some (.long p1), none, none, none, none, none]) (fun y40 : ax_S => y40) (fun P' h1 h2 w => B_X10_works_40 X hV p1 P' h1 h2 w) (fun e40 => ?_)
  refine ax_j (ax_iconst hV (0 : Int32) dX10_works_74 (by decide)) ?_
  refine ax_j (ax_istore_n hV [some (.ref (ax_ad (cx_R, X) 0)), some (.long p1), none, some (.int (0 : Int32)), none, none, none] dX10_works_75 rfl rfl) ?_
  refine ax_jlp ((0 : Int32), e40) (fun x76 : Int32 × ax_S => [some (.ref (ax_ad (cx_R, X) 0)), some (.long p1), none, some (.int x76.1), none, none, none]) (fun x76 : Int32 × ax_S => x76.2) (fun y76 : ax_S => [some (.ref (ax_ad (cx_R, X) 0)), some (.long p1), none, none, none, none, none]) (fun y76 : ax_S => y76) (fun P' h1 h2 w => B_X10_works_76 X hV p1 P' h1 h2 w) (fun e76 => ?_)
  refine ax_j (ax_iconst hV (0 : Int32) dX10_works_121 (by decide)) ?_
  refine ax_j (ax_istore_n hV [some (.ref (ax_ad (cx_R, X) 0)), some (.long p1), none, some (.int (0 : Int32)), none, none, none] dX10_works_122 rfl rfl) ?_
  refine ax_jlp ((0 : Int32), e76) (fun x123 : Int32 × ax_S => [some (.ref (ax_ad (cx_R, X) 0)), some (.long p1), none, some (.int x123.1), none, none, none]) (fun x123 : Int32 × ax_S => x123.2) (fun y123 : ax_S => [some (.ref (ax_ad (cx_R, X) 0)), none, none, none, none, none, none]) (fun y123 : ax_S => y123) (fun P' h1 h2 w => B_X10_works_123 X hV p1 P' h1 h2 w) (fun e123 => ?_)
  refine ax_j (ax_iconst hV (0 : Int32) dX10_works_194 (by decide)) ?_
  refine ax_j (ax_istore_n hV [some (.ref (ax_ad (cx_R, X) 0)), none, none, some (.int (0 : Int32)), none, none, none] dX10_works_195 rfl rfl) ?_
  refine ax_jlr ((0 : Int32), e123) (fun x196 : Int32 × ax_S => [some (.ref (ax_ad (cx_R, X) 0)), none, none, some (.int x196.1), none, none, none]) (fun x196 : Int32 × ax_S => x196.2) (fun y196 : ax_S => [none, none, none, none, none, none, none]) (fun y196 : ax_S => y196) (fun P' h1 h2 h3 w => B_X10_works_196 X hV  P' h1 h2 (fun r h => hP r (h3 r h)) w) (fun e196 => ?_)
  refine ax_j (ax_iconst hV (1 : Int32) dX10_works_386 (by decide)) ?_
  exact ax_jl (fun h => ax_zr hV rfl (by decide) dX10_works_387 (hP ((1 : Int32), e196) h))
theorem lk_X10_169 : ax_lkV RX10 169 mu_X10_works RX10 1 := ax_lkV_of (ax_m5 158 rfl rfl) (ax_m5 160 rfl rfl) (ax_mp4 1 rfl rfl rfl) (ax_m1 10 rfl rfl) lc_X10_works rfl ⟨by decide +kernel, by decide +kernel, by decide +kernel⟩
def mu_X10_can : ax_Mu := (yX10_can, cX10_can, 3, some .int, 3, 66)
theorem lc_X10_can : Cond.code mu_X10_can.1 mu_X10_can.2.1 mu_X10_can.2.2.1 mu_X10_can.2.2.2.1 ∈ ax_tb := (ax_m5 148 rfl rfl)
noncomputable def f_X10_can (p1 : Int64) (s : ax_S) : Option (Int32 × ax_S) := (if (lg_cmp p1 (0 : Int64)) < 0 then some (((-2 : Int32), s)) else (if (lg_cmp p1 (ax_lshl (1 : Int64) (s.1 0 6))) < 0 then (f_X10_knownNow s).bind (fun q22 => (if (lg_cmp (p1 &&& (q22 ^^^ (-1 : Int64))) (0 : Int64)) = 0 then (f_X10_works p1 s).bind (fun q40 => (if q40.1 = 0 then some (((0 : Int32), q40.2)) else some (((1 : Int32), q40.2)))) else some (((-3 : Int32), s)))) else some (((-2 : Int32), s))))
theorem T_X10_can (p1 : Int64) (s : ax_S) (r : Int32 × ax_S) (h : f_X10_can p1 s = some r) : ax_M cx_R mu_X10_can (fun ad => [.ref (ad 0), .long p1]) s (some (.int r.1)) r.2 := by
  refine ax_enter (by decide +kernel) 0 (fun ad => [some (.ref (ad 0)), some (.long p1), none]) (fun ad => rfl) (fun ad => Nat.le_of_ble_eq_true rfl) (fun X hV ho => ?_)
  refine ax_go (fun r : Int32 × ax_S => (some (Value.int r.1), r.2)) (fun P hP => ?_) h ho
  unfold f_X10_can
  refine ax_j (ax_lload_n hV dX10_can_0 rfl) ?_
  refine ax_j (ax_lconst hV (0 : Int64) dX10_can_1 (by decide)) ?_
  refine ax_j (ax_lcmp hV dX10_can_2) ?_
  refine ax_jif (ax_if_lt hV dX10_can_3) ?_ ?_
  · refine ax_j (ax_bipush hV (-2 : Int32) dX10_can_17 (by decide)) ?_
    exact ax_jl (fun h => ax_ir hV rfl dX10_can_19 (hP ((-2 : Int32), s) h))
  · refine ax_j (ax_lload_n hV dX10_can_6 rfl) ?_
    refine ax_j (ax_lconst hV (1 : Int64) dX10_can_7 (by decide)) ?_
    refine ax_j (ax_aload_n hV dX10_can_8 rfl) ?_
    refine ax_j (ax_gfi hV lf_X10_111 dX10_can_9 rfl rfl) ?_
    refine ax_j (ax_lshl_ hV dX10_can_12) ?_
    refine ax_j (ax_lcmp hV dX10_can_13) ?_
    refine ax_jif (ax_if_lt hV dX10_can_14) ?_ ?_
    · refine ax_j (ax_lload_n hV dX10_can_20 rfl) ?_
      refine ax_j (ax_aload_n hV dX10_can_21 rfl) ?_
      refine ax_jb (fun v ho => ax_cVl hV lk_X10_163 rfl dX10_can_22 rfl rfl [] [.long p1] (fun ad => [.ref (ad 0)]) rfl rfl rfl rfl v s (T_X10_knownNow s v ho)) (fun q22 => ?_)
      refine ax_j (ax_ldc2 hV kc_X10_167 dX10_can_25) ?_
      refine ax_j (ax_lxor hV dX10_can_28) ?_
      refine ax_j (ax_land hV dX10_can_29) ?_
      refine ax_j (ax_lconst hV (0 : Int64) dX10_can_30 (by decide)) ?_
      refine ax_j (ax_lcmp hV dX10_can_31) ?_
      refine ax_jif (ax_if_eq hV dX10_can_32) ?_ ?_
      · refine ax_j (ax_aload_n hV dX10_can_38 rfl) ?_
        refine ax_j (ax_lload_n hV dX10_can_39 rfl) ?_
        refine ax_jb (fun v ho => ax_cVi hV lk_X10_169 rfl dX10_can_40 rfl rfl [.long p1] [] (fun ad => [.ref (ad 0), .long p1]) rfl rfl rfl rfl v.1 v.2 (T_X10_works p1 s v ho)) (fun q40 => ?_)
        refine ax_jif (ax_if_eq hV dX10_can_43) ?_ ?_
        · refine ax_j (ax_iconst hV (0 : Int32) dX10_can_50 (by decide)) ?_
          exact ax_jl (fun h => ax_ir hV rfl dX10_can_51 (hP ((0 : Int32), q40.2) h))
        · refine ax_j (ax_iconst hV (1 : Int32) dX10_can_46 (by decide)) ?_
          refine ax_j (ax_goto hV dX10_can_47) ?_
          exact ax_jl (fun h => ax_ir hV rfl dX10_can_51 (hP ((1 : Int32), q40.2) h))
      · refine ax_j (ax_bipush hV (-3 : Int32) dX10_can_35 (by decide)) ?_
        exact ax_jl (fun h => ax_ir hV rfl dX10_can_37 (hP ((-3 : Int32), s) h))
    · refine ax_j (ax_bipush hV (-2 : Int32) dX10_can_17 (by decide)) ?_
      exact ax_jl (fun h => ax_ir hV rfl dX10_can_19 (hP ((-2 : Int32), s) h))
def mu_X10_canAll : ax_Mu := (yX10_canAll, cX10_canAll, 1, some .boolean, 3, 66)
theorem lc_X10_canAll : Cond.code mu_X10_canAll.1 mu_X10_canAll.2.1 mu_X10_canAll.2.2.1 mu_X10_canAll.2.2.2.1 ∈ ax_tb := (ax_m5 178 rfl rfl)
noncomputable def f_X10_canAll  (s : ax_S) : Option (Int32 × ax_S) := (f_X10_knownNow s).bind (fun q2 => (f_X10_works q2 s).bind (fun q5 => (ax_zb q5.1).bind (fun z => some ((z, q5.2)))))
theorem T_X10_canAll  (s : ax_S) (r : Int32 × ax_S) (h : f_X10_canAll s = some r) : ax_M cx_R mu_X10_canAll (fun ad => [.ref (ad 0)]) s (some (.int r.1)) r.2 := by
  refine ax_enter (by decide +kernel) 0 (fun ad => [some (.ref (ad 0))]) (fun ad => rfl) (fun ad => Nat.le_of_ble_eq_true rfl) (fun X hV ho => ?_)
  refine ax_go (fun r : Int32 × ax_S => (some (Value.int r.1), r.2)) (fun P hP => ?_) h ho
  unfold f_X10_canAll
  refine ax_j (ax_aload_n hV dX10_canAll_0 rfl) ?_
  refine ax_j (ax_aload_n hV dX10_canAll_1 rfl) ?_
  refine ax_jb (fun v ho => ax_cVl hV lk_X10_163 rfl dX10_canAll_2 rfl rfl [] [.ref (ax_ad (cx_R, X) 0)] (fun ad => [.ref (ad 0)]) rfl rfl rfl rfl v s (T_X10_knownNow s v ho)) (fun q2 => ?_)
  refine ax_jb (fun v ho => ax_cVi hV lk_X10_169 rfl dX10_canAll_5 rfl rfl [.long q2] [] (fun ad => [.ref (ad 0), .long q2]) rfl rfl rfl rfl v.1 v.2 (T_X10_works q2 s v ho)) (fun q5 => ?_)
  exact ax_jz (fun v hz h => ax_zr2 hV rfl dX10_canAll_8 v hz (hP (v, q5.2) h))
theorem lk_X10_173 : ax_lkV RX10 173 mu_X10_canAll RX10 0 := ax_lkV_of (ax_m5 175 rfl rfl) (ax_m5 177 rfl rfl) (ax_mp4 4 rfl rfl rfl) (ax_m1 10 rfl rfl) lc_X10_canAll rfl ⟨by decide +kernel, by decide +kernel, by decide +kernel⟩
def mu_X10_all : ax_Mu := (yX10_all, cX10_all, 1, some .int, 4, 86)
theorem lc_X10_all : Cond.code mu_X10_all.1 mu_X10_all.2.1 mu_X10_all.2.2.1 mu_X10_all.2.2.2.1 ∈ ax_tb := (ax_m5 174 rfl rfl)
noncomputable def f_X10_all  (s : ax_S) : Option (Int32 × ax_S) := (f_X10_canAll s).bind (fun q1 => (if q1.1 = 0 then some (((0 : Int32), q1.2)) else some (((1 : Int32), q1.2))))
theorem T_X10_all  (s : ax_S) (r : Int32 × ax_S) (h : f_X10_all s = some r) : ax_M cx_R mu_X10_all (fun ad => [.ref (ad 0)]) s (some (.int r.1)) r.2 := by
  refine ax_enter (by decide +kernel) 0 (fun ad => [some (.ref (ad 0))]) (fun ad => rfl) (fun ad => Nat.le_of_ble_eq_true rfl) (fun X hV ho => ?_)
  refine ax_go (fun r : Int32 × ax_S => (some (Value.int r.1), r.2)) (fun P hP => ?_) h ho
  unfold f_X10_all
  refine ax_j (ax_aload_n hV dX10_all_0 rfl) ?_
  refine ax_jb (fun v ho => ax_cVi hV lk_X10_173 rfl dX10_all_1 rfl rfl [] [] (fun ad => [.ref (ad 0)]) rfl rfl rfl rfl v.1 v.2 (T_X10_canAll s v ho)) (fun q1 => ?_)
  refine ax_jif (ax_if_eq hV dX10_all_4) ?_ ?_
  · refine ax_j (ax_iconst hV (0 : Int32) dX10_all_11 (by decide)) ?_
    exact ax_jl (fun h => ax_ir hV rfl dX10_all_12 (hP ((0 : Int32), q1.2) h))
  · refine ax_j (ax_iconst hV (1 : Int32) dX10_all_7 (by decide)) ?_
    refine ax_j (ax_goto hV dX10_all_8) ?_
    exact ax_jl (fun h => ax_ir hV rfl dX10_all_12 (hP ((1 : Int32), q1.2) h))
def mu_X10_endOf : ax_Mu := (yX10_endOf, cX10_endOf, 3, some .int, 0, 0)
theorem lc_X10_endOf : Cond.code mu_X10_endOf.1 mu_X10_endOf.2.1 mu_X10_endOf.2.2.1 mu_X10_endOf.2.2.2.1 ∈ ax_tb := (ax_m5 186 rfl rfl)
noncomputable def f_X10_endOf (p1 : Int32) (p2 : Int32) (s : ax_S) : Option (Int32) := (if p2 = 0 then (ax_ai cx_R s 11 ((19 : Int32) * ((1 : Int32) + p1))).bind (fun v14 => some ((-v14))) else (ax_ai cx_R s 11 ((1 : Int32) + p1)).bind (fun v26 => some (v26)))
theorem T_X10_endOf (p1 : Int32) (p2 : Int32) (s : ax_S) (r : Int32) (h : f_X10_endOf p1 p2 s = some r) : ax_M cx_R mu_X10_endOf (fun ad => [.ref (ad 0), .int p1, .int p2]) s (some (.int r)) s := by
  refine ax_enter (by decide +kernel) 0 (fun ad => [some (.ref (ad 0)), some (.int p1), some (.int p2)]) (fun ad => rfl) (fun ad => Nat.le_of_ble_eq_true rfl) (fun X hV ho => ?_)
  refine ax_go (fun r : Int32 => (some (Value.int r), s)) (fun P hP => ?_) h ho
  unfold f_X10_endOf
  refine ax_j (ax_iload_n hV dX10_endOf_0 rfl) ?_
  refine ax_jif (ax_if_ne hV dX10_endOf_1) ?_ ?_
  · refine ax_j (ax_aload_n hV dX10_endOf_4 rfl) ?_
    refine ax_j (ax_gfr hV lf_X10_44 dX10_endOf_5 rfl rfl) ?_
    refine ax_j (ax_bipush hV (19 : Int32) dX10_endOf_8 (by decide)) ?_
    refine ax_j (ax_iconst hV (1 : Int32) dX10_endOf_10 (by decide)) ?_
    refine ax_j (ax_iload_n hV dX10_endOf_11 rfl) ?_
    refine ax_j (ax_iadd hV dX10_endOf_12) ?_
    refine ax_j (ax_imul hV dX10_endOf_13) ?_
    refine ax_jb (ax_iald hV dX10_endOf_14) (fun v14 => ?_)
    refine ax_j (ax_ineg hV dX10_endOf_15) ?_
    refine ax_j (ax_goto hV dX10_endOf_16) ?_
    exact ax_jl (fun h => ax_ir hV rfl dX10_endOf_27 (hP (-v14) h))
  · refine ax_j (ax_aload_n hV dX10_endOf_19 rfl) ?_
    refine ax_j (ax_gfr hV lf_X10_44 dX10_endOf_20 rfl rfl) ?_
    refine ax_j (ax_iconst hV (1 : Int32) dX10_endOf_23 (by decide)) ?_
    refine ax_j (ax_iload_n hV dX10_endOf_24 rfl) ?_
    refine ax_j (ax_iadd hV dX10_endOf_25) ?_
    refine ax_jb (ax_iald hV dX10_endOf_26) (fun v26 => ?_)
    exact ax_jl (fun h => ax_ir hV rfl dX10_endOf_27 (hP v26 h))
theorem lk_X10_177 : ax_lkV RX10 177 mu_X10_endOf RX10 2 := ax_lkV_of (ax_m5 183 rfl rfl) (ax_m5 185 rfl rfl) (ax_mp4 5 rfl rfl rfl) (ax_m1 10 rfl rfl) lc_X10_endOf rfl ⟨by decide +kernel, by decide +kernel, by decide +kernel⟩
def mu_X10_span : ax_Mu := (yX10_span, cX10_span, 3, some .int, 4, 86)
theorem lc_X10_span : Cond.code mu_X10_span.1 mu_X10_span.2.1 mu_X10_span.2.2.1 mu_X10_span.2.2.2.1 ∈ ax_tb := (ax_m5 182 rfl rfl)
noncomputable def f_X10_span (p1 : Int32) (p2 : Int32) (s : ax_S) : Option (Int32 × ax_S) := (f_X10_isThing p1 s).bind (fun q2 => (if q2 = 0 then some (((-300000 : Int32), s)) else (f_X10_in p2 (0 : Int32) (1 : Int32)).bind (fun q11 => (if q11 = 0 then some (((-300000 : Int32), s)) else (f_X10_canAll s).bind (fun q21 => (if q21.1 = 0 then some (((-300001 : Int32), q21.2)) else (f_X10_endOf p1 p2 q21.2).bind (fun q30 => some ((q30, q21.2)))))))))
theorem T_X10_span (p1 : Int32) (p2 : Int32) (s : ax_S) (r : Int32 × ax_S) (h : f_X10_span p1 p2 s = some r) : ax_M cx_R mu_X10_span (fun ad => [.ref (ad 0), .int p1, .int p2]) s (some (.int r.1)) r.2 := by
  refine ax_enter (by decide +kernel) 0 (fun ad => [some (.ref (ad 0)), some (.int p1), some (.int p2)]) (fun ad => rfl) (fun ad => Nat.le_of_ble_eq_true rfl) (fun X hV ho => ?_)
  refine ax_go (fun r : Int32 × ax_S => (some (Value.int r.1), r.2)) (fun P hP => ?_) h ho
  unfold f_X10_span
  refine ax_j (ax_aload_n hV dX10_span_0 rfl) ?_
  refine ax_j (ax_iload_n hV dX10_span_1 rfl) ?_
  refine ax_jb (fun v ho => ax_cVi hV lk_X10_122 rfl dX10_span_2 rfl rfl [.int p1] [] (fun ad => [.ref (ad 0), .int p1]) rfl rfl rfl rfl v s (T_X10_isThing p1 s v ho)) (fun q2 => ?_)
  refine ax_jif (ax_if_eq hV dX10_span_5) ?_ ?_
  · refine ax_j (ax_ldc hV kc_X10_150 dX10_span_17) ?_
    exact ax_jl (fun h => ax_ir hV rfl dX10_span_19 (hP ((-300000 : Int32), s) h))
  · refine ax_j (ax_iload_n hV dX10_span_8 rfl) ?_
    refine ax_j (ax_iconst hV (0 : Int32) dX10_span_9 (by decide)) ?_
    refine ax_j (ax_iconst hV (1 : Int32) dX10_span_10 (by decide)) ?_
    refine ax_jb (fun v ho => ax_cSi hV lk_X10_97 rfl dX10_span_11 [.int p2, .int (0 : Int32), .int (1 : Int32)] [] (fun ad => [.int p2, .int (0 : Int32), .int (1 : Int32)]) rfl rfl rfl rfl v s (T_X10_in p2 (0 : Int32) (1 : Int32) s v ho)) (fun q11 => ?_)
    refine ax_jif (ax_if_ne hV dX10_span_14) ?_ ?_
    · refine ax_j (ax_ldc hV kc_X10_150 dX10_span_17) ?_
      exact ax_jl (fun h => ax_ir hV rfl dX10_span_19 (hP ((-300000 : Int32), s) h))
    · refine ax_j (ax_aload_n hV dX10_span_20 rfl) ?_
      refine ax_jb (fun v ho => ax_cVi hV lk_X10_173 rfl dX10_span_21 rfl rfl [] [] (fun ad => [.ref (ad 0)]) rfl rfl rfl rfl v.1 v.2 (T_X10_canAll s v ho)) (fun q21 => ?_)
      refine ax_jif (ax_if_eq hV dX10_span_24) ?_ ?_
      · refine ax_j (ax_ldc hV kc_X10_180 dX10_span_36) ?_
        exact ax_jl (fun h => ax_ir hV rfl dX10_span_38 (hP ((-300001 : Int32), q21.2) h))
      · refine ax_j (ax_aload_n hV dX10_span_27 rfl) ?_
        refine ax_j (ax_iload_n hV dX10_span_28 rfl) ?_
        refine ax_j (ax_iload_n hV dX10_span_29 rfl) ?_
        refine ax_jb (fun v ho => ax_cVi hV lk_X10_177 rfl dX10_span_30 rfl rfl [.int p1, .int p2] [] (fun ad => [.ref (ad 0), .int p1, .int p2]) rfl rfl rfl rfl v q21.2 (T_X10_endOf p1 p2 q21.2 v ho)) (fun q30 => ?_)
        refine ax_j (ax_goto hV dX10_span_33) ?_
        exact ax_jl (fun h => ax_ir hV rfl dX10_span_38 (hP (q30, q21.2) h))
def mu_X10_clockEnd : ax_Mu := (yX10_clockEnd, cX10_clockEnd, 3, some .int, 0, 0)
theorem lc_X10_clockEnd : Cond.code mu_X10_clockEnd.1 mu_X10_clockEnd.2.1 mu_X10_clockEnd.2.2.1 mu_X10_clockEnd.2.2.2.1 ∈ ax_tb := (ax_m5 195 rfl rfl)
noncomputable def f_X10_clockEnd (p1 : Int32) (p2 : Int32) (s : ax_S) : Option (Int32) := (if p2 = 0 then (ax_ai cx_R s 11 ((13 : Int32) + p1)).bind (fun v12 => some ((-v12))) else (ax_ai cx_R s 11 ((19 : Int32) * ((13 : Int32) + p1))).bind (fun v28 => some (v28)))
theorem T_X10_clockEnd (p1 : Int32) (p2 : Int32) (s : ax_S) (r : Int32) (h : f_X10_clockEnd p1 p2 s = some r) : ax_M cx_R mu_X10_clockEnd (fun ad => [.ref (ad 0), .int p1, .int p2]) s (some (.int r)) s := by
  refine ax_enter (by decide +kernel) 0 (fun ad => [some (.ref (ad 0)), some (.int p1), some (.int p2)]) (fun ad => rfl) (fun ad => Nat.le_of_ble_eq_true rfl) (fun X hV ho => ?_)
  refine ax_go (fun r : Int32 => (some (Value.int r), s)) (fun P hP => ?_) h ho
  unfold f_X10_clockEnd
  refine ax_j (ax_iload_n hV dX10_clockEnd_0 rfl) ?_
  refine ax_jif (ax_if_ne hV dX10_clockEnd_1) ?_ ?_
  · refine ax_j (ax_aload_n hV dX10_clockEnd_4 rfl) ?_
    refine ax_j (ax_gfr hV lf_X10_44 dX10_clockEnd_5 rfl rfl) ?_
    refine ax_j (ax_bipush hV (13 : Int32) dX10_clockEnd_8 (by decide)) ?_
    refine ax_j (ax_iload_n hV dX10_clockEnd_10 rfl) ?_
    refine ax_j (ax_iadd hV dX10_clockEnd_11) ?_
    refine ax_jb (ax_iald hV dX10_clockEnd_12) (fun v12 => ?_)
    refine ax_j (ax_ineg hV dX10_clockEnd_13) ?_
    refine ax_j (ax_goto hV dX10_clockEnd_14) ?_
    exact ax_jl (fun h => ax_ir hV rfl dX10_clockEnd_29 (hP (-v12) h))
  · refine ax_j (ax_aload_n hV dX10_clockEnd_17 rfl) ?_
    refine ax_j (ax_gfr hV lf_X10_44 dX10_clockEnd_18 rfl rfl) ?_
    refine ax_j (ax_bipush hV (19 : Int32) dX10_clockEnd_21 (by decide)) ?_
    refine ax_j (ax_bipush hV (13 : Int32) dX10_clockEnd_23 (by decide)) ?_
    refine ax_j (ax_iload_n hV dX10_clockEnd_25 rfl) ?_
    refine ax_j (ax_iadd hV dX10_clockEnd_26) ?_
    refine ax_j (ax_imul hV dX10_clockEnd_27) ?_
    refine ax_jb (ax_iald hV dX10_clockEnd_28) (fun v28 => ?_)
    exact ax_jl (fun h => ax_ir hV rfl dX10_clockEnd_29 (hP v28 h))
theorem lk_X10_181 : ax_lkV RX10 181 mu_X10_clockEnd RX10 2 := ax_lkV_of (ax_m5 192 rfl rfl) (ax_m5 194 rfl rfl) (ax_mp4 6 rfl rfl rfl) (ax_m1 10 rfl rfl) lc_X10_clockEnd rfl ⟨by decide +kernel, by decide +kernel, by decide +kernel⟩
def mu_X10_clock : ax_Mu := (yX10_clock, cX10_clock, 3, some .int, 4, 86)
theorem lc_X10_clock : Cond.code mu_X10_clock.1 mu_X10_clock.2.1 mu_X10_clock.2.2.1 mu_X10_clock.2.2.2.1 ∈ ax_tb := (ax_m5 191 rfl rfl)
noncomputable def f_X10_clock (p1 : Int32) (p2 : Int32) (s : ax_S) : Option (Int32 × ax_S) := (f_X10_isBook p1 s).bind (fun q2 => (if q2 = 0 then some (((-300000 : Int32), s)) else (f_X10_in p2 (0 : Int32) (1 : Int32)).bind (fun q11 => (if q11 = 0 then some (((-300000 : Int32), s)) else (f_X10_canAll s).bind (fun q21 => (if q21.1 = 0 then some (((-300001 : Int32), q21.2)) else (f_X10_clockEnd p1 p2 q21.2).bind (fun q30 => some ((q30, q21.2)))))))))
theorem T_X10_clock (p1 : Int32) (p2 : Int32) (s : ax_S) (r : Int32 × ax_S) (h : f_X10_clock p1 p2 s = some r) : ax_M cx_R mu_X10_clock (fun ad => [.ref (ad 0), .int p1, .int p2]) s (some (.int r.1)) r.2 := by
  refine ax_enter (by decide +kernel) 0 (fun ad => [some (.ref (ad 0)), some (.int p1), some (.int p2)]) (fun ad => rfl) (fun ad => Nat.le_of_ble_eq_true rfl) (fun X hV ho => ?_)
  refine ax_go (fun r : Int32 × ax_S => (some (Value.int r.1), r.2)) (fun P hP => ?_) h ho
  unfold f_X10_clock
  refine ax_j (ax_aload_n hV dX10_clock_0 rfl) ?_
  refine ax_j (ax_iload_n hV dX10_clock_1 rfl) ?_
  refine ax_jb (fun v ho => ax_cVi hV lk_X10_118 rfl dX10_clock_2 rfl rfl [.int p1] [] (fun ad => [.ref (ad 0), .int p1]) rfl rfl rfl rfl v s (T_X10_isBook p1 s v ho)) (fun q2 => ?_)
  refine ax_jif (ax_if_eq hV dX10_clock_5) ?_ ?_
  · refine ax_j (ax_ldc hV kc_X10_150 dX10_clock_17) ?_
    exact ax_jl (fun h => ax_ir hV rfl dX10_clock_19 (hP ((-300000 : Int32), s) h))
  · refine ax_j (ax_iload_n hV dX10_clock_8 rfl) ?_
    refine ax_j (ax_iconst hV (0 : Int32) dX10_clock_9 (by decide)) ?_
    refine ax_j (ax_iconst hV (1 : Int32) dX10_clock_10 (by decide)) ?_
    refine ax_jb (fun v ho => ax_cSi hV lk_X10_97 rfl dX10_clock_11 [.int p2, .int (0 : Int32), .int (1 : Int32)] [] (fun ad => [.int p2, .int (0 : Int32), .int (1 : Int32)]) rfl rfl rfl rfl v s (T_X10_in p2 (0 : Int32) (1 : Int32) s v ho)) (fun q11 => ?_)
    refine ax_jif (ax_if_ne hV dX10_clock_14) ?_ ?_
    · refine ax_j (ax_ldc hV kc_X10_150 dX10_clock_17) ?_
      exact ax_jl (fun h => ax_ir hV rfl dX10_clock_19 (hP ((-300000 : Int32), s) h))
    · refine ax_j (ax_aload_n hV dX10_clock_20 rfl) ?_
      refine ax_jb (fun v ho => ax_cVi hV lk_X10_173 rfl dX10_clock_21 rfl rfl [] [] (fun ad => [.ref (ad 0)]) rfl rfl rfl rfl v.1 v.2 (T_X10_canAll s v ho)) (fun q21 => ?_)
      refine ax_jif (ax_if_eq hV dX10_clock_24) ?_ ?_
      · refine ax_j (ax_ldc hV kc_X10_180 dX10_clock_36) ?_
        exact ax_jl (fun h => ax_ir hV rfl dX10_clock_38 (hP ((-300001 : Int32), q21.2) h))
      · refine ax_j (ax_aload_n hV dX10_clock_27 rfl) ?_
        refine ax_j (ax_iload_n hV dX10_clock_28 rfl) ?_
        refine ax_j (ax_iload_n hV dX10_clock_29 rfl) ?_
        refine ax_jb (fun v ho => ax_cVi hV lk_X10_181 rfl dX10_clock_30 rfl rfl [.int p1, .int p2] [] (fun ad => [.ref (ad 0), .int p1, .int p2]) rfl rfl rfl rfl v q21.2 (T_X10_clockEnd p1 p2 q21.2 v ho)) (fun q30 => ?_)
        refine ax_j (ax_goto hV dX10_clock_33) ?_
        exact ax_jl (fun h => ax_ir hV rfl dX10_clock_38 (hP (q30, q21.2) h))
def mu_X10_areTwo : ax_Mu := (yX10_areTwo, cX10_areTwo, 3, some .boolean, 2, 43)
theorem lc_X10_areTwo : Cond.code mu_X10_areTwo.1 mu_X10_areTwo.2.1 mu_X10_areTwo.2.2.1 mu_X10_areTwo.2.2.2.1 ∈ ax_tb := (ax_m5 203 rfl rfl)
noncomputable def f_X10_areTwo (p1 : Int32) (p2 : Int32) (s : ax_S) : Option (Int32) := (f_X10_isThing p1 s).bind (fun q2 => (if q2 = 0 then some ((0 : Int32)) else (f_X10_isThing p2 s).bind (fun q10 => (if q10 = 0 then some ((0 : Int32)) else (if p1 = p2 then some ((0 : Int32)) else some ((1 : Int32)))))))
theorem T_X10_areTwo (p1 : Int32) (p2 : Int32) (s : ax_S) (r : Int32) (h : f_X10_areTwo p1 p2 s = some r) : ax_M cx_R mu_X10_areTwo (fun ad => [.ref (ad 0), .int p1, .int p2]) s (some (.int r)) s := by
  refine ax_enter (by decide +kernel) 0 (fun ad => [some (.ref (ad 0)), some (.int p1), some (.int p2)]) (fun ad => rfl) (fun ad => Nat.le_of_ble_eq_true rfl) (fun X hV ho => ?_)
  refine ax_go (fun r : Int32 => (some (Value.int r), s)) (fun P hP => ?_) h ho
  unfold f_X10_areTwo
  refine ax_j (ax_aload_n hV dX10_areTwo_0 rfl) ?_
  refine ax_j (ax_iload_n hV dX10_areTwo_1 rfl) ?_
  refine ax_jb (fun v ho => ax_cVi hV lk_X10_122 rfl dX10_areTwo_2 rfl rfl [.int p1] [] (fun ad => [.ref (ad 0), .int p1]) rfl rfl rfl rfl v s (T_X10_isThing p1 s v ho)) (fun q2 => ?_)
  refine ax_jif (ax_if_eq hV dX10_areTwo_5) ?_ ?_
  · refine ax_j (ax_iconst hV (0 : Int32) dX10_areTwo_25 (by decide)) ?_
    exact ax_jl (fun h => ax_zr hV rfl (by decide) dX10_areTwo_26 (hP (0 : Int32) h))
  · refine ax_j (ax_aload_n hV dX10_areTwo_8 rfl) ?_
    refine ax_j (ax_iload_n hV dX10_areTwo_9 rfl) ?_
    refine ax_jb (fun v ho => ax_cVi hV lk_X10_122 rfl dX10_areTwo_10 rfl rfl [.int p2] [] (fun ad => [.ref (ad 0), .int p2]) rfl rfl rfl rfl v s (T_X10_isThing p2 s v ho)) (fun q10 => ?_)
    refine ax_jif (ax_if_eq hV dX10_areTwo_13) ?_ ?_
    · refine ax_j (ax_iconst hV (0 : Int32) dX10_areTwo_25 (by decide)) ?_
      exact ax_jl (fun h => ax_zr hV rfl (by decide) dX10_areTwo_26 (hP (0 : Int32) h))
    · refine ax_j (ax_iload_n hV dX10_areTwo_16 rfl) ?_
      refine ax_j (ax_iload_n hV dX10_areTwo_17 rfl) ?_
      refine ax_jif (ax_icmp_eq hV dX10_areTwo_18) ?_ ?_
      · refine ax_j (ax_iconst hV (0 : Int32) dX10_areTwo_25 (by decide)) ?_
        exact ax_jl (fun h => ax_zr hV rfl (by decide) dX10_areTwo_26 (hP (0 : Int32) h))
      · refine ax_j (ax_iconst hV (1 : Int32) dX10_areTwo_21 (by decide)) ?_
        refine ax_j (ax_goto hV dX10_areTwo_22) ?_
        exact ax_jl (fun h => ax_zr hV rfl (by decide) dX10_areTwo_26 (hP (1 : Int32) h))
theorem lk_X10_184 : ax_lkV RX10 184 mu_X10_areTwo RX10 2 := ax_lkV_of (ax_m5 200 rfl rfl) (ax_m5 202 rfl rfl) (ax_mp4 7 rfl rfl rfl) (ax_m1 10 rfl rfl) lc_X10_areTwo rfl ⟨by decide +kernel, by decide +kernel, by decide +kernel⟩
def mu_X10_between : ax_Mu := (yX10_between, cX10_between, 4, some .int, 4, 86)
theorem lc_X10_between : Cond.code mu_X10_between.1 mu_X10_between.2.1 mu_X10_between.2.2.1 mu_X10_between.2.2.2.1 ∈ ax_tb := (ax_m5 199 rfl rfl)
noncomputable def f_X10_between (p1 : Int32) (p2 : Int32) (p3 : Int32) (s : ax_S) : Option (Int32 × ax_S) := (f_X10_areTwo p1 p2 s).bind (fun q3 => (if q3 = 0 then some (((-500000 : Int32), s)) else (f_X10_in p3 (0 : Int32) (1 : Int32)).bind (fun q12 => (if q12 = 0 then some (((-500000 : Int32), s)) else (f_X10_canAll s).bind (fun q22 => (if q22.1 = 0 then some (((-500001 : Int32), q22.2)) else (if p3 = 0 then (ax_ai cx_R q22.2 11 ((((19 : Int32) * ((1 : Int32) + p1)) + (1 : Int32)) + p2)).bind (fun v49 => some (((-v49), q22.2))) else (ax_ai cx_R q22.2 11 ((((19 : Int32) * ((1 : Int32) + p2)) + (1 : Int32)) + p1)).bind (fun v68 => some ((v68, q22.2))))))))))
theorem T_X10_between (p1 : Int32) (p2 : Int32) (p3 : Int32) (s : ax_S) (r : Int32 × ax_S) (h : f_X10_between p1 p2 p3 s = some r) : ax_M cx_R mu_X10_between (fun ad => [.ref (ad 0), .int p1, .int p2, .int p3]) s (some (.int r.1)) r.2 := by
  refine ax_enter (by decide +kernel) 0 (fun ad => [some (.ref (ad 0)), some (.int p1), some (.int p2), some (.int p3)]) (fun ad => rfl) (fun ad => Nat.le_of_ble_eq_true rfl) (fun X hV ho => ?_)
  refine ax_go (fun r : Int32 × ax_S => (some (Value.int r.1), r.2)) (fun P hP => ?_) h ho
  unfold f_X10_between
  refine ax_j (ax_aload_n hV dX10_between_0 rfl) ?_
  refine ax_j (ax_iload_n hV dX10_between_1 rfl) ?_
  refine ax_j (ax_iload_n hV dX10_between_2 rfl) ?_
  refine ax_jb (fun v ho => ax_cVi hV lk_X10_184 rfl dX10_between_3 rfl rfl [.int p1, .int p2] [] (fun ad => [.ref (ad 0), .int p1, .int p2]) rfl rfl rfl rfl v s (T_X10_areTwo p1 p2 s v ho)) (fun q3 => ?_)
  refine ax_jif (ax_if_eq hV dX10_between_6) ?_ ?_
  · refine ax_j (ax_ldc hV kc_X10_187 dX10_between_18) ?_
    exact ax_jl (fun h => ax_ir hV rfl dX10_between_20 (hP ((-500000 : Int32), s) h))
  · refine ax_j (ax_iload_n hV dX10_between_9 rfl) ?_
    refine ax_j (ax_iconst hV (0 : Int32) dX10_between_10 (by decide)) ?_
    refine ax_j (ax_iconst hV (1 : Int32) dX10_between_11 (by decide)) ?_
    refine ax_jb (fun v ho => ax_cSi hV lk_X10_97 rfl dX10_between_12 [.int p3, .int (0 : Int32), .int (1 : Int32)] [] (fun ad => [.int p3, .int (0 : Int32), .int (1 : Int32)]) rfl rfl rfl rfl v s (T_X10_in p3 (0 : Int32) (1 : Int32) s v ho)) (fun q12 => ?_)
    refine ax_jif (ax_if_ne hV dX10_between_15) ?_ ?_
    · refine ax_j (ax_ldc hV kc_X10_187 dX10_between_18) ?_
      exact ax_jl (fun h => ax_ir hV rfl dX10_between_20 (hP ((-500000 : Int32), s) h))
    · refine ax_j (ax_aload_n hV dX10_between_21 rfl) ?_
      refine ax_jb (fun v ho => ax_cVi hV lk_X10_173 rfl dX10_between_22 rfl rfl [] [] (fun ad => [.ref (ad 0)]) rfl rfl rfl rfl v.1 v.2 (T_X10_canAll s v ho)) (fun q22 => ?_)
      refine ax_jif (ax_if_ne hV dX10_between_25) ?_ ?_
      · refine ax_j (ax_ldc hV kc_X10_188 dX10_between_28) ?_
        exact ax_jl (fun h => ax_ir hV rfl dX10_between_30 (hP ((-500001 : Int32), q22.2) h))
      · refine ax_j (ax_iload_n hV dX10_between_31 rfl) ?_
        refine ax_jif (ax_if_ne hV dX10_between_32) ?_ ?_
        · refine ax_j (ax_aload_n hV dX10_between_35 rfl) ?_
          refine ax_j (ax_gfr hV lf_X10_44 dX10_between_36 rfl rfl) ?_
          refine ax_j (ax_bipush hV (19 : Int32) dX10_between_39 (by decide)) ?_
          refine ax_j (ax_iconst hV (1 : Int32) dX10_between_41 (by decide)) ?_
          refine ax_j (ax_iload_n hV dX10_between_42 rfl) ?_
          refine ax_j (ax_iadd hV dX10_between_43) ?_
          refine ax_j (ax_imul hV dX10_between_44) ?_
          refine ax_j (ax_iconst hV (1 : Int32) dX10_between_45 (by decide)) ?_
          refine ax_j (ax_iadd hV dX10_between_46) ?_
          refine ax_j (ax_iload_n hV dX10_between_47 rfl) ?_
          refine ax_j (ax_iadd hV dX10_between_48) ?_
          refine ax_jb (ax_iald hV dX10_between_49) (fun v49 => ?_)
          refine ax_j (ax_ineg hV dX10_between_50) ?_
          refine ax_j (ax_goto hV dX10_between_51) ?_
          exact ax_jl (fun h => ax_ir hV rfl dX10_between_69 (hP ((-v49), q22.2) h))
        · refine ax_j (ax_aload_n hV dX10_between_54 rfl) ?_
          refine ax_j (ax_gfr hV lf_X10_44 dX10_between_55 rfl rfl) ?_
          refine ax_j (ax_bipush hV (19 : Int32) dX10_between_58 (by decide)) ?_
          refine ax_j (ax_iconst hV (1 : Int32) dX10_between_60 (by decide)) ?_
          refine ax_j (ax_iload_n hV dX10_between_61 rfl) ?_
          refine ax_j (ax_iadd hV dX10_between_62) ?_
          refine ax_j (ax_imul hV dX10_between_63) ?_
          refine ax_j (ax_iconst hV (1 : Int32) dX10_between_64 (by decide)) ?_
          refine ax_j (ax_iadd hV dX10_between_65) ?_
          refine ax_j (ax_iload_n hV dX10_between_66 rfl) ?_
          refine ax_j (ax_iadd hV dX10_between_67) ?_
          refine ax_jb (ax_iald hV dX10_between_68) (fun v68 => ?_)
          exact ax_jl (fun h => ax_ir hV rfl dX10_between_69 (hP (v68, q22.2) h))
def mu_X10_nears : ax_Mu := (yX10_nears, cX10_nears, 4, some .boolean, 0, 0)
theorem lc_X10_nears : Cond.code mu_X10_nears.1 mu_X10_nears.2.1 mu_X10_nears.2.2.1 mu_X10_nears.2.2.2.1 ∈ ax_tb := (ax_m5 213 rfl rfl)
noncomputable def j_X10_nears_30 (l1 : Int32) (l2 : Int32) (l3 : Int32) (s : ax_S) : Option (Int32 × ax_S) := (ax_si cx_R s 12 l1 l2).bind (fun s36 => (ax_si cx_R s36 13 l1 l3).bind (fun s43 => some (((1 : Int32), s43))))
noncomputable def f_X10_nears (p1 : Int32) (p2 : Int32) (p3 : Int32) (s : ax_S) : Option (Int32 × ax_S) := (ax_ai cx_R s 12 p1).bind (fun v6 => (if p2 < v6 then j_X10_nears_30 p1 p2 p3 s else (ax_ai cx_R s 12 p1).bind (fun v16 => (if p2 = v16 then (ax_ai cx_R s 13 p1).bind (fun v26 => (if v26 ≤ p3 then some (((0 : Int32), s)) else j_X10_nears_30 p1 p2 p3 s)) else some (((0 : Int32), s))))))
theorem N_X10_nears_30 (X : ax_G × ax_K × Option Value × ax_S) (hV : ax_ok (cx_R, X) mu_X10_nears)  (P : (Int32 × ax_S) → Prop) (hP : ∀ r : Int32 × ax_S, P r → X.2.2 = (fun r : Int32 × ax_S => (some (Value.int r.1), r.2)) r) (l1 : Int32) (l2 : Int32) (l3 : Int32) (s : ax_S) : ax_J (cx_R, X) P 30 [some (.ref (ax_ad (cx_R, X) 0)), some (.int l1), some (.int l2), some (.int l3)] [] s (j_X10_nears_30 l1 l2 l3 s) := by
  unfold j_X10_nears_30
  refine ax_j (ax_aload_n hV dX10_nears_30 rfl) ?_
  refine ax_j (ax_gfr hV lf_X10_47 dX10_nears_31 rfl rfl) ?_
  refine ax_j (ax_iload_n hV dX10_nears_34 rfl) ?_
  refine ax_j (ax_iload_n hV dX10_nears_35 rfl) ?_
  refine ax_jb (ax_iast hV dX10_nears_36) (fun s36 => ?_)
  refine ax_j (ax_aload_n hV dX10_nears_37 rfl) ?_
  refine ax_j (ax_gfr hV lf_X10_50 dX10_nears_38 rfl rfl) ?_
  refine ax_j (ax_iload_n hV dX10_nears_41 rfl) ?_
  refine ax_j (ax_iload_n hV dX10_nears_42 rfl) ?_
  refine ax_jb (ax_iast hV dX10_nears_43) (fun s43 => ?_)
  refine ax_j (ax_iconst hV (1 : Int32) dX10_nears_44 (by decide)) ?_
  exact ax_jl (fun h => ax_zr hV rfl (by decide) dX10_nears_45 (hP ((1 : Int32), s43) h))
theorem T_X10_nears (p1 : Int32) (p2 : Int32) (p3 : Int32) (s : ax_S) (r : Int32 × ax_S) (h : f_X10_nears p1 p2 p3 s = some r) : ax_M cx_R mu_X10_nears (fun ad => [.ref (ad 0), .int p1, .int p2, .int p3]) s (some (.int r.1)) r.2 := by
  refine ax_enter (by decide +kernel) 0 (fun ad => [some (.ref (ad 0)), some (.int p1), some (.int p2), some (.int p3)]) (fun ad => rfl) (fun ad => Nat.le_of_ble_eq_true rfl) (fun X hV ho => ?_)
  refine ax_go (fun r : Int32 × ax_S => (some (Value.int r.1), r.2)) (fun P hP => ?_) h ho
  unfold f_X10_nears
  refine ax_j (ax_iload_n hV dX10_nears_0 rfl) ?_
  refine ax_j (ax_aload_n hV dX10_nears_1 rfl) ?_
  refine ax_j (ax_gfr hV lf_X10_47 dX10_nears_2 rfl rfl) ?_
  refine ax_j (ax_iload_n hV dX10_nears_5 rfl) ?_
  refine ax_jb (ax_iald hV dX10_nears_6) (fun v6 => ?_)
  refine ax_jif (ax_icmp_lt hV dX10_nears_7) ?_ ?_
  · exact N_X10_nears_30 X hV  P hP p1 p2 p3 s
  · refine ax_j (ax_iload_n hV dX10_nears_10 rfl) ?_
    refine ax_j (ax_aload_n hV dX10_nears_11 rfl) ?_
    refine ax_j (ax_gfr hV lf_X10_47 dX10_nears_12 rfl rfl) ?_
    refine ax_j (ax_iload_n hV dX10_nears_15 rfl) ?_
    refine ax_jb (ax_iald hV dX10_nears_16) (fun v16 => ?_)
    refine ax_jif (ax_icmp_ne hV dX10_nears_17) ?_ ?_
    · refine ax_j (ax_iload_n hV dX10_nears_20 rfl) ?_
      refine ax_j (ax_aload_n hV dX10_nears_21 rfl) ?_
      refine ax_j (ax_gfr hV lf_X10_50 dX10_nears_22 rfl rfl) ?_
      refine ax_j (ax_iload_n hV dX10_nears_25 rfl) ?_
      refine ax_jb (ax_iald hV dX10_nears_26) (fun v26 => ?_)
      refine ax_jif (ax_icmp_ge hV dX10_nears_27) ?_ ?_
      · refine ax_j (ax_iconst hV (0 : Int32) dX10_nears_46 (by decide)) ?_
        exact ax_jl (fun h => ax_zr hV rfl (by decide) dX10_nears_47 (hP ((0 : Int32), s) h))
      · exact N_X10_nears_30 X hV  P hP p1 p2 p3 s
    · refine ax_j (ax_iconst hV (0 : Int32) dX10_nears_46 (by decide)) ?_
      exact ax_jl (fun h => ax_zr hV rfl (by decide) dX10_nears_47 (hP ((0 : Int32), s) h))
theorem lk_X10_189 : ax_lkV RX10 189 mu_X10_nears RX10 3 := ax_lkV_of (ax_m5 210 rfl rfl) (ax_m5 212 rfl rfl) (ax_mp4 8 rfl rfl rfl) (ax_m1 10 rfl rfl) lc_X10_nears rfl ⟨by decide +kernel, by decide +kernel, by decide +kernel⟩
def mu_X10_led : ax_Mu := (yX10_led, cX10_led, 13, some .int, 4, 86)
theorem lc_X10_led : Cond.code mu_X10_led.1 mu_X10_led.2.1 mu_X10_led.2.2.1 mu_X10_led.2.2.2.1 ∈ ax_tb := (ax_m5 209 rfl rfl)
noncomputable def j_X10_led_32_71 (l1 : Int32) (l2 : Int32) (l3 : Int32) (k0 : Int32) (s : ax_S) : Option ((Int32 × ax_S) ⊕ (ax_S)) := (if k0 = 0 then (ax_si cx_R s 12 l3 (100000000 : Int32)).bind (fun s126 => (ax_si cx_R s126 13 l3 (0 : Int32)).bind (fun s133 => some (.inl ((l3 + 1), s133)))) else (if (13 : Int32) ≤ l3 then (if l2 = (1 : Int32) then (ax_ai cx_R s 1 (l3 - (13 : Int32))).bind (fun v112 => (ax_si cx_R s 12 l3 (-v112)).bind (fun s126 => (ax_si cx_R s126 13 l3 (0 : Int32)).bind (fun s133 => some (.inl ((l3 + 1), s133))))) else (ax_ai cx_R s 2 (l3 - (13 : Int32))).bind (fun v125 => (ax_si cx_R s 12 l3 v125).bind (fun s126 => (ax_si cx_R s126 13 l3 (0 : Int32)).bind (fun s133 => some (.inl ((l3 + 1), s133)))))) else (ax_si cx_R s 12 l3 (200000 : Int32)).bind (fun s126 => (ax_si cx_R s126 13 l3 (0 : Int32)).bind (fun s133 => some (.inl ((l3 + 1), s133))))))
noncomputable def j_X10_led_32_66 (l1 : Int32) (l2 : Int32) (l3 : Int32) (s : ax_S) : Option ((Int32 × ax_S) ⊕ (ax_S)) := j_X10_led_32_71 l1 l2 l3 (1 : Int32) s
noncomputable def b_X10_led_32 (l1 : Int32) (l2 : Int32) (a : Int32 × ax_S) : Option ((Int32 × ax_S) ⊕ (ax_S)) := (if (19 : Int32) ≤ a.1 then some (.inr a.2) else (f_X10_in a.1 (1 : Int32) (a.2.1 0 1)).bind (fun q44 => (if q44 = 0 then (f_X10_in a.1 (13 : Int32) ((12 : Int32) + (a.2.1 0 2))).bind (fun q60 => (if q60 = 0 then j_X10_led_32_71 l1 l2 a.1 (0 : Int32) a.2 else j_X10_led_32_66 l1 l2 a.1 a.2)) else j_X10_led_32_66 l1 l2 a.1 a.2)))
noncomputable def j_X10_led_159_246 (l1 : Int32) (l2 : Int32) (l3 : Int64) (l5 : Int32) (l6 : Int32) (l7 : Int32) (l8 : Int32) (l9 : Int32) (k0 : Int32) (s : ax_S) : Option ((Int32 × Int32 × ax_S) ⊕ (Int32 × ax_S)) := (ax_ai cx_R s 12 l8).bind (fun v257 => (ax_ai cx_R s 13 l8).bind (fun v267 => (f_X10_nears l7 (v257 + l9) (v267 + (1 : Int32)) s).bind (fun q270 => (ax_ai cx_R q270.2 12 l7).bind (fun v284 => (ax_ai cx_R q270.2 13 l7).bind (fun v294 => (f_X10_nears l8 (v284 + k0) (v294 + (1 : Int32)) q270.2).bind (fun q297 => (if l5 = 0 then (if q270.1 = 0 then (if q297.1 = 0 then some (.inl ((0 : Int32), (l6 + 1), q297.2)) else some (.inl ((1 : Int32), (l6 + 1), q297.2))) else some (.inl ((1 : Int32), (l6 + 1), q297.2))) else some (.inl ((1 : Int32), (l6 + 1), q297.2)))))))))
noncomputable def j_X10_led_159_221 (l1 : Int32) (l2 : Int32) (l3 : Int64) (l5 : Int32) (l6 : Int32) (l7 : Int32) (l8 : Int32) (k0 : Int32) (s : ax_S) : Option ((Int32 × Int32 × ax_S) ⊕ (Int32 × ax_S)) := (if l2 = (1 : Int32) then (ax_ai cx_R s 7 l6).bind (fun v234 => j_X10_led_159_246 l1 l2 l3 l5 l6 l7 l8 k0 (-v234) s) else (ax_ai cx_R s 8 l6).bind (fun v245 => j_X10_led_159_246 l1 l2 l3 l5 l6 l7 l8 k0 v245 s))
noncomputable def b_X10_led_159 (l1 : Int32) (l2 : Int32) (l3 : Int64) (a : Int32 × Int32 × ax_S) : Option ((Int32 × Int32 × ax_S) ⊕ (Int32 × ax_S)) := (if (a.2.2.1 0 6) ≤ a.2.1 then some (.inr (a.1, a.2.2)) else (if (lg_cmp ((ax_lshr l3 a.2.1) &&& (1 : Int64)) (1 : Int64)) = 0 then (ax_ai cx_R a.2.2 5 a.2.1).bind (fun v186 => (f_X10_leansOn a.2.1 a.2.2).bind (fun q193 => (if l2 = (1 : Int32) then (ax_ai cx_R a.2.2 8 a.2.1).bind (fun v209 => j_X10_led_159_221 l1 l2 l3 a.1 a.2.1 ((1 : Int32) + v186) q193 v209 a.2.2) else (ax_ai cx_R a.2.2 7 a.2.1).bind (fun v219 => j_X10_led_159_221 l1 l2 l3 a.1 a.2.1 ((1 : Int32) + v186) q193 (-v219) a.2.2)))) else some (.inl (a.1, (a.2.1 + 1), a.2.2))))
noncomputable def b_X10_led_148 (l1 : Int32) (l2 : Int32) (l3 : Int64) (a : Int32 × ax_S) : Option ((Int32 × ax_S) ⊕ (ax_S)) := (if a.1 = 0 then some (.inr a.2) else (ax_lp (b_X10_led_159 l1 l2 l3) ((0 : Int32), (0 : Int32), a.2)).bind (fun e159 => some (.inl (e159.1, e159.2))))
noncomputable def f_X10_led (p1 : Int32) (p2 : Int32) (s : ax_S) : Option (Int32 × ax_S) := (f_X10_isThing p1 s).bind (fun q2 => (if q2 = 0 then some (((-2 : Int32), s)) else (f_X10_in p2 (0 : Int32) (1 : Int32)).bind (fun q11 => (if q11 = 0 then some (((-2 : Int32), s)) else (f_X10_canAll s).bind (fun q21 => (if q21.1 = 0 then some (((-3 : Int32), q21.2)) else (ax_lp (b_X10_led_32 p1 p2) ((0 : Int32), q21.2)).bind (fun e32 => (f_X10_knownNow e32).bind (fun q141 => (ax_lp (b_X10_led_148 p1 p2 q141) ((1 : Int32), e32)).bind (fun e148 => (ax_ai cx_R e148 13 ((1 : Int32) + p1)).bind (fun v340 => some ((v340, e148))))))))))))
theorem N_X10_led_32_71 (X : ax_G × ax_K × Option Value × ax_S) (hV : ax_ok (cx_R, X) mu_X10_led) (l1 : Int32) (l2 : Int32) (P : ((Int32 × ax_S) ⊕ (ax_S)) → Prop) (hI : ∀ a : Int32 × ax_S, P (.inl a) → ax_At (cx_R, X) 32 [some (.ref (ax_ad (cx_R, X) 0)), some (.int l1), some (.int l2), some (.int a.1), none, none, none, none, none, none, none, none, none] [] a.2) (hO : ∀ e : ax_S, P (.inr e) → ax_At (cx_R, X) 140 [some (.ref (ax_ad (cx_R, X) 0)), some (.int l1), some (.int l2), none, none, none, none, none, none, none, none, none, none] [] e) (l3 : Int32) (k0 : Int32) (s : ax_S) : ax_J (cx_R, X) P 71 [some (.ref (ax_ad (cx_R, X) 0)), some (.int l1), some (.int l2), some (.int l3), none, none, none, none, none, none, none, none, none] [.int k0] s (j_X10_led_32_71 l1 l2 l3 k0 s) := by
  unfold j_X10_led_32_71
  refine ax_j (ax_istore hV [some (.ref (ax_ad (cx_R, X) 0)), some (.int l1), some (.int l2), some (.int l3), some (.int k0), none, none, none, none, none, none, none, none] dX10_led_71 rfl rfl) ?_
  refine ax_j (ax_aload_n hV dX10_led_73 rfl) ?_
  refine ax_j (ax_gfr hV lf_X10_47 dX10_led_74 rfl rfl) ?_
  refine ax_j (ax_iload_n hV dX10_led_77 rfl) ?_
  refine ax_j (ax_iload hV dX10_led_78 rfl) ?_
  refine ax_jif (ax_if_ne hV dX10_led_80) ?_ ?_
  · refine ax_j (ax_ldc hV kc_X10_155 dX10_led_83) ?_
    refine ax_j (ax_goto hV dX10_led_85) ?_
    refine ax_jb (ax_iast hV dX10_led_126) (fun s126 => ?_)
    refine ax_j (ax_aload_n hV dX10_led_127 rfl) ?_
    refine ax_j (ax_gfr hV lf_X10_50 dX10_led_128 rfl rfl) ?_
    refine ax_j (ax_iload_n hV dX10_led_131 rfl) ?_
    refine ax_j (ax_iconst hV (0 : Int32) dX10_led_132 (by decide)) ?_
    refine ax_jb (ax_iast hV dX10_led_133) (fun s133 => ?_)
    refine ax_j (ax_iinc hV (l3 + 1) [some (.ref (ax_ad (cx_R, X) 0)), some (.int l1), some (.int l2), some (.int (l3 + 1)), some (.int k0), none, none, none, none, none, none, none, none] dX10_led_134 rfl rfl rfl rfl) ?_
    refine ax_j (ax_goto hV dX10_led_137) ?_
    refine ax_jf (lv' := [some (.ref (ax_ad (cx_R, X) 0)), some (.int l1), some (.int l2), some (.int (l3 + 1)), none, none, none, none, none, none, none, none, none]) [true, true, true, true, false, false, false, false, false, false, false, false, false] rfl ?_
    exact ax_jl (fun h => hI ((l3 + 1), s133) h)
  · refine ax_j (ax_iload_n hV dX10_led_88 rfl) ?_
    refine ax_j (ax_bipush hV (13 : Int32) dX10_led_89 (by decide)) ?_
    refine ax_jif (ax_icmp_ge hV dX10_led_91) ?_ ?_
    · refine ax_j (ax_iload_n hV dX10_led_99 rfl) ?_
      refine ax_j (ax_iconst hV (1 : Int32) dX10_led_100 (by decide)) ?_
      refine ax_jif (ax_icmp_ne hV dX10_led_101) ?_ ?_
      · refine ax_j (ax_aload_n hV dX10_led_104 rfl) ?_
        refine ax_j (ax_gfr hV lf_X10_9 dX10_led_105 rfl rfl) ?_
        refine ax_j (ax_iload_n hV dX10_led_108 rfl) ?_
        refine ax_j (ax_bipush hV (13 : Int32) dX10_led_109 (by decide)) ?_
        refine ax_j (ax_isub hV dX10_led_111) ?_
        refine ax_jb (ax_iald hV dX10_led_112) (fun v112 => ?_)
        refine ax_j (ax_ineg hV dX10_led_113) ?_
        refine ax_j (ax_goto hV dX10_led_114) ?_
        refine ax_jb (ax_iast hV dX10_led_126) (fun s126 => ?_)
        refine ax_j (ax_aload_n hV dX10_led_127 rfl) ?_
        refine ax_j (ax_gfr hV lf_X10_50 dX10_led_128 rfl rfl) ?_
        refine ax_j (ax_iload_n hV dX10_led_131 rfl) ?_
        refine ax_j (ax_iconst hV (0 : Int32) dX10_led_132 (by decide)) ?_
        refine ax_jb (ax_iast hV dX10_led_133) (fun s133 => ?_)
        refine ax_j (ax_iinc hV (l3 + 1) [some (.ref (ax_ad (cx_R, X) 0)), some (.int l1), some (.int l2), some (.int (l3 + 1)), some (.int k0), none, none, none, none, none, none, none, none] dX10_led_134 rfl rfl rfl rfl) ?_
        refine ax_j (ax_goto hV dX10_led_137) ?_
        refine ax_jf (lv' := [some (.ref (ax_ad (cx_R, X) 0)), some (.int l1), some (.int l2), some (.int (l3 + 1)), none, none, none, none, none, none, none, none, none]) [true, true, true, true, false, false, false, false, false, false, false, false, false] rfl ?_
        exact ax_jl (fun h => hI ((l3 + 1), s133) h)
      · refine ax_j (ax_aload_n hV dX10_led_117 rfl) ?_
        refine ax_j (ax_gfr hV lf_X10_13 dX10_led_118 rfl rfl) ?_
        refine ax_j (ax_iload_n hV dX10_led_121 rfl) ?_
        refine ax_j (ax_bipush hV (13 : Int32) dX10_led_122 (by decide)) ?_
        refine ax_j (ax_isub hV dX10_led_124) ?_
        refine ax_jb (ax_iald hV dX10_led_125) (fun v125 => ?_)
        refine ax_jb (ax_iast hV dX10_led_126) (fun s126 => ?_)
        refine ax_j (ax_aload_n hV dX10_led_127 rfl) ?_
        refine ax_j (ax_gfr hV lf_X10_50 dX10_led_128 rfl rfl) ?_
        refine ax_j (ax_iload_n hV dX10_led_131 rfl) ?_
        refine ax_j (ax_iconst hV (0 : Int32) dX10_led_132 (by decide)) ?_
        refine ax_jb (ax_iast hV dX10_led_133) (fun s133 => ?_)
        refine ax_j (ax_iinc hV (l3 + 1) [some (.ref (ax_ad (cx_R, X) 0)), some (.int l1), some (.int l2), some (.int (l3 + 1)), some (.int k0), none, none, none, none, none, none, none, none] dX10_led_134 rfl rfl rfl rfl) ?_
        refine ax_j (ax_goto hV dX10_led_137) ?_
        refine ax_jf (lv' := [some (.ref (ax_ad (cx_R, X) 0)), some (.int l1), some (.int l2), some (.int (l3 + 1)), none, none, none, none, none, none, none, none, none]) [true, true, true, true, false, false, false, false, false, false, false, false, false] rfl ?_
        exact ax_jl (fun h => hI ((l3 + 1), s133) h)
    · refine ax_j (ax_ldc hV kc_X10_126 dX10_led_94) ?_
      refine ax_j (ax_goto hV dX10_led_96) ?_
      refine ax_jb (ax_iast hV dX10_led_126) (fun s126 => ?_)
      refine ax_j (ax_aload_n hV dX10_led_127 rfl) ?_
      refine ax_j (ax_gfr hV lf_X10_50 dX10_led_128 rfl rfl) ?_
      refine ax_j (ax_iload_n hV dX10_led_131 rfl) ?_
      refine ax_j (ax_iconst hV (0 : Int32) dX10_led_132 (by decide)) ?_
      refine ax_jb (ax_iast hV dX10_led_133) (fun s133 => ?_)
      refine ax_j (ax_iinc hV (l3 + 1) [some (.ref (ax_ad (cx_R, X) 0)), some (.int l1), some (.int l2), some (.int (l3 + 1)), some (.int k0), none, none, none, none, none, none, none, none] dX10_led_134 rfl rfl rfl rfl) ?_
      refine ax_j (ax_goto hV dX10_led_137) ?_
      refine ax_jf (lv' := [some (.ref (ax_ad (cx_R, X) 0)), some (.int l1), some (.int l2), some (.int (l3 + 1)), none, none, none, none, none, none, none, none, none]) [true, true, true, true, false, false, false, false, false, false, false, false, false] rfl ?_
      exact ax_jl (fun h => hI ((l3 + 1), s133) h)
theorem N_X10_led_32_66 (X : ax_G × ax_K × Option Value × ax_S) (hV : ax_ok (cx_R, X) mu_X10_led) (l1 : Int32) (l2 : Int32) (P : ((Int32 × ax_S) ⊕ (ax_S)) → Prop) (hI : ∀ a : Int32 × ax_S, P (.inl a) → ax_At (cx_R, X) 32 [some (.ref (ax_ad (cx_R, X) 0)), some (.int l1), some (.int l2), some (.int a.1), none, none, none, none, none, none, none, none, none] [] a.2) (hO : ∀ e : ax_S, P (.inr e) → ax_At (cx_R, X) 140 [some (.ref (ax_ad (cx_R, X) 0)), some (.int l1), some (.int l2), none, none, none, none, none, none, none, none, none, none] [] e) (l3 : Int32) (s : ax_S) : ax_J (cx_R, X) P 66 [some (.ref (ax_ad (cx_R, X) 0)), some (.int l1), some (.int l2), some (.int l3), none, none, none, none, none, none, none, none, none] [] s (j_X10_led_32_66 l1 l2 l3 s) := by
  unfold j_X10_led_32_66
  refine ax_j (ax_iconst hV (1 : Int32) dX10_led_66 (by decide)) ?_
  refine ax_j (ax_goto hV dX10_led_67) ?_
  exact N_X10_led_32_71 X hV l1 l2 P hI hO l3 (1 : Int32) s
theorem B_X10_led_32 (X : ax_G × ax_K × Option Value × ax_S) (hV : ax_ok (cx_R, X) mu_X10_led) (l1 : Int32) (l2 : Int32) (P : ((Int32 × ax_S) ⊕ (ax_S)) → Prop) (hI : ∀ a : Int32 × ax_S, P (.inl a) → ax_At (cx_R, X) 32 [some (.ref (ax_ad (cx_R, X) 0)), some (.int l1), some (.int l2), some (.int a.1), none, none, none, none, none, none, none, none, none] [] a.2) (hO : ∀ e : ax_S, P (.inr e) → ax_At (cx_R, X) 140 [some (.ref (ax_ad (cx_R, X) 0)), some (.int l1), some (.int l2), none, none, none, none, none, none, none, none, none, none] [] e) (a : Int32 × ax_S) : ax_J (cx_R, X) P 32 [some (.ref (ax_ad (cx_R, X) 0)), some (.int l1), some (.int l2), some (.int a.1), none, none, none, none, none, none, none, none, none] [] a.2 (b_X10_led_32 l1 l2 a) := by
  unfold b_X10_led_32
  refine ax_j (ax_iload_n hV dX10_led_32 rfl) ?_
  refine ax_j (ax_bipush hV (19 : Int32) dX10_led_33 (by decide)) ?_
  refine ax_jif (ax_icmp_ge hV dX10_led_35) ?_ ?_
  · refine ax_jf (lv' := [some (.ref (ax_ad (cx_R, X) 0)), some (.int l1), some (.int l2), none, none, none, none, none, none, none, none, none, none]) [true, true, true, false, false, false, false, false, false, false, false, false, false] rfl ?_
    exact ax_jl (fun h => hO a.2 h)
  · refine ax_j (ax_iload_n hV dX10_led_38 rfl) ?_
    refine ax_j (ax_iconst hV (1 : Int32) dX10_led_39 (by decide)) ?_
    refine ax_j (ax_aload_n hV dX10_led_40 rfl) ?_
    refine ax_j (ax_gfi hV lf_X10_94 dX10_led_41 rfl rfl) ?_
    refine ax_jb (fun v ho => ax_cSi hV lk_X10_97 rfl dX10_led_44 [.int a.1, .int (1 : Int32), .int (a.2.1 0 1)] [] (fun ad => [.int a.1, .int (1 : Int32), .int (a.2.1 0 1)]) rfl rfl rfl rfl v a.2 (T_X10_in a.1 (1 : Int32) (a.2.1 0 1) a.2 v ho)) (fun q44 => ?_)
    refine ax_jif (ax_if_ne hV dX10_led_47) ?_ ?_
    · refine ax_j (ax_iload_n hV dX10_led_50 rfl) ?_
      refine ax_j (ax_bipush hV (13 : Int32) dX10_led_51 (by decide)) ?_
      refine ax_j (ax_bipush hV (12 : Int32) dX10_led_53 (by decide)) ?_
      refine ax_j (ax_aload_n hV dX10_led_55 rfl) ?_
      refine ax_j (ax_gfi hV lf_X10_101 dX10_led_56 rfl rfl) ?_
      refine ax_j (ax_iadd hV dX10_led_59) ?_
      refine ax_jb (fun v ho => ax_cSi hV lk_X10_97 rfl dX10_led_60 [.int a.1, .int (13 : Int32), .int ((12 : Int32) + (a.2.1 0 2))] [] (fun ad => [.int a.1, .int (13 : Int32), .int ((12 : Int32) + (a.2.1 0 2))]) rfl rfl rfl rfl v a.2 (T_X10_in a.1 (13 : Int32) ((12 : Int32) + (a.2.1 0 2)) a.2 v ho)) (fun q60 => ?_)
      refine ax_jif (ax_if_eq hV dX10_led_63) ?_ ?_
      · refine ax_j (ax_iconst hV (0 : Int32) dX10_led_70 (by decide)) ?_
        exact N_X10_led_32_71 X hV l1 l2 P hI hO a.1 (0 : Int32) a.2
      · exact N_X10_led_32_66 X hV l1 l2 P hI hO a.1 a.2
    · exact N_X10_led_32_66 X hV l1 l2 P hI hO a.1 a.2
theorem N_X10_led_159_246 (X : ax_G × ax_K × Option Value × ax_S) (hV : ax_ok (cx_R, X) mu_X10_led) (l1 : Int32) (l2 : Int32) (l3 : Int64) (P : ((Int32 × Int32 × ax_S) ⊕ (Int32 × ax_S)) → Prop) (hI : ∀ a : Int32 × Int32 × ax_S, P (.inl a) → ax_At (cx_R, X) 159 [some (.ref (ax_ad (cx_R, X) 0)), some (.int l1), some (.int l2), some (.long l3), none, some (.int a.1), some (.int a.2.1), none, none, none, none, none, none] [] a.2.2) (hO : ∀ e : Int32 × ax_S, P (.inr e) → ax_At (cx_R, X) 330 [some (.ref (ax_ad (cx_R, X) 0)), some (.int l1), some (.int l2), some (.long l3), none, some (.int e.1), none, none, none, none, none, none, none] [] e.2) (l5 : Int32) (l6 : Int32) (l7 : Int32) (l8 : Int32) (l9 : Int32) (k0 : Int32) (s : ax_S) : ax_J (cx_R, X) P 246 [some (.ref (ax_ad (cx_R, X) 0)), some (.int l1), some (.int l2), some (.long l3), none, some (.int l5), some (.int l6), some (.int l7), some (.int l8), some (.int l9), none, none, none] [.int k0] s (j_X10_led_159_246 l1 l2 l3 l5 l6 l7 l8 l9 k0 s) := by
  unfold j_X10_led_159_246
  refine ax_j (ax_istore hV [some (.ref (ax_ad (cx_R, X) 0)), some (.int l1), some (.int l2), some (.long l3), none, some (.int l5), some (.int l6), some (.int l7), some (.int l8), some (.int l9), some (.int k0), none, none] dX10_led_246 rfl rfl) ?_
  refine ax_j (ax_aload_n hV dX10_led_248 rfl) ?_
  refine ax_j (ax_iload hV dX10_led_249 rfl) ?_
  refine ax_j (ax_aload_n hV dX10_led_251 rfl) ?_
  refine ax_j (ax_gfr hV lf_X10_47 dX10_led_252 rfl rfl) ?_
  refine ax_j (ax_iload hV dX10_led_255 rfl) ?_
  refine ax_jb (ax_iald hV dX10_led_257) (fun v257 => ?_)
  refine ax_j (ax_iload hV dX10_led_258 rfl) ?_
  refine ax_j (ax_iadd hV dX10_led_260) ?_
  refine ax_j (ax_aload_n hV dX10_led_261 rfl) ?_
  refine ax_j (ax_gfr hV lf_X10_50 dX10_led_262 rfl rfl) ?_
  refine ax_j (ax_iload hV dX10_led_265 rfl) ?_
  refine ax_jb (ax_iald hV dX10_led_267) (fun v267 => ?_)
  refine ax_j (ax_iconst hV (1 : Int32) dX10_led_268 (by decide)) ?_
  refine ax_j (ax_iadd hV dX10_led_269) ?_
  refine ax_jb (fun v ho => ax_cVi hV lk_X10_189 rfl dX10_led_270 rfl rfl [.int l7, .int (v257 + l9), .int (v267 + (1 : Int32))] [] (fun ad => [.ref (ad 0), .int l7, .int (v257 + l9), .int (v267 + (1 : Int32))]) rfl rfl rfl rfl v.1 v.2 (T_X10_nears l7 (v257 + l9) (v267 + (1 : Int32)) s v ho)) (fun q270 => ?_)
  refine ax_j (ax_istore hV [some (.ref (ax_ad (cx_R, X) 0)), some (.int l1), some (.int l2), some (.long l3), none, some (.int l5), some (.int l6), some (.int l7), some (.int l8), some (.int l9), some (.int k0), some (.int q270.1), none] dX10_led_273 rfl rfl) ?_
  refine ax_j (ax_aload_n hV dX10_led_275 rfl) ?_
  refine ax_j (ax_iload hV dX10_led_276 rfl) ?_
  refine ax_j (ax_aload_n hV dX10_led_278 rfl) ?_
  refine ax_j (ax_gfr hV lf_X10_47 dX10_led_279 rfl rfl) ?_
  refine ax_j (ax_iload hV dX10_led_282 rfl) ?_
  refine ax_jb (ax_iald hV dX10_led_284) (fun v284 => ?_)
  refine ax_j (ax_iload hV dX10_led_285 rfl) ?_
  refine ax_j (ax_iadd hV dX10_led_287) ?_
  refine ax_j (ax_aload_n hV dX10_led_288 rfl) ?_
  refine ax_j (ax_gfr hV lf_X10_50 dX10_led_289 rfl rfl) ?_
  refine ax_j (ax_iload hV dX10_led_292 rfl) ?_
  refine ax_jb (ax_iald hV dX10_led_294) (fun v294 => ?_)
  refine ax_j (ax_iconst hV (1 : Int32) dX10_led_295 (by decide)) ?_
  refine ax_j (ax_iadd hV dX10_led_296) ?_
  refine ax_jb (fun v ho => ax_cVi hV lk_X10_189 rfl dX10_led_297 rfl rfl [.int l8, .int (v284 + k0), .int (v294 + (1 : Int32))] [] (fun ad => [.ref (ad 0), .int l8, .int (v284 + k0), .int (v294 + (1 : Int32))]) rfl rfl rfl rfl v.1 v.2 (T_X10_nears l8 (v284 + k0) (v294 + (1 : Int32)) q270.2 v ho)) (fun q297 => ?_)
  refine ax_j (ax_istore hV [some (.ref (ax_ad (cx_R, X) 0)), some (.int l1), some (.int l2), some (.long l3), none, some (.int l5), some (.int l6), some (.int l7), some (.int l8), some (.int l9), some (.int k0), some (.int q270.1), some (.int q297.1)] dX10_led_300 rfl rfl) ?_
  refine ax_j (ax_iload hV dX10_led_302 rfl) ?_
  refine ax_jif (ax_if_ne hV dX10_led_304) ?_ ?_
  · refine ax_j (ax_iload hV dX10_led_307 rfl) ?_
    refine ax_jif (ax_if_ne hV dX10_led_309) ?_ ?_
    · refine ax_j (ax_iload hV dX10_led_312 rfl) ?_
      refine ax_jif (ax_if_eq hV dX10_led_314) ?_ ?_
      · refine ax_j (ax_iconst hV (0 : Int32) dX10_led_321 (by decide)) ?_
        refine ax_j (ax_istore hV [some (.ref (ax_ad (cx_R, X) 0)), some (.int l1), some (.int l2), some (.long l3), none, some (.int (0 : Int32)), some (.int l6), some (.int l7), some (.int l8), some (.int l9), some (.int k0), some (.int q270.1), some (.int q297.1)] dX10_led_322 rfl rfl) ?_
        refine ax_j (ax_iinc hV (l6 + 1) [some (.ref (ax_ad (cx_R, X) 0)), some (.int l1), some (.int l2), some (.long l3), none, some (.int (0 : Int32)), some (.int (l6 + 1)), some (.int l7), some (.int l8), some (.int l9), some (.int k0), some (.int q270.1), some (.int q297.1)] dX10_led_324 rfl rfl rfl rfl) ?_
        refine ax_j (ax_goto hV dX10_led_327) ?_
        refine ax_jf (lv' := [some (.ref (ax_ad (cx_R, X) 0)), some (.int l1), some (.int l2), some (.long l3), none, some (.int (0 : Int32)), some (.int (l6 + 1)), none, none, none, none, none, none]) [true, true, true, true, false, true, true, false, false, false, false, false, false] rfl ?_
        exact ax_jl (fun h => hI ((0 : Int32), (l6 + 1), q297.2) h)
      · refine ax_j (ax_iconst hV (1 : Int32) dX10_led_317 (by decide)) ?_
        refine ax_j (ax_goto hV dX10_led_318) ?_
        refine ax_j (ax_istore hV [some (.ref (ax_ad (cx_R, X) 0)), some (.int l1), some (.int l2), some (.long l3), none, some (.int (1 : Int32)), some (.int l6), some (.int l7), some (.int l8), some (.int l9), some (.int k0), some (.int q270.1), some (.int q297.1)] dX10_led_322 rfl rfl) ?_
        refine ax_j (ax_iinc hV (l6 + 1) [some (.ref (ax_ad (cx_R, X) 0)), some (.int l1), some (.int l2), some (.long l3), none, some (.int (1 : Int32)), some (.int (l6 + 1)), some (.int l7), some (.int l8), some (.int l9), some (.int k0), some (.int q270.1), some (.int q297.1)] dX10_led_324 rfl rfl rfl rfl) ?_
        refine ax_j (ax_goto hV dX10_led_327) ?_
        refine ax_jf (lv' := [some (.ref (ax_ad (cx_R, X) 0)), some (.int l1), some (.int l2), some (.long l3), none, some (.int (1 : Int32)), some (.int (l6 + 1)), none, none, none, none, none, none]) [true, true, true, true, false, true, true, false, false, false, false, false, false] rfl ?_
        exact ax_jl (fun h => hI ((1 : Int32), (l6 + 1), q297.2) h)
    · refine ax_j (ax_iconst hV (1 : Int32) dX10_led_317 (by decide)) ?_
      refine ax_j (ax_goto hV dX10_led_318) ?_
      refine ax_j (ax_istore hV [some (.ref (ax_ad (cx_R, X) 0)), some (.int l1), some (.int l2), some (.long l3), none, some (.int (1 : Int32)), some (.int l6), some (.int l7), some (.int l8), some (.int l9), some (.int k0), some (.int q270.1), some (.int q297.1)] dX10_led_322 rfl rfl) ?_
      refine ax_j (ax_iinc hV (l6 + 1) [some (.ref (ax_ad (cx_R, X) 0)), some (.int l1), some (.int l2), some (.long l3), none, some (.int (1 : Int32)), some (.int (l6 + 1)), some (.int l7), some (.int l8), some (.int l9), some (.int k0), some (.int q270.1), some (.int q297.1)] dX10_led_324 rfl rfl rfl rfl) ?_
      refine ax_j (ax_goto hV dX10_led_327) ?_
      refine ax_jf (lv' := [some (.ref (ax_ad (cx_R, X) 0)), some (.int l1), some (.int l2), some (.long l3), none, some (.int (1 : Int32)), some (.int (l6 + 1)), none, none, none, none, none, none]) [true, true, true, true, false, true, true, false, false, false, false, false, false] rfl ?_
      exact ax_jl (fun h => hI ((1 : Int32), (l6 + 1), q297.2) h)
  · refine ax_j (ax_iconst hV (1 : Int32) dX10_led_317 (by decide)) ?_
    refine ax_j (ax_goto hV dX10_led_318) ?_
    refine ax_j (ax_istore hV [some (.ref (ax_ad (cx_R, X) 0)), some (.int l1), some (.int l2), some (.long l3), none, some (.int (1 : Int32)), some (.int l6), some (.int l7), some (.int l8), some (.int l9), some (.int k0), some (.int q270.1), some (.int q297.1)] dX10_led_322 rfl rfl) ?_
    refine ax_j (ax_iinc hV (l6 + 1) [some (.ref (ax_ad (cx_R, X) 0)), some (.int l1), some (.int l2), some (.long l3), none, some (.int (1 : Int32)), some (.int (l6 + 1)), some (.int l7), some (.int l8), some (.int l9), some (.int k0), some (.int q270.1), some (.int q297.1)] dX10_led_324 rfl rfl rfl rfl) ?_
    refine ax_j (ax_goto hV dX10_led_327) ?_
    refine ax_jf (lv' := [some (.ref (ax_ad (cx_R, X) 0)), some (.int l1), some (.int l2), some (.long l3), none, some (.int (1 : Int32)), some (.int (l6 + 1)), none, none, none, none, none, none]) [true, true, true, true, false, true, true, false, false, false, false, false, false] rfl ?_
    exact ax_jl (fun h => hI ((1 : Int32), (l6 + 1), q297.2) h)
theorem N_X10_led_159_221 (X : ax_G × ax_K × Option Value × ax_S) (hV : ax_ok (cx_R, X) mu_X10_led) (l1 : Int32) (l2 : Int32) (l3 : Int64) (P : ((Int32 × Int32 × ax_S) ⊕ (Int32 × ax_S)) → Prop) (hI : ∀ a : Int32 × Int32 × ax_S, P (.inl a) → ax_At (cx_R, X) 159 [some (.ref (ax_ad (cx_R, X) 0)), some (.int l1), some (.int l2), some (.long l3), none, some (.int a.1), some (.int a.2.1), none, none, none, none, none, none] [] a.2.2) (hO : ∀ e : Int32 × ax_S, P (.inr e) → ax_At (cx_R, X) 330 [some (.ref (ax_ad (cx_R, X) 0)), some (.int l1), some (.int l2), some (.long l3), none, some (.int e.1), none, none, none, none, none, none, none] [] e.2) (l5 : Int32) (l6 : Int32) (l7 : Int32) (l8 : Int32) (k0 : Int32) (s : ax_S) : ax_J (cx_R, X) P 221 [some (.ref (ax_ad (cx_R, X) 0)), some (.int l1), some (.int l2), some (.long l3), none, some (.int l5), some (.int l6), some (.int l7), some (.int l8), none, none, none, none] [.int k0] s (j_X10_led_159_221 l1 l2 l3 l5 l6 l7 l8 k0 s) := by
  unfold j_X10_led_159_221
  refine ax_j (ax_istore hV [some (.ref (ax_ad (cx_R, X) 0)), some (.int l1), some (.int l2), some (.long l3), none, some (.int l5), some (.int l6), some (.int l7), some (.int l8), some (.int k0), none, none, none] dX10_led_221 rfl rfl) ?_
  refine ax_j (ax_iload_n hV dX10_led_223 rfl) ?_
  refine ax_j (ax_iconst hV (1 : Int32) dX10_led_224 (by decide)) ?_
  refine ax_jif (ax_icmp_ne hV dX10_led_225) ?_ ?_
  · refine ax_j (ax_aload_n hV dX10_led_228 rfl) ?_
    refine ax_j (ax_gfr hV lf_X10_28 dX10_led_229 rfl rfl) ?_
    refine ax_j (ax_iload hV dX10_led_232 rfl) ?_
    refine ax_jb (ax_iald hV dX10_led_234) (fun v234 => ?_)
    refine ax_j (ax_ineg hV dX10_led_235) ?_
    refine ax_j (ax_goto hV dX10_led_236) ?_
    exact N_X10_led_159_246 X hV l1 l2 l3 P hI hO l5 l6 l7 l8 k0 (-v234) s
  · refine ax_j (ax_aload_n hV dX10_led_239 rfl) ?_
    refine ax_j (ax_gfr hV lf_X10_31 dX10_led_240 rfl rfl) ?_
    refine ax_j (ax_iload hV dX10_led_243 rfl) ?_
    refine ax_jb (ax_iald hV dX10_led_245) (fun v245 => ?_)
    exact N_X10_led_159_246 X hV l1 l2 l3 P hI hO l5 l6 l7 l8 k0 v245 s
theorem B_X10_led_159 (X : ax_G × ax_K × Option Value × ax_S) (hV : ax_ok (cx_R, X) mu_X10_led) (l1 : Int32) (l2 : Int32) (l3 : Int64) (P : ((Int32 × Int32 × ax_S) ⊕ (Int32 × ax_S)) → Prop) (hI : ∀ a : Int32 × Int32 × ax_S, P (.inl a) → ax_At (cx_R, X) 159 [some (.ref (ax_ad (cx_R, X) 0)), some (.int l1), some (.int l2), some (.long l3), none, some (.int a.1), some (.int a.2.1), none, none, none, none, none, none] [] a.2.2) (hO : ∀ e : Int32 × ax_S, P (.inr e) → ax_At (cx_R, X) 330 [some (.ref (ax_ad (cx_R, X) 0)), some (.int l1), some (.int l2), some (.long l3), none, some (.int e.1), none, none, none, none, none, none, none] [] e.2) (a : Int32 × Int32 × ax_S) : ax_J (cx_R, X) P 159 [some (.ref (ax_ad (cx_R, X) 0)), some (.int l1), some (.int l2), some (.long l3), none, some (.int a.1), some (.int a.2.1), none, none, none, none, none, none] [] a.2.2 (b_X10_led_159 l1 l2 l3 a) := by
  unfold b_X10_led_159
  refine ax_j (ax_iload hV dX10_led_159 rfl) ?_
  refine ax_j (ax_aload_n hV dX10_led_161 rfl) ?_
  refine ax_j (ax_gfi hV lf_X10_111 dX10_led_162 rfl rfl) ?_
  refine ax_jif (ax_icmp_ge hV dX10_led_165) ?_ ?_
  · refine ax_jf (lv' := [some (.ref (ax_ad (cx_R, X) 0)), some (.int l1), some (.int l2), some (.long l3), none, some (.int a.1), none, none, none, none, none, none, none]) [true, true, true, true, false, true, false, false, false, false, false, false, false] rfl ?_
    exact ax_jl (fun h => hO (a.1, a.2.2) h)
  · refine ax_j (ax_lload_n hV dX10_led_168 rfl) ?_
    refine ax_j (ax_iload hV dX10_led_169 rfl) ?_
    refine ax_j (ax_lshr_ hV dX10_led_171) ?_
    refine ax_j (ax_lconst hV (1 : Int64) dX10_led_172 (by decide)) ?_
    refine ax_j (ax_land hV dX10_led_173) ?_
    refine ax_j (ax_lconst hV (1 : Int64) dX10_led_174 (by decide)) ?_
    refine ax_j (ax_lcmp hV dX10_led_175) ?_
    refine ax_jif (ax_if_ne hV dX10_led_176) ?_ ?_
    · refine ax_j (ax_iconst hV (1 : Int32) dX10_led_179 (by decide)) ?_
      refine ax_j (ax_aload_n hV dX10_led_180 rfl) ?_
      refine ax_j (ax_gfr hV lf_X10_22 dX10_led_181 rfl rfl) ?_
      refine ax_j (ax_iload hV dX10_led_184 rfl) ?_
      refine ax_jb (ax_iald hV dX10_led_186) (fun v186 => ?_)
      refine ax_j (ax_iadd hV dX10_led_187) ?_
      refine ax_j (ax_istore hV [some (.ref (ax_ad (cx_R, X) 0)), some (.int l1), some (.int l2), some (.long l3), none, some (.int a.1), some (.int a.2.1), some (.int ((1 : Int32) + v186)), none, none, none, none, none] dX10_led_188 rfl rfl) ?_
      refine ax_j (ax_aload_n hV dX10_led_190 rfl) ?_
      refine ax_j (ax_iload hV dX10_led_191 rfl) ?_
      refine ax_jb (fun v ho => ax_cVi hV lk_X10_160 rfl dX10_led_193 rfl rfl [.int a.2.1] [] (fun ad => [.ref (ad 0), .int a.2.1]) rfl rfl rfl rfl v a.2.2 (T_X10_leansOn a.2.1 a.2.2 v ho)) (fun q193 => ?_)
      refine ax_j (ax_istore hV [some (.ref (ax_ad (cx_R, X) 0)), some (.int l1), some (.int l2), some (.long l3), none, some (.int a.1), some (.int a.2.1), some (.int ((1 : Int32) + v186)), some (.int q193), none, none, none, none] dX10_led_196 rfl rfl) ?_
      refine ax_j (ax_iload_n hV dX10_led_198 rfl) ?_
      refine ax_j (ax_iconst hV (1 : Int32) dX10_led_199 (by decide)) ?_
      refine ax_jif (ax_icmp_ne hV dX10_led_200) ?_ ?_
      · refine ax_j (ax_aload_n hV dX10_led_203 rfl) ?_
        refine ax_j (ax_gfr hV lf_X10_31 dX10_led_204 rfl rfl) ?_
        refine ax_j (ax_iload hV dX10_led_207 rfl) ?_
        refine ax_jb (ax_iald hV dX10_led_209) (fun v209 => ?_)
        refine ax_j (ax_goto hV dX10_led_210) ?_
        exact N_X10_led_159_221 X hV l1 l2 l3 P hI hO a.1 a.2.1 ((1 : Int32) + v186) q193 v209 a.2.2
      · refine ax_j (ax_aload_n hV dX10_led_213 rfl) ?_
        refine ax_j (ax_gfr hV lf_X10_28 dX10_led_214 rfl rfl) ?_
        refine ax_j (ax_iload hV dX10_led_217 rfl) ?_
        refine ax_jb (ax_iald hV dX10_led_219) (fun v219 => ?_)
        refine ax_j (ax_ineg hV dX10_led_220) ?_
        exact N_X10_led_159_221 X hV l1 l2 l3 P hI hO a.1 a.2.1 ((1 : Int32) + v186) q193 (-v219) a.2.2
    · refine ax_j (ax_iinc hV (a.2.1 + 1) [some (.ref (ax_ad (cx_R, X) 0)), some (.int l1), some (.int l2), some (.long l3), none, some (.int a.1), some (.int (a.2.1 + 1)), none, none, none, none, none, none] dX10_led_324 rfl rfl rfl rfl) ?_
      refine ax_j (ax_goto hV dX10_led_327) ?_
      exact ax_jl (fun h => hI (a.1, (a.2.1 + 1), a.2.2) h)
theorem B_X10_led_148 (X : ax_G × ax_K × Option Value × ax_S) (hV : ax_ok (cx_R, X) mu_X10_led) (l1 : Int32) (l2 : Int32) (l3 : Int64) (P : ((Int32 × ax_S) ⊕ (ax_S)) → Prop) (hI : ∀ a : Int32 × ax_S, P (.inl a) → ax_At (cx_R, X) 148 [some (.ref (ax_ad (cx_R, X) 0)), some (.int l1), some (.int l2), some (.long l3), none, some (.int a.1), none, none, none, none, none, none, none] [] a.2) (hO : ∀ e : ax_S, P (.inr e) → ax_At (cx_R, X) 333 [some (.ref (ax_ad (cx_R, X) 0)), some (.int l1), none, none, none, none, none, none, none, none, none, none, none] [] e) (a : Int32 × ax_S) : ax_J (cx_R, X) P 148 [some (.ref (ax_ad (cx_R, X) 0)), some (.int l1), some (.int l2), some (.long l3), none, some (.int a.1), none, none, none, none, none, none, none] [] a.2 (b_X10_led_148 l1 l2 l3 a) := by
  unfold b_X10_led_148
  refine ax_j (ax_iload hV dX10_led_148 rfl) ?_
  refine ax_jif (ax_if_eq hV dX10_led_150) ?_ ?_
  · refine ax_jf (lv' := [some (.ref (ax_ad (cx_R, X) 0)), some (.int l1), none, none, none, none, none, none, none, none, none, none, none]) [true, true, false, false, false, false, false, false, false, false, false, false, false] rfl ?_
    exact ax_jl (fun h => hO a.2 h)
  · refine ax_j (ax_iconst hV (0 : Int32) dX10_led_153 (by decide)) ?_
    refine ax_j (ax_istore hV [some (.ref (ax_ad (cx_R, X) 0)), some (.int l1), some (.int l2), some (.long l3), none, some (.int (0 : Int32)), none, none, none, none, none, none, none] dX10_led_154 rfl rfl) ?_
    refine ax_j (ax_iconst hV (0 : Int32) dX10_led_156 (by decide)) ?_
    refine ax_j (ax_istore hV [some (.ref (ax_ad (cx_R, X) 0)), some (.int l1), some (.int l2), some (.long l3), none, some (.int (0 : Int32)), some (.int (0 : Int32)), none, none, none, none, none, none] dX10_led_157 rfl rfl) ?_
    refine ax_jlp ((0 : Int32), (0 : Int32), a.2) (fun x159 : Int32 × Int32 × ax_S => [some (.ref (ax_ad (cx_R, X) 0)), some (.int l1), some (.int l2), some (.long l3), none, some (.int x159.1), some (.int x159.2.1), none, none, none, none, none, none]) (fun x159 : Int32 × Int32 × ax_S => x159.2.2) (fun y159 : Int32 × ax_S => [some (.ref (ax_ad (cx_R, X) 0)), some (.int l1), some (.int l2), some (.long l3), none, some (.int y159.1), none, none, none, none, none, none, none]) (fun y159 : Int32 × ax_S => y159.2) (fun P' h1 h2 w => B_X10_led_159 X hV l1 l2 l3 P' h1 h2 w) (fun e159 => ?_)
    refine ax_j (ax_goto hV dX10_led_330) ?_
    exact ax_jl (fun h => hI (e159.1, e159.2) h)
theorem T_X10_led (p1 : Int32) (p2 : Int32) (s : ax_S) (r : Int32 × ax_S) (h : f_X10_led p1 p2 s = some r) : ax_M cx_R mu_X10_led (fun ad => [.ref (ad 0), .int p1, .int p2]) s (some (.int r.1)) r.2 := by
  refine ax_enter (by decide +kernel) 10 (fun ad => [some (.ref (ad 0)), some (.int p1), some (.int p2), none, none, none, none, none, none, none, none, none, none]) (fun ad => rfl) (fun ad => Nat.le_of_ble_eq_true rfl) (fun X hV ho => ?_)
  refine ax_go (fun r : Int32 × ax_S => (some (Value.int r.1), r.2)) (fun P hP => ?_) h ho
  unfold f_X10_led
  refine ax_j (ax_aload_n hV dX10_led_0 rfl) ?_
  refine ax_j (ax_iload_n hV dX10_led_1 rfl) ?_
  refine ax_jb (fun v ho => ax_cVi hV lk_X10_122 rfl dX10_led_2 rfl rfl [.int p1] [] (fun ad => [.ref (ad 0), .int p1]) rfl rfl rfl rfl v s (T_X10_isThing p1 s v ho)) (fun q2 => ?_)
  refine ax_jif (ax_if_eq hV dX10_led_5) ?_ ?_
  · refine ax_j (ax_bipush hV (-2 : Int32) dX10_led_17 (by decide)) ?_
    exact ax_jl (fun h => ax_ir hV rfl dX10_led_19 (hP ((-2 : Int32), s) h))
  · refine ax_j (ax_iload_n hV dX10_led_8 rfl) ?_
    refine ax_j (ax_iconst hV (0 : Int32) dX10_led_9 (by decide)) ?_
    refine ax_j (ax_iconst hV (1 : Int32) dX10_led_10 (by decide)) ?_
    refine ax_jb (fun v ho => ax_cSi hV lk_X10_97 rfl dX10_led_11 [.int p2, .int (0 : Int32), .int (1 : Int32)] [] (fun ad => [.int p2, .int (0 : Int32), .int (1 : Int32)]) rfl rfl rfl rfl v s (T_X10_in p2 (0 : Int32) (1 : Int32) s v ho)) (fun q11 => ?_)
    refine ax_jif (ax_if_ne hV dX10_led_14) ?_ ?_
    · refine ax_j (ax_bipush hV (-2 : Int32) dX10_led_17 (by decide)) ?_
      exact ax_jl (fun h => ax_ir hV rfl dX10_led_19 (hP ((-2 : Int32), s) h))
    · refine ax_j (ax_aload_n hV dX10_led_20 rfl) ?_
      refine ax_jb (fun v ho => ax_cVi hV lk_X10_173 rfl dX10_led_21 rfl rfl [] [] (fun ad => [.ref (ad 0)]) rfl rfl rfl rfl v.1 v.2 (T_X10_canAll s v ho)) (fun q21 => ?_)
      refine ax_jif (ax_if_ne hV dX10_led_24) ?_ ?_
      · refine ax_j (ax_bipush hV (-3 : Int32) dX10_led_27 (by decide)) ?_
        exact ax_jl (fun h => ax_ir hV rfl dX10_led_29 (hP ((-3 : Int32), q21.2) h))
      · refine ax_j (ax_iconst hV (0 : Int32) dX10_led_30 (by decide)) ?_
        refine ax_j (ax_istore_n hV [some (.ref (ax_ad (cx_R, X) 0)), some (.int p1), some (.int p2), some (.int (0 : Int32)), none, none, none, none, none, none, none, none, none] dX10_led_31 rfl rfl) ?_
        refine ax_jlp ((0 : Int32), q21.2) (fun x32 : Int32 × ax_S => [some (.ref (ax_ad (cx_R, X) 0)), some (.int p1), some (.int p2), some (.int x32.1), none, none, none, none, none, none, none, none, none]) (fun x32 : Int32 × ax_S => x32.2) (fun y32 : ax_S => [some (.ref (ax_ad (cx_R, X) 0)), some (.int p1), some (.int p2), none, none, none, none, none, none, none, none, none, none]) (fun y32 : ax_S => y32) (fun P' h1 h2 w => B_X10_led_32 X hV p1 p2 P' h1 h2 w) (fun e32 => ?_)
        refine ax_j (ax_aload_n hV dX10_led_140 rfl) ?_
        refine ax_jb (fun v ho => ax_cVl hV lk_X10_163 rfl dX10_led_141 rfl rfl [] [] (fun ad => [.ref (ad 0)]) rfl rfl rfl rfl v e32 (T_X10_knownNow e32 v ho)) (fun q141 => ?_)
        refine ax_j (ax_lstore_n hV [some (.ref (ax_ad (cx_R, X) 0)), some (.int p1), some (.int p2), some (.long q141), none, none, none, none, none, none, none, none, none] dX10_led_144 rfl rfl) ?_
        refine ax_j (ax_iconst hV (1 : Int32) dX10_led_145 (by decide)) ?_
        refine ax_j (ax_istore hV [some (.ref (ax_ad (cx_R, X) 0)), some (.int p1), some (.int p2), some (.long q141), none, some (.int (1 : Int32)), none, none, none, none, none, none, none] dX10_led_146 rfl rfl) ?_
        refine ax_jlp ((1 : Int32), e32) (fun x148 : Int32 × ax_S => [some (.ref (ax_ad (cx_R, X) 0)), some (.int p1), some (.int p2), some (.long q141), none, some (.int x148.1), none, none, none, none, none, none, none]) (fun x148 : Int32 × ax_S => x148.2) (fun y148 : ax_S => [some (.ref (ax_ad (cx_R, X) 0)), some (.int p1), none, none, none, none, none, none, none, none, none, none, none]) (fun y148 : ax_S => y148) (fun P' h1 h2 w => B_X10_led_148 X hV p1 p2 q141 P' h1 h2 w) (fun e148 => ?_)
        refine ax_j (ax_aload_n hV dX10_led_333 rfl) ?_
        refine ax_j (ax_gfr hV lf_X10_50 dX10_led_334 rfl rfl) ?_
        refine ax_j (ax_iconst hV (1 : Int32) dX10_led_337 (by decide)) ?_
        refine ax_j (ax_iload_n hV dX10_led_338 rfl) ?_
        refine ax_j (ax_iadd hV dX10_led_339) ?_
        refine ax_jb (ax_iald hV dX10_led_340) (fun v340 => ?_)
        exact ax_jl (fun h => ax_ir hV rfl dX10_led_341 (hP (v340, e148) h))

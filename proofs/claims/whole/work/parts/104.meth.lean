def mu_X9_takeBack : ax_Mu := (yX9_takeBack, cX9_takeBack, 2, some .int, 1, 21)
theorem lc_X9_takeBack : Cond.code mu_X9_takeBack.1 mu_X9_takeBack.2.1 mu_X9_takeBack.2.2.1 mu_X9_takeBack.2.2.2.1 ∈ ax_tb := (ax_m2 141 rfl rfl)
noncomputable def f_X9_takeBack (p1 : Int32) (s : ax_S) : Option (Int32 × ax_S) := (f_X9_isRow p1 s).bind (fun q2 => (if q2 = 0 then some (((-2 : Int32), s)) else (ax_ai cx_C s 25 p1).bind (fun v19 => (if v19 = (-1 : Int32) then (ax_si cx_C s 25 p1 (s.1 0 8)).bind (fun s39 => some (((1 : Int32), s39))) else some (((-3 : Int32), s))))))
theorem T_X9_takeBack (p1 : Int32) (s : ax_S) (r : Int32 × ax_S) (h : f_X9_takeBack p1 s = some r) : ax_M cx_C mu_X9_takeBack (fun ad => [.ref (ad 0), .int p1]) s (some (.int r.1)) r.2 := by
  refine ax_enter (by decide +kernel) 0 (fun ad => [some (.ref (ad 0)), some (.int p1)]) (fun ad => rfl) (fun ad => Nat.le_of_ble_eq_true rfl) (fun X hV ho => ?_)
  refine ax_go (fun r : Int32 × ax_S => (some (Value.int r.1), r.2)) (fun P hP => ?_) h ho
  unfold f_X9_takeBack
  refine ax_j (ax_aload_n hV dX9_takeBack_0 rfl) ?_
  refine ax_j (ax_iload_n hV dX9_takeBack_1 rfl) ?_
  refine ax_jb (fun v ho => ax_cVi hV lk_X9_123 rfl dX9_takeBack_2 rfl rfl [.int p1] [] (fun ad => [.ref (ad 0), .int p1]) rfl rfl rfl rfl v s (T_X9_isRow p1 s v ho)) (fun q2 => ?_)
  refine ax_jif (ax_if_ne hV dX9_takeBack_5) ?_ ?_
  · refine ax_j (ax_bipush hV (-2 : Int32) dX9_takeBack_8 (by decide)) ?_
    exact ax_jl (fun h => ax_ir hV rfl dX9_takeBack_10 (hP ((-2 : Int32), s) h))
  · refine ax_j (ax_aload_n hV dX9_takeBack_11 rfl) ?_
    refine ax_j (ax_gfr hV lf_X9_25 dX9_takeBack_12 rfl rfl) ?_
    refine ax_j (ax_gfr hV lf_X9_126 dX9_takeBack_15 rfl rfl) ?_
    refine ax_j (ax_iload_n hV dX9_takeBack_18 rfl) ?_
    refine ax_jb (ax_iald hV dX9_takeBack_19) (fun v19 => ?_)
    refine ax_j (ax_iconst hV (-1 : Int32) dX9_takeBack_20 (by decide)) ?_
    refine ax_jif (ax_icmp_eq hV dX9_takeBack_21) ?_ ?_
    · refine ax_j (ax_aload_n hV dX9_takeBack_27 rfl) ?_
      refine ax_j (ax_gfr hV lf_X9_25 dX9_takeBack_28 rfl rfl) ?_
      refine ax_j (ax_gfr hV lf_X9_126 dX9_takeBack_31 rfl rfl) ?_
      refine ax_j (ax_iload_n hV dX9_takeBack_34 rfl) ?_
      refine ax_j (ax_aload_n hV dX9_takeBack_35 rfl) ?_
      refine ax_j (ax_gfi hV lf_X9_61 dX9_takeBack_36 rfl rfl) ?_
      refine ax_jb (ax_iast hV dX9_takeBack_39) (fun s39 => ?_)
      refine ax_j (ax_iconst hV (1 : Int32) dX9_takeBack_40 (by decide)) ?_
      exact ax_jl (fun h => ax_ir hV rfl dX9_takeBack_41 (hP ((1 : Int32), s39) h))
    · refine ax_j (ax_bipush hV (-3 : Int32) dX9_takeBack_24 (by decide)) ?_
      exact ax_jl (fun h => ax_ir hV rfl dX9_takeBack_26 (hP ((-3 : Int32), s) h))
def mu_X9_dayOfView : ax_Mu := (yX9_dayOfView, cX9_dayOfView, 1, some .int, 0, 0)
theorem lc_X9_dayOfView : Cond.code mu_X9_dayOfView.1 mu_X9_dayOfView.2.1 mu_X9_dayOfView.2.2.1 mu_X9_dayOfView.2.2.2.1 ∈ ax_tb := (ax_m2 154 rfl rfl)
noncomputable def f_X9_dayOfView  (s : ax_S) : Option (Int32) := (if (s.1 0 9) = (-1 : Int32) then some ((s.1 0 8)) else some ((s.1 0 9)))
theorem T_X9_dayOfView  (s : ax_S) (r : Int32) (h : f_X9_dayOfView s = some r) : ax_M cx_C mu_X9_dayOfView (fun ad => [.ref (ad 0)]) s (some (.int r)) s := by
  refine ax_enter (by decide +kernel) 0 (fun ad => [some (.ref (ad 0))]) (fun ad => rfl) (fun ad => Nat.le_of_ble_eq_true rfl) (fun X hV ho => ?_)
  refine ax_go (fun r : Int32 => (some (Value.int r), s)) (fun P hP => ?_) h ho
  unfold f_X9_dayOfView
  refine ax_j (ax_aload_n hV dX9_dayOfView_0 rfl) ?_
  refine ax_j (ax_gfi hV lf_X9_65 dX9_dayOfView_1 rfl rfl) ?_
  refine ax_j (ax_iconst hV (-1 : Int32) dX9_dayOfView_4 (by decide)) ?_
  refine ax_jif (ax_icmp_ne hV dX9_dayOfView_5) ?_ ?_
  · refine ax_j (ax_aload_n hV dX9_dayOfView_8 rfl) ?_
    refine ax_j (ax_gfi hV lf_X9_61 dX9_dayOfView_9 rfl rfl) ?_
    refine ax_j (ax_goto hV dX9_dayOfView_12) ?_
    exact ax_jl (fun h => ax_ir hV rfl dX9_dayOfView_19 (hP (s.1 0 8) h))
  · refine ax_j (ax_aload_n hV dX9_dayOfView_15 rfl) ?_
    refine ax_j (ax_gfi hV lf_X9_65 dX9_dayOfView_16 rfl rfl) ?_
    exact ax_jl (fun h => ax_ir hV rfl dX9_dayOfView_19 (hP (s.1 0 9) h))
theorem lk_X9_148 : ax_lkV RX9 148 mu_X9_dayOfView RX9 0 := ax_lkV_of (ax_m2 151 rfl rfl) (ax_m2 153 rfl rfl) (ax_mp1 6 rfl rfl rfl) (ax_m1 1 rfl rfl) lc_X9_dayOfView rfl ⟨by decide +kernel, by decide +kernel, by decide +kernel⟩
def mu_X9_oneIf : ax_Mu := (yX9_oneIf, cX9_oneIf, 1, some .int, 0, 0)
theorem lc_X9_oneIf : Cond.code mu_X9_oneIf.1 mu_X9_oneIf.2.1 mu_X9_oneIf.2.2.1 mu_X9_oneIf.2.2.2.1 ∈ ax_tb := (ax_m2 161 rfl rfl)
noncomputable def f_X9_oneIf (p1 : Int32) : Option (Int32) := (if p1 = 0 then some ((0 : Int32)) else some ((1 : Int32)))
theorem T_X9_oneIf (p1 : Int32) (s : ax_S) (r : Int32) (h : f_X9_oneIf p1 = some r) : ax_M cx_C mu_X9_oneIf (fun ad => [.int p1]) s (some (.int r)) s := by
  refine ax_enter (by decide +kernel) 0 (fun ad => [some (.int p1)]) (fun ad => rfl) (fun ad => Nat.le_of_ble_eq_true rfl) (fun X hV ho => ?_)
  refine ax_go (fun r : Int32 => (some (Value.int r), s)) (fun P hP => ?_) h ho
  unfold f_X9_oneIf
  refine ax_j (ax_iload_n hV dX9_oneIf_0 rfl) ?_
  refine ax_jif (ax_if_eq hV dX9_oneIf_1) ?_ ?_
  · refine ax_j (ax_iconst hV (0 : Int32) dX9_oneIf_8 (by decide)) ?_
    exact ax_jl (fun h => ax_ir hV rfl dX9_oneIf_9 (hP (0 : Int32) h))
  · refine ax_j (ax_iconst hV (1 : Int32) dX9_oneIf_4 (by decide)) ?_
    refine ax_j (ax_goto hV dX9_oneIf_5) ?_
    exact ax_jl (fun h => ax_ir hV rfl dX9_oneIf_9 (hP (1 : Int32) h))
theorem lk_X9_155 : ax_lkS RX9 155 mu_X9_oneIf 1 := ax_lkS_of (ax_m2 159 rfl rfl) (ax_m2 160 rfl rfl) (ax_m1 1 rfl rfl) lc_X9_oneIf ⟨by decide +kernel, by decide +kernel, by decide +kernel⟩
def mu_X9_about : ax_Mu := (yX9_about, cX9_about, 3, some .int, 1, 22)
theorem lc_X9_about : Cond.code mu_X9_about.1 mu_X9_about.2.1 mu_X9_about.2.2.1 mu_X9_about.2.2.2.1 ∈ ax_tb := (ax_m2 149 rfl rfl)
noncomputable def f_X9_about (p1 : Int32) (p2 : Int32) (s : ax_S) : Option (Int32) := (f_X9_isRow p1 s).bind (fun q2 => (if q2 = 0 then some ((-300000 : Int32)) else (if p2 = 0 then (ax_ai cx_C s 19 p1).bind (fun v68 => some (v68)) else (if p2 = 1 then (ax_ai cx_C s 20 p1).bind (fun v78 => some (v78)) else (if p2 = 2 then (ax_ai cx_C s 21 p1).bind (fun v88 => some (v88)) else (if p2 = 3 then (ax_ai cx_C s 22 p1).bind (fun v98 => some (v98)) else (if p2 = 4 then (ax_ai cx_C s 23 p1).bind (fun v108 => some (v108)) else (if p2 = 5 then (ax_ai cx_C s 24 p1).bind (fun v118 => some (v118)) else (if p2 = 6 then (ax_ai cx_C s 25 p1).bind (fun v128 => some (v128)) else (if p2 = 7 then (f_X9_dayOfView s).bind (fun q136 => (f_X7_isKnown p1 q136 s).bind (fun q139 => (f_X9_oneIf q139).bind (fun q142 => some (q142)))) else some ((-300000 : Int32))))))))))))
theorem T_X9_about (p1 : Int32) (p2 : Int32) (s : ax_S) (r : Int32) (h : f_X9_about p1 p2 s = some r) : ax_M cx_C mu_X9_about (fun ad => [.ref (ad 0), .int p1, .int p2]) s (some (.int r)) s := by
  refine ax_enter (by decide +kernel) 0 (fun ad => [some (.ref (ad 0)), some (.int p1), some (.int p2)]) (fun ad => rfl) (fun ad => Nat.le_of_ble_eq_true rfl) (fun X hV ho => ?_)
  refine ax_go (fun r : Int32 => (some (Value.int r), s)) (fun P hP => ?_) h ho
  unfold f_X9_about
  refine ax_j (ax_aload_n hV dX9_about_0 rfl) ?_
  refine ax_j (ax_iload_n hV dX9_about_1 rfl) ?_
  refine ax_jb (fun v ho => ax_cVi hV lk_X9_123 rfl dX9_about_2 rfl rfl [.int p1] [] (fun ad => [.ref (ad 0), .int p1]) rfl rfl rfl rfl v s (T_X9_isRow p1 s v ho)) (fun q2 => ?_)
  refine ax_jif (ax_if_ne hV dX9_about_5) ?_ ?_
  · refine ax_j (ax_ldc hV kc_X9_129 dX9_about_8) ?_
    exact ax_jl (fun h => ax_ir hV rfl dX9_about_10 (hP (-300000 : Int32) h))
  · refine ax_j (ax_iload_n hV dX9_about_11 rfl) ?_
    refine ax_jc (fun h12_0 => ?_) (fun h12_0 => ?_)
    · refine ax_j (ax_tsw (tgt := 60) hV 0 h12_0 dX9_about_12 rfl (by decide) (by decide) (by decide)) ?_
      refine ax_j (ax_aload_n hV dX9_about_60 rfl) ?_
      refine ax_j (ax_gfr hV lf_X9_25 dX9_about_61 rfl rfl) ?_
      refine ax_j (ax_gfr hV lf_X9_130 dX9_about_64 rfl rfl) ?_
      refine ax_j (ax_iload_n hV dX9_about_67 rfl) ?_
      refine ax_jb (ax_iald hV dX9_about_68) (fun v68 => ?_)
      exact ax_jl (fun h => ax_ir hV rfl dX9_about_69 (hP v68 h))
    · refine ax_jc (fun h12_1 => ?_) (fun h12_1 => ?_)
      · refine ax_j (ax_tsw (tgt := 70) hV 1 h12_1 dX9_about_12 rfl (by decide) (by decide) (by decide)) ?_
        refine ax_j (ax_aload_n hV dX9_about_70 rfl) ?_
        refine ax_j (ax_gfr hV lf_X9_25 dX9_about_71 rfl rfl) ?_
        refine ax_j (ax_gfr hV lf_X9_133 dX9_about_74 rfl rfl) ?_
        refine ax_j (ax_iload_n hV dX9_about_77 rfl) ?_
        refine ax_jb (ax_iald hV dX9_about_78) (fun v78 => ?_)
        exact ax_jl (fun h => ax_ir hV rfl dX9_about_79 (hP v78 h))
      · refine ax_jc (fun h12_2 => ?_) (fun h12_2 => ?_)
        · refine ax_j (ax_tsw (tgt := 80) hV 2 h12_2 dX9_about_12 rfl (by decide) (by decide) (by decide)) ?_
          refine ax_j (ax_aload_n hV dX9_about_80 rfl) ?_
          refine ax_j (ax_gfr hV lf_X9_25 dX9_about_81 rfl rfl) ?_
          refine ax_j (ax_gfr hV lf_X9_136 dX9_about_84 rfl rfl) ?_
          refine ax_j (ax_iload_n hV dX9_about_87 rfl) ?_
          refine ax_jb (ax_iald hV dX9_about_88) (fun v88 => ?_)
          exact ax_jl (fun h => ax_ir hV rfl dX9_about_89 (hP v88 h))
        · refine ax_jc (fun h12_3 => ?_) (fun h12_3 => ?_)
          · refine ax_j (ax_tsw (tgt := 90) hV 3 h12_3 dX9_about_12 rfl (by decide) (by decide) (by decide)) ?_
            refine ax_j (ax_aload_n hV dX9_about_90 rfl) ?_
            refine ax_j (ax_gfr hV lf_X9_25 dX9_about_91 rfl rfl) ?_
            refine ax_j (ax_gfr hV lf_X9_139 dX9_about_94 rfl rfl) ?_
            refine ax_j (ax_iload_n hV dX9_about_97 rfl) ?_
            refine ax_jb (ax_iald hV dX9_about_98) (fun v98 => ?_)
            exact ax_jl (fun h => ax_ir hV rfl dX9_about_99 (hP v98 h))
          · refine ax_jc (fun h12_4 => ?_) (fun h12_4 => ?_)
            · refine ax_j (ax_tsw (tgt := 100) hV 4 h12_4 dX9_about_12 rfl (by decide) (by decide) (by decide)) ?_
              refine ax_j (ax_aload_n hV dX9_about_100 rfl) ?_
              refine ax_j (ax_gfr hV lf_X9_25 dX9_about_101 rfl rfl) ?_
              refine ax_j (ax_gfr hV lf_X9_142 dX9_about_104 rfl rfl) ?_
              refine ax_j (ax_iload_n hV dX9_about_107 rfl) ?_
              refine ax_jb (ax_iald hV dX9_about_108) (fun v108 => ?_)
              exact ax_jl (fun h => ax_ir hV rfl dX9_about_109 (hP v108 h))
            · refine ax_jc (fun h12_5 => ?_) (fun h12_5 => ?_)
              · refine ax_j (ax_tsw (tgt := 110) hV 5 h12_5 dX9_about_12 rfl (by decide) (by decide) (by decide)) ?_
                refine ax_j (ax_aload_n hV dX9_about_110 rfl) ?_
                refine ax_j (ax_gfr hV lf_X9_25 dX9_about_111 rfl rfl) ?_
                refine ax_j (ax_gfr hV lf_X9_145 dX9_about_114 rfl rfl) ?_
                refine ax_j (ax_iload_n hV dX9_about_117 rfl) ?_
                refine ax_jb (ax_iald hV dX9_about_118) (fun v118 => ?_)
                exact ax_jl (fun h => ax_ir hV rfl dX9_about_119 (hP v118 h))
              · refine ax_jc (fun h12_6 => ?_) (fun h12_6 => ?_)
                · refine ax_j (ax_tsw (tgt := 120) hV 6 h12_6 dX9_about_12 rfl (by decide) (by decide) (by decide)) ?_
                  refine ax_j (ax_aload_n hV dX9_about_120 rfl) ?_
                  refine ax_j (ax_gfr hV lf_X9_25 dX9_about_121 rfl rfl) ?_
                  refine ax_j (ax_gfr hV lf_X9_126 dX9_about_124 rfl rfl) ?_
                  refine ax_j (ax_iload_n hV dX9_about_127 rfl) ?_
                  refine ax_jb (ax_iald hV dX9_about_128) (fun v128 => ?_)
                  exact ax_jl (fun h => ax_ir hV rfl dX9_about_129 (hP v128 h))
                · refine ax_jc (fun h12_7 => ?_) (fun h12_7 => ?_)
                  · refine ax_j (ax_tsw (tgt := 130) hV 7 h12_7 dX9_about_12 rfl (by decide) (by decide) (by decide)) ?_
                    refine ax_j (ax_aload_n hV dX9_about_130 rfl) ?_
                    refine ax_j (ax_gfr hV lf_X9_25 dX9_about_131 rfl rfl) ?_
                    refine ax_j (ax_iload_n hV dX9_about_134 rfl) ?_
                    refine ax_j (ax_aload_n hV dX9_about_135 rfl) ?_
                    refine ax_jb (fun v ho => ax_cVi hV lk_X9_148 rfl dX9_about_136 rfl rfl [] [.int p1, .ref (ax_ad (cx_C, X) 2)] (fun ad => [.ref (ad 0)]) rfl rfl rfl rfl v s (T_X9_dayOfView s v ho)) (fun q136 => ?_)
                    refine ax_jb (fun v ho => ax_cVi hV lk_X9_152 rfl dX9_about_139 rfl rfl [.int p1, .int q136] [] (fun ad => [.ref (ad 2), .int p1, .int q136]) rfl rfl rfl rfl v s (T_X7_isKnown p1 q136 s v ho)) (fun q139 => ?_)
                    refine ax_jb (fun v ho => ax_cSi hV lk_X9_155 rfl dX9_about_142 [.int q139] [] (fun ad => [.int q139]) rfl rfl rfl rfl v s (T_X9_oneIf q139 s v ho)) (fun q142 => ?_)
                    exact ax_jl (fun h => ax_ir hV rfl dX9_about_145 (hP q142 h))
                  · refine ax_j (ax_tswd (tgt := 146) hV (ax_nk_s (ax_nk_s (ax_nk_s (ax_nk_s (ax_nk_s (ax_nk_s (ax_nk_s (ax_nk_s ax_nk_0 h12_0) h12_1) h12_2) h12_3) h12_4) h12_5) h12_6) h12_7) dX9_about_12 (by decide) (by decide)) ?_
                    refine ax_j (ax_ldc hV kc_X9_129 dX9_about_146) ?_
                    exact ax_jl (fun h => ax_ir hV rfl dX9_about_148 (hP (-300000 : Int32) h))
theorem lk_X9_352 : ax_lkV RX9 352 mu_X9_about RX9 2 := ax_lkV_of (ax_m4 157 rfl rfl) (ax_m2 147 rfl rfl) (ax_m2 148 rfl rfl) (ax_m1 1 rfl rfl) lc_X9_about rfl ⟨by decide +kernel, by decide +kernel, by decide +kernel⟩
def mu_X9_asOf : ax_Mu := (yX9_asOf, cX9_asOf, 3, some .int, 0, 0)
theorem lc_X9_asOf : Cond.code mu_X9_asOf.1 mu_X9_asOf.2.1 mu_X9_asOf.2.2.1 mu_X9_asOf.2.2.2.1 ∈ ax_tb := (ax_m2 165 rfl rfl)
noncomputable def f_X9_asOf (p1 : Int32) (s : ax_S) : Option (Int32 × ax_S) := (if p1 = (-1 : Int32) then some (((s.1 0 9), (ax_ui s 0 9 p1))) else (if p1 < 0 then some (((-2 : Int32), s)) else (if p1 ≤ (s.1 0 8) then some (((s.1 0 9), (ax_ui s 0 9 p1))) else some (((-2 : Int32), s)))))
theorem T_X9_asOf (p1 : Int32) (s : ax_S) (r : Int32 × ax_S) (h : f_X9_asOf p1 s = some r) : ax_M cx_C mu_X9_asOf (fun ad => [.ref (ad 0), .int p1]) s (some (.int r.1)) r.2 := by
  refine ax_enter (by decide +kernel) 1 (fun ad => [some (.ref (ad 0)), some (.int p1), none]) (fun ad => rfl) (fun ad => Nat.le_of_ble_eq_true rfl) (fun X hV ho => ?_)
  refine ax_go (fun r : Int32 × ax_S => (some (Value.int r.1), r.2)) (fun P hP => ?_) h ho
  unfold f_X9_asOf
  refine ax_j (ax_iload_n hV dX9_asOf_0 rfl) ?_
  refine ax_j (ax_iconst hV (-1 : Int32) dX9_asOf_1 (by decide)) ?_
  refine ax_jif (ax_icmp_eq hV dX9_asOf_2) ?_ ?_
  · refine ax_j (ax_aload_n hV dX9_asOf_20 rfl) ?_
    refine ax_j (ax_gfi hV lf_X9_65 dX9_asOf_21 rfl rfl) ?_
    refine ax_j (ax_istore_n hV [some (.ref (ax_ad (cx_C, X) 0)), some (.int p1), some (.int (s.1 0 9))] dX9_asOf_24 rfl rfl) ?_
    refine ax_j (ax_aload_n hV dX9_asOf_25 rfl) ?_
    refine ax_j (ax_iload_n hV dX9_asOf_26 rfl) ?_
    refine ax_j (ax_pfi hV lp_X9_65 dX9_asOf_27 rfl rfl) ?_
    refine ax_j (ax_iload_n hV dX9_asOf_30 rfl) ?_
    exact ax_jl (fun h => ax_ir hV rfl dX9_asOf_31 (hP ((s.1 0 9), (ax_ui s 0 9 p1)) h))
  · refine ax_j (ax_iload_n hV dX9_asOf_5 rfl) ?_
    refine ax_jif (ax_if_lt hV dX9_asOf_6) ?_ ?_
    · refine ax_j (ax_bipush hV (-2 : Int32) dX9_asOf_17 (by decide)) ?_
      exact ax_jl (fun h => ax_ir hV rfl dX9_asOf_19 (hP ((-2 : Int32), s) h))
    · refine ax_j (ax_iload_n hV dX9_asOf_9 rfl) ?_
      refine ax_j (ax_aload_n hV dX9_asOf_10 rfl) ?_
      refine ax_j (ax_gfi hV lf_X9_61 dX9_asOf_11 rfl rfl) ?_
      refine ax_jif (ax_icmp_le hV dX9_asOf_14) ?_ ?_
      · refine ax_j (ax_aload_n hV dX9_asOf_20 rfl) ?_
        refine ax_j (ax_gfi hV lf_X9_65 dX9_asOf_21 rfl rfl) ?_
        refine ax_j (ax_istore_n hV [some (.ref (ax_ad (cx_C, X) 0)), some (.int p1), some (.int (s.1 0 9))] dX9_asOf_24 rfl rfl) ?_
        refine ax_j (ax_aload_n hV dX9_asOf_25 rfl) ?_
        refine ax_j (ax_iload_n hV dX9_asOf_26 rfl) ?_
        refine ax_j (ax_pfi hV lp_X9_65 dX9_asOf_27 rfl rfl) ?_
        refine ax_j (ax_iload_n hV dX9_asOf_30 rfl) ?_
        exact ax_jl (fun h => ax_ir hV rfl dX9_asOf_31 (hP ((s.1 0 9), (ax_ui s 0 9 p1)) h))
      · refine ax_j (ax_bipush hV (-2 : Int32) dX9_asOf_17 (by decide)) ?_
        exact ax_jl (fun h => ax_ir hV rfl dX9_asOf_19 (hP ((-2 : Int32), s) h))
def mu_X9_knownRows : ax_Mu := (yX9_knownRows, cX9_knownRows, 1, some .long, 2, 46)
theorem lc_X9_knownRows : Cond.code mu_X9_knownRows.1 mu_X9_knownRows.2.1 mu_X9_knownRows.2.2.1 mu_X9_knownRows.2.2.2.1 ∈ ax_tb := (ax_m2 173 rfl rfl)
noncomputable def f_X9_knownRows  (s : ax_S) : Option (Int64) := (f_X9_dayOfView s).bind (fun q5 => (f_X7_knownAsOf q5 s).bind (fun q8 => some (q8)))
theorem T_X9_knownRows  (s : ax_S) (r : Int64) (h : f_X9_knownRows s = some r) : ax_M cx_C mu_X9_knownRows (fun ad => [.ref (ad 0)]) s (some (.long r)) s := by
  refine ax_enter (by decide +kernel) 0 (fun ad => [some (.ref (ad 0))]) (fun ad => rfl) (fun ad => Nat.le_of_ble_eq_true rfl) (fun X hV ho => ?_)
  refine ax_go (fun r : Int64 => (some (Value.long r), s)) (fun P hP => ?_) h ho
  unfold f_X9_knownRows
  refine ax_j (ax_aload_n hV dX9_knownRows_0 rfl) ?_
  refine ax_j (ax_gfr hV lf_X9_25 dX9_knownRows_1 rfl rfl) ?_
  refine ax_j (ax_aload_n hV dX9_knownRows_4 rfl) ?_
  refine ax_jb (fun v ho => ax_cVi hV lk_X9_148 rfl dX9_knownRows_5 rfl rfl [] [.ref (ax_ad (cx_C, X) 2)] (fun ad => [.ref (ad 0)]) rfl rfl rfl rfl v s (T_X9_dayOfView s v ho)) (fun q5 => ?_)
  refine ax_jb (fun v ho => ax_cVl hV lk_X9_197 rfl dX9_knownRows_8 rfl rfl [.int q5] [] (fun ad => [.ref (ad 2), .int q5]) rfl rfl rfl rfl v s (T_X7_knownAsOf q5 s v ho)) (fun q8 => ?_)
  exact ax_jl (fun h => ax_lr hV rfl dX9_knownRows_11 (hP q8 h))
theorem lk_X9_161 : ax_lkV RX9 161 mu_X9_knownRows RX9 0 := ax_lkV_of (ax_m2 170 rfl rfl) (ax_m2 172 rfl rfl) (ax_mp1 7 rfl rfl rfl) (ax_m1 1 rfl rfl) lc_X9_knownRows rfl ⟨by decide +kernel, by decide +kernel, by decide +kernel⟩
def mu_X9_can : ax_Mu := (yX9_can, cX9_can, 3, some .int, 3, 75)
theorem lc_X9_can : Cond.code mu_X9_can.1 mu_X9_can.2.1 mu_X9_can.2.2.1 mu_X9_can.2.2.2.1 ∈ ax_tb := (ax_m2 169 rfl rfl)
noncomputable def f_X9_can (p1 : Int64) (s : ax_S) : Option (Int32 × ax_S) := (if (lg_cmp (ax_lushr p1 (s.1 2 7)) (0 : Int64)) = 0 then (f_X9_knownRows s).bind (fun q19 => (if (lg_cmp (p1 &&& (q19 ^^^ (-1 : Int64))) (0 : Int64)) = 0 then (f_X6_canHold p1 s).bind (fun q40 => (f_X9_oneIf q40.1).bind (fun q43 => some ((q43, q40.2)))) else some (((-3 : Int32), s)))) else some (((-2 : Int32), s)))
theorem T_X9_can (p1 : Int64) (s : ax_S) (r : Int32 × ax_S) (h : f_X9_can p1 s = some r) : ax_M cx_C mu_X9_can (fun ad => [.ref (ad 0), .long p1]) s (some (.int r.1)) r.2 := by
  refine ax_enter (by decide +kernel) 0 (fun ad => [some (.ref (ad 0)), some (.long p1), none]) (fun ad => rfl) (fun ad => Nat.le_of_ble_eq_true rfl) (fun X hV ho => ?_)
  refine ax_go (fun r : Int32 × ax_S => (some (Value.int r.1), r.2)) (fun P hP => ?_) h ho
  unfold f_X9_can
  refine ax_j (ax_lload_n hV dX9_can_0 rfl) ?_
  refine ax_j (ax_aload_n hV dX9_can_1 rfl) ?_
  refine ax_j (ax_gfr hV lf_X9_25 dX9_can_2 rfl rfl) ?_
  refine ax_j (ax_gfi hV lf_X9_159 dX9_can_5 rfl rfl) ?_
  refine ax_j (ax_lushr_ hV dX9_can_8) ?_
  refine ax_j (ax_lconst hV (0 : Int64) dX9_can_9 (by decide)) ?_
  refine ax_j (ax_lcmp hV dX9_can_10) ?_
  refine ax_jif (ax_if_eq hV dX9_can_11) ?_ ?_
  · refine ax_j (ax_lload_n hV dX9_can_17 rfl) ?_
    refine ax_j (ax_aload_n hV dX9_can_18 rfl) ?_
    refine ax_jb (fun v ho => ax_cVl hV lk_X9_161 rfl dX9_can_19 rfl rfl [] [.long p1] (fun ad => [.ref (ad 0)]) rfl rfl rfl rfl v s (T_X9_knownRows s v ho)) (fun q19 => ?_)
    refine ax_j (ax_ldc2 hV kc_X9_165 dX9_can_22) ?_
    refine ax_j (ax_lxor hV dX9_can_25) ?_
    refine ax_j (ax_land hV dX9_can_26) ?_
    refine ax_j (ax_lconst hV (0 : Int64) dX9_can_27 (by decide)) ?_
    refine ax_j (ax_lcmp hV dX9_can_28) ?_
    refine ax_jif (ax_if_eq hV dX9_can_29) ?_ ?_
    · refine ax_j (ax_aload_n hV dX9_can_35 rfl) ?_
      refine ax_j (ax_gfr hV lf_X9_10 dX9_can_36 rfl rfl) ?_
      refine ax_j (ax_lload_n hV dX9_can_39 rfl) ?_
      refine ax_jb (fun v ho => ax_cVi hV lk_X9_167 rfl dX9_can_40 rfl rfl [.long p1] [] (fun ad => [.ref (ad 1), .long p1]) rfl rfl rfl rfl v.1 v.2 (T_X6_canHold p1 s v ho)) (fun q40 => ?_)
      refine ax_jb (fun v ho => ax_cSi hV lk_X9_155 rfl dX9_can_43 [.int q40.1] [] (fun ad => [.int q40.1]) rfl rfl rfl rfl v q40.2 (T_X9_oneIf q40.1 q40.2 v ho)) (fun q43 => ?_)
      exact ax_jl (fun h => ax_ir hV rfl dX9_can_46 (hP (q43, q40.2) h))
    · refine ax_j (ax_bipush hV (-3 : Int32) dX9_can_32 (by decide)) ?_
      exact ax_jl (fun h => ax_ir hV rfl dX9_can_34 (hP ((-3 : Int32), s) h))
  · refine ax_j (ax_bipush hV (-2 : Int32) dX9_can_14 (by decide)) ?_
    exact ax_jl (fun h => ax_ir hV rfl dX9_can_16 (hP ((-2 : Int32), s) h))
def mu_X9_all : ax_Mu := (yX9_all, cX9_all, 1, some .int, 3, 75)
theorem lc_X9_all : Cond.code mu_X9_all.1 mu_X9_all.2.1 mu_X9_all.2.2.1 mu_X9_all.2.2.2.1 ∈ ax_tb := (ax_m2 215 rfl rfl)
noncomputable def f_X9_all  (s : ax_S) : Option (Int32 × ax_S) := (f_X9_knownRows s).bind (fun q5 => (f_X6_canHold q5 s).bind (fun q8 => (f_X9_oneIf q8.1).bind (fun q11 => some ((q11, q8.2)))))
theorem T_X9_all  (s : ax_S) (r : Int32 × ax_S) (h : f_X9_all s = some r) : ax_M cx_C mu_X9_all (fun ad => [.ref (ad 0)]) s (some (.int r.1)) r.2 := by
  refine ax_enter (by decide +kernel) 0 (fun ad => [some (.ref (ad 0))]) (fun ad => rfl) (fun ad => Nat.le_of_ble_eq_true rfl) (fun X hV ho => ?_)
  refine ax_go (fun r : Int32 × ax_S => (some (Value.int r.1), r.2)) (fun P hP => ?_) h ho
  unfold f_X9_all
  refine ax_j (ax_aload_n hV dX9_all_0 rfl) ?_
  refine ax_j (ax_gfr hV lf_X9_10 dX9_all_1 rfl rfl) ?_
  refine ax_j (ax_aload_n hV dX9_all_4 rfl) ?_
  refine ax_jb (fun v ho => ax_cVl hV lk_X9_161 rfl dX9_all_5 rfl rfl [] [.ref (ax_ad (cx_C, X) 1)] (fun ad => [.ref (ad 0)]) rfl rfl rfl rfl v s (T_X9_knownRows s v ho)) (fun q5 => ?_)
  refine ax_jb (fun v ho => ax_cVi hV lk_X9_167 rfl dX9_all_8 rfl rfl [.long q5] [] (fun ad => [.ref (ad 1), .long q5]) rfl rfl rfl rfl v.1 v.2 (T_X6_canHold q5 s v ho)) (fun q8 => ?_)
  refine ax_jb (fun v ho => ax_cSi hV lk_X9_155 rfl dX9_all_11 [.int q8.1] [] (fun ad => [.int q8.1]) rfl rfl rfl rfl v q8.2 (T_X9_oneIf q8.1 q8.2 v ho)) (fun q11 => ?_)
  exact ax_jl (fun h => ax_ir hV rfl dX9_all_14 (hP (q11, q8.2) h))
def mu_X9_isEnd : ax_Mu := (yX9_isEnd, cX9_isEnd, 1, some .boolean, 0, 0)
theorem lc_X9_isEnd : Cond.code mu_X9_isEnd.1 mu_X9_isEnd.2.1 mu_X9_isEnd.2.2.1 mu_X9_isEnd.2.2.2.1 ∈ ax_tb := (ax_m2 222 rfl rfl)
noncomputable def f_X9_isEnd (p1 : Int32) : Option (Int32) := (if p1 = 0 then some ((1 : Int32)) else (if p1 = (1 : Int32) then some ((1 : Int32)) else some ((0 : Int32))))
theorem T_X9_isEnd (p1 : Int32) (s : ax_S) (r : Int32) (h : f_X9_isEnd p1 = some r) : ax_M cx_C mu_X9_isEnd (fun ad => [.int p1]) s (some (.int r)) s := by
  refine ax_enter (by decide +kernel) 0 (fun ad => [some (.int p1)]) (fun ad => rfl) (fun ad => Nat.le_of_ble_eq_true rfl) (fun X hV ho => ?_)
  refine ax_go (fun r : Int32 => (some (Value.int r), s)) (fun P hP => ?_) h ho
  unfold f_X9_isEnd
  refine ax_j (ax_iload_n hV dX9_isEnd_0 rfl) ?_
  refine ax_jif (ax_if_eq hV dX9_isEnd_1) ?_ ?_
  · refine ax_j (ax_iconst hV (1 : Int32) dX9_isEnd_9 (by decide)) ?_
    refine ax_j (ax_goto hV dX9_isEnd_10) ?_
    exact ax_jl (fun h => ax_zr hV rfl (by decide) dX9_isEnd_14 (hP (1 : Int32) h))
  · refine ax_j (ax_iload_n hV dX9_isEnd_4 rfl) ?_
    refine ax_j (ax_iconst hV (1 : Int32) dX9_isEnd_5 (by decide)) ?_
    refine ax_jif (ax_icmp_ne hV dX9_isEnd_6) ?_ ?_
    · refine ax_j (ax_iconst hV (1 : Int32) dX9_isEnd_9 (by decide)) ?_
      refine ax_j (ax_goto hV dX9_isEnd_10) ?_
      exact ax_jl (fun h => ax_zr hV rfl (by decide) dX9_isEnd_14 (hP (1 : Int32) h))
    · refine ax_j (ax_iconst hV (0 : Int32) dX9_isEnd_13 (by decide)) ?_
      exact ax_jl (fun h => ax_zr hV rfl (by decide) dX9_isEnd_14 (hP (0 : Int32) h))
theorem lk_X9_171 : ax_lkS RX9 171 mu_X9_isEnd 1 := ax_lkS_of (ax_m2 220 rfl rfl) (ax_m2 221 rfl rfl) (ax_m1 1 rfl rfl) lc_X9_isEnd ⟨by decide +kernel, by decide +kernel, by decide +kernel⟩
def mu_X9_span : ax_Mu := (yX9_span, cX9_span, 3, some .int, 4, 97)
theorem lc_X9_span : Cond.code mu_X9_span.1 mu_X9_span.2.1 mu_X9_span.2.2.1 mu_X9_span.2.2.2.1 ∈ ax_tb := (ax_m2 219 rfl rfl)
noncomputable def f_X9_span (p1 : Int32) (p2 : Int32) (s : ax_S) : Option (Int32 × ax_S) := (f_X9_isThing p1 s).bind (fun q2 => (if q2 = 0 then some (((-300000 : Int32), s)) else (f_X9_isEnd p2).bind (fun q9 => (if q9 = 0 then some (((-300000 : Int32), s)) else (f_X9_knownRows s).bind (fun q23 => (f_X6_solve q23 s).bind (fun q26 => (if q26.1 = 0 then some (((-300001 : Int32), q26.2)) else (f_X6_endOfThing p1 p2 q26.2).bind (fun q41 => some ((q41, q26.2))))))))))
theorem T_X9_span (p1 : Int32) (p2 : Int32) (s : ax_S) (r : Int32 × ax_S) (h : f_X9_span p1 p2 s = some r) : ax_M cx_C mu_X9_span (fun ad => [.ref (ad 0), .int p1, .int p2]) s (some (.int r.1)) r.2 := by
  refine ax_enter (by decide +kernel) 0 (fun ad => [some (.ref (ad 0)), some (.int p1), some (.int p2)]) (fun ad => rfl) (fun ad => Nat.le_of_ble_eq_true rfl) (fun X hV ho => ?_)
  refine ax_go (fun r : Int32 × ax_S => (some (Value.int r.1), r.2)) (fun P hP => ?_) h ho
  unfold f_X9_span
  refine ax_j (ax_aload_n hV dX9_span_0 rfl) ?_
  refine ax_j (ax_iload_n hV dX9_span_1 rfl) ?_
  refine ax_jb (fun v ho => ax_cVi hV lk_X9_92 rfl dX9_span_2 rfl rfl [.int p1] [] (fun ad => [.ref (ad 0), .int p1]) rfl rfl rfl rfl v s (T_X9_isThing p1 s v ho)) (fun q2 => ?_)
  refine ax_jif (ax_if_eq hV dX9_span_5) ?_ ?_
  · refine ax_j (ax_ldc hV kc_X9_129 dX9_span_15) ?_
    exact ax_jl (fun h => ax_ir hV rfl dX9_span_17 (hP ((-300000 : Int32), s) h))
  · refine ax_j (ax_iload_n hV dX9_span_8 rfl) ?_
    refine ax_jb (fun v ho => ax_cSi hV lk_X9_171 rfl dX9_span_9 [.int p2] [] (fun ad => [.int p2]) rfl rfl rfl rfl v s (T_X9_isEnd p2 s v ho)) (fun q9 => ?_)
    refine ax_jif (ax_if_ne hV dX9_span_12) ?_ ?_
    · refine ax_j (ax_ldc hV kc_X9_129 dX9_span_15) ?_
      exact ax_jl (fun h => ax_ir hV rfl dX9_span_17 (hP ((-300000 : Int32), s) h))
    · refine ax_j (ax_aload_n hV dX9_span_18 rfl) ?_
      refine ax_j (ax_gfr hV lf_X9_10 dX9_span_19 rfl rfl) ?_
      refine ax_j (ax_aload_n hV dX9_span_22 rfl) ?_
      refine ax_jb (fun v ho => ax_cVl hV lk_X9_161 rfl dX9_span_23 rfl rfl [] [.ref (ax_ad (cx_C, X) 1)] (fun ad => [.ref (ad 0)]) rfl rfl rfl rfl v s (T_X9_knownRows s v ho)) (fun q23 => ?_)
      refine ax_jb (fun v ho => ax_cVi hV lk_X9_174 rfl dX9_span_26 rfl rfl [.long q23] [] (fun ad => [.ref (ad 1), .long q23]) rfl rfl rfl rfl v.1 v.2 (T_X6_solve q23 s v ho)) (fun q26 => ?_)
      refine ax_jif (ax_if_ne hV dX9_span_29) ?_ ?_
      · refine ax_j (ax_ldc hV kc_X9_177 dX9_span_32) ?_
        exact ax_jl (fun h => ax_ir hV rfl dX9_span_34 (hP ((-300001 : Int32), q26.2) h))
      · refine ax_j (ax_aload_n hV dX9_span_35 rfl) ?_
        refine ax_j (ax_gfr hV lf_X9_10 dX9_span_36 rfl rfl) ?_
        refine ax_j (ax_iload_n hV dX9_span_39 rfl) ?_
        refine ax_j (ax_iload_n hV dX9_span_40 rfl) ?_
        refine ax_jb (fun v ho => ax_cVi hV lk_X9_178 rfl dX9_span_41 rfl rfl [.int p1, .int p2] [] (fun ad => [.ref (ad 1), .int p1, .int p2]) rfl rfl rfl rfl v q26.2 (T_X6_endOfThing p1 p2 q26.2 v ho)) (fun q41 => ?_)
        exact ax_jl (fun h => ax_ir hV rfl dX9_span_44 (hP (q41, q26.2) h))
def mu_X9_clock : ax_Mu := (yX9_clock, cX9_clock, 3, some .int, 4, 97)
theorem lc_X9_clock : Cond.code mu_X9_clock.1 mu_X9_clock.2.1 mu_X9_clock.2.2.1 mu_X9_clock.2.2.2.1 ∈ ax_tb := (ax_m3 0 rfl rfl)
noncomputable def f_X9_clock (p1 : Int32) (p2 : Int32) (s : ax_S) : Option (Int32 × ax_S) := (f_X9_isBook p1 s).bind (fun q2 => (if q2 = 0 then some (((-300000 : Int32), s)) else (f_X9_isEnd p2).bind (fun q9 => (if q9 = 0 then some (((-300000 : Int32), s)) else (f_X9_knownRows s).bind (fun q23 => (f_X6_solve q23 s).bind (fun q26 => (if q26.1 = 0 then some (((-300001 : Int32), q26.2)) else (f_X6_endOfClock p1 p2 q26.2).bind (fun q41 => some ((q41, q26.2))))))))))
theorem T_X9_clock (p1 : Int32) (p2 : Int32) (s : ax_S) (r : Int32 × ax_S) (h : f_X9_clock p1 p2 s = some r) : ax_M cx_C mu_X9_clock (fun ad => [.ref (ad 0), .int p1, .int p2]) s (some (.int r.1)) r.2 := by
  refine ax_enter (by decide +kernel) 0 (fun ad => [some (.ref (ad 0)), some (.int p1), some (.int p2)]) (fun ad => rfl) (fun ad => Nat.le_of_ble_eq_true rfl) (fun X hV ho => ?_)
  refine ax_go (fun r : Int32 × ax_S => (some (Value.int r.1), r.2)) (fun P hP => ?_) h ho
  unfold f_X9_clock
  refine ax_j (ax_aload_n hV dX9_clock_0 rfl) ?_
  refine ax_j (ax_iload_n hV dX9_clock_1 rfl) ?_
  refine ax_jb (fun v ho => ax_cVi hV lk_X9_84 rfl dX9_clock_2 rfl rfl [.int p1] [] (fun ad => [.ref (ad 0), .int p1]) rfl rfl rfl rfl v s (T_X9_isBook p1 s v ho)) (fun q2 => ?_)
  refine ax_jif (ax_if_eq hV dX9_clock_5) ?_ ?_
  · refine ax_j (ax_ldc hV kc_X9_129 dX9_clock_15) ?_
    exact ax_jl (fun h => ax_ir hV rfl dX9_clock_17 (hP ((-300000 : Int32), s) h))
  · refine ax_j (ax_iload_n hV dX9_clock_8 rfl) ?_
    refine ax_jb (fun v ho => ax_cSi hV lk_X9_171 rfl dX9_clock_9 [.int p2] [] (fun ad => [.int p2]) rfl rfl rfl rfl v s (T_X9_isEnd p2 s v ho)) (fun q9 => ?_)
    refine ax_jif (ax_if_ne hV dX9_clock_12) ?_ ?_
    · refine ax_j (ax_ldc hV kc_X9_129 dX9_clock_15) ?_
      exact ax_jl (fun h => ax_ir hV rfl dX9_clock_17 (hP ((-300000 : Int32), s) h))
    · refine ax_j (ax_aload_n hV dX9_clock_18 rfl) ?_
      refine ax_j (ax_gfr hV lf_X9_10 dX9_clock_19 rfl rfl) ?_
      refine ax_j (ax_aload_n hV dX9_clock_22 rfl) ?_
      refine ax_jb (fun v ho => ax_cVl hV lk_X9_161 rfl dX9_clock_23 rfl rfl [] [.ref (ax_ad (cx_C, X) 1)] (fun ad => [.ref (ad 0)]) rfl rfl rfl rfl v s (T_X9_knownRows s v ho)) (fun q23 => ?_)
      refine ax_jb (fun v ho => ax_cVi hV lk_X9_174 rfl dX9_clock_26 rfl rfl [.long q23] [] (fun ad => [.ref (ad 1), .long q23]) rfl rfl rfl rfl v.1 v.2 (T_X6_solve q23 s v ho)) (fun q26 => ?_)
      refine ax_jif (ax_if_ne hV dX9_clock_29) ?_ ?_
      · refine ax_j (ax_ldc hV kc_X9_177 dX9_clock_32) ?_
        exact ax_jl (fun h => ax_ir hV rfl dX9_clock_34 (hP ((-300001 : Int32), q26.2) h))
      · refine ax_j (ax_aload_n hV dX9_clock_35 rfl) ?_
        refine ax_j (ax_gfr hV lf_X9_10 dX9_clock_36 rfl rfl) ?_
        refine ax_j (ax_iload_n hV dX9_clock_39 rfl) ?_
        refine ax_j (ax_iload_n hV dX9_clock_40 rfl) ?_
        refine ax_jb (fun v ho => ax_cVi hV lk_X9_181 rfl dX9_clock_41 rfl rfl [.int p1, .int p2] [] (fun ad => [.ref (ad 1), .int p1, .int p2]) rfl rfl rfl rfl v q26.2 (T_X6_endOfClock p1 p2 q26.2 v ho)) (fun q41 => ?_)
        exact ax_jl (fun h => ax_ir hV rfl dX9_clock_44 (hP (q41, q26.2) h))
def mu_X9_between : ax_Mu := (yX9_between, cX9_between, 4, some .int, 4, 97)
theorem lc_X9_between : Cond.code mu_X9_between.1 mu_X9_between.2.1 mu_X9_between.2.2.1 mu_X9_between.2.2.2.1 ∈ ax_tb := (ax_m3 8 rfl rfl)
noncomputable def f_X9_between (p1 : Int32) (p2 : Int32) (p3 : Int32) (s : ax_S) : Option (Int32 × ax_S) := (f_X9_areTwoThings p1 p2 s).bind (fun q3 => (if q3 = 0 then some (((-500000 : Int32), s)) else (f_X9_isEnd p3).bind (fun q10 => (if q10 = 0 then some (((-500000 : Int32), s)) else (f_X9_knownRows s).bind (fun q24 => (f_X6_solve q24 s).bind (fun q27 => (if q27.1 = 0 then some (((-500001 : Int32), q27.2)) else (if p3 = (1 : Int32) then (f_X6_measureFrom p2 q27.2).bind (fun q46 => (f_X6_mostBehind p2 p1 q46).bind (fun q55 => some ((q55, q46)))) else (f_X6_measureFrom p1 q27.2).bind (fun q64 => (f_X6_mostBehind p1 p2 q64).bind (fun q73 => some (((-q73), q64))))))))))))
theorem T_X9_between (p1 : Int32) (p2 : Int32) (p3 : Int32) (s : ax_S) (r : Int32 × ax_S) (h : f_X9_between p1 p2 p3 s = some r) : ax_M cx_C mu_X9_between (fun ad => [.ref (ad 0), .int p1, .int p2, .int p3]) s (some (.int r.1)) r.2 := by
  refine ax_enter (by decide +kernel) 0 (fun ad => [some (.ref (ad 0)), some (.int p1), some (.int p2), some (.int p3)]) (fun ad => rfl) (fun ad => Nat.le_of_ble_eq_true rfl) (fun X hV ho => ?_)
  refine ax_go (fun r : Int32 × ax_S => (some (Value.int r.1), r.2)) (fun P hP => ?_) h ho
  unfold f_X9_between
  refine ax_j (ax_aload_n hV dX9_between_0 rfl) ?_
  refine ax_j (ax_iload_n hV dX9_between_1 rfl) ?_
  refine ax_j (ax_iload_n hV dX9_between_2 rfl) ?_
  refine ax_jb (fun v ho => ax_cVi hV lk_X9_102 rfl dX9_between_3 rfl rfl [.int p1, .int p2] [] (fun ad => [.ref (ad 0), .int p1, .int p2]) rfl rfl rfl rfl v s (T_X9_areTwoThings p1 p2 s v ho)) (fun q3 => ?_)
  refine ax_jif (ax_if_eq hV dX9_between_6) ?_ ?_
  · refine ax_j (ax_ldc hV kc_X9_184 dX9_between_16) ?_
    exact ax_jl (fun h => ax_ir hV rfl dX9_between_18 (hP ((-500000 : Int32), s) h))
  · refine ax_j (ax_iload_n hV dX9_between_9 rfl) ?_
    refine ax_jb (fun v ho => ax_cSi hV lk_X9_171 rfl dX9_between_10 [.int p3] [] (fun ad => [.int p3]) rfl rfl rfl rfl v s (T_X9_isEnd p3 s v ho)) (fun q10 => ?_)
    refine ax_jif (ax_if_ne hV dX9_between_13) ?_ ?_
    · refine ax_j (ax_ldc hV kc_X9_184 dX9_between_16) ?_
      exact ax_jl (fun h => ax_ir hV rfl dX9_between_18 (hP ((-500000 : Int32), s) h))
    · refine ax_j (ax_aload_n hV dX9_between_19 rfl) ?_
      refine ax_j (ax_gfr hV lf_X9_10 dX9_between_20 rfl rfl) ?_
      refine ax_j (ax_aload_n hV dX9_between_23 rfl) ?_
      refine ax_jb (fun v ho => ax_cVl hV lk_X9_161 rfl dX9_between_24 rfl rfl [] [.ref (ax_ad (cx_C, X) 1)] (fun ad => [.ref (ad 0)]) rfl rfl rfl rfl v s (T_X9_knownRows s v ho)) (fun q24 => ?_)
      refine ax_jb (fun v ho => ax_cVi hV lk_X9_174 rfl dX9_between_27 rfl rfl [.long q24] [] (fun ad => [.ref (ad 1), .long q24]) rfl rfl rfl rfl v.1 v.2 (T_X6_solve q24 s v ho)) (fun q27 => ?_)
      refine ax_jif (ax_if_ne hV dX9_between_30) ?_ ?_
      · refine ax_j (ax_ldc hV kc_X9_185 dX9_between_33) ?_
        exact ax_jl (fun h => ax_ir hV rfl dX9_between_35 (hP ((-500001 : Int32), q27.2) h))
      · refine ax_j (ax_iload_n hV dX9_between_36 rfl) ?_
        refine ax_j (ax_iconst hV (1 : Int32) dX9_between_37 (by decide)) ?_
        refine ax_jif (ax_icmp_ne hV dX9_between_38) ?_ ?_
        · refine ax_j (ax_aload_n hV dX9_between_41 rfl) ?_
          refine ax_j (ax_gfr hV lf_X9_10 dX9_between_42 rfl rfl) ?_
          refine ax_j (ax_iload_n hV dX9_between_45 rfl) ?_
          refine ax_jb (fun v ho => ax_cVv hV lk_X9_186 rfl dX9_between_46 rfl rfl [.int p2] [] (fun ad => [.ref (ad 1), .int p2]) rfl rfl rfl rfl v (T_X6_measureFrom p2 q27.2 v ho)) (fun q46 => ?_)
          refine ax_j (ax_aload_n hV dX9_between_49 rfl) ?_
          refine ax_j (ax_gfr hV lf_X9_10 dX9_between_50 rfl rfl) ?_
          refine ax_j (ax_iload_n hV dX9_between_53 rfl) ?_
          refine ax_j (ax_iload_n hV dX9_between_54 rfl) ?_
          refine ax_jb (fun v ho => ax_cVi hV lk_X9_190 rfl dX9_between_55 rfl rfl [.int p2, .int p1] [] (fun ad => [.ref (ad 1), .int p2, .int p1]) rfl rfl rfl rfl v q46 (T_X6_mostBehind p2 p1 q46 v ho)) (fun q55 => ?_)
          exact ax_jl (fun h => ax_ir hV rfl dX9_between_58 (hP (q55, q46) h))
        · refine ax_j (ax_aload_n hV dX9_between_59 rfl) ?_
          refine ax_j (ax_gfr hV lf_X9_10 dX9_between_60 rfl rfl) ?_
          refine ax_j (ax_iload_n hV dX9_between_63 rfl) ?_
          refine ax_jb (fun v ho => ax_cVv hV lk_X9_186 rfl dX9_between_64 rfl rfl [.int p1] [] (fun ad => [.ref (ad 1), .int p1]) rfl rfl rfl rfl v (T_X6_measureFrom p1 q27.2 v ho)) (fun q64 => ?_)
          refine ax_j (ax_aload_n hV dX9_between_67 rfl) ?_
          refine ax_j (ax_gfr hV lf_X9_10 dX9_between_68 rfl rfl) ?_
          refine ax_j (ax_iload_n hV dX9_between_71 rfl) ?_
          refine ax_j (ax_iload_n hV dX9_between_72 rfl) ?_
          refine ax_jb (fun v ho => ax_cVi hV lk_X9_190 rfl dX9_between_73 rfl rfl [.int p1, .int p2] [] (fun ad => [.ref (ad 1), .int p1, .int p2]) rfl rfl rfl rfl v q64 (T_X6_mostBehind p1 p2 q64 v ho)) (fun q73 => ?_)
          refine ax_j (ax_ineg hV dX9_between_76) ?_
          exact ax_jl (fun h => ax_ir hV rfl dX9_between_77 (hP ((-q73), q64) h))
def mu_X9_led : ax_Mu := (yX9_led, cX9_led, 3, some .int, 4, 97)
theorem lc_X9_led : Cond.code mu_X9_led.1 mu_X9_led.2.1 mu_X9_led.2.2.1 mu_X9_led.2.2.2.1 ∈ ax_tb := (ax_m3 22 rfl rfl)
noncomputable def f_X9_led (p1 : Int32) (p2 : Int32) (s : ax_S) : Option (Int32 × ax_S) := (f_X9_isThing p1 s).bind (fun q2 => (if q2 = 0 then some (((-2 : Int32), s)) else (f_X9_isEnd p2).bind (fun q9 => (if q9 = 0 then some (((-2 : Int32), s)) else (f_X9_knownRows s).bind (fun q23 => (f_X6_solve q23 s).bind (fun q26 => (if q26.1 = 0 then some (((-3 : Int32), q26.2)) else (if p2 = (1 : Int32) then (f_X6_stepsToEnd p1 (1 : Int32) q26.2).bind (fun q50 => some ((q50.1, q50.2))) else (f_X6_stepsToEnd p1 (0 : Int32) q26.2).bind (fun q50 => some ((q50.1, q50.2)))))))))))
theorem T_X9_led (p1 : Int32) (p2 : Int32) (s : ax_S) (r : Int32 × ax_S) (h : f_X9_led p1 p2 s = some r) : ax_M cx_C mu_X9_led (fun ad => [.ref (ad 0), .int p1, .int p2]) s (some (.int r.1)) r.2 := by
  refine ax_enter (by decide +kernel) 0 (fun ad => [some (.ref (ad 0)), some (.int p1), some (.int p2)]) (fun ad => rfl) (fun ad => Nat.le_of_ble_eq_true rfl) (fun X hV ho => ?_)
  refine ax_go (fun r : Int32 × ax_S => (some (Value.int r.1), r.2)) (fun P hP => ?_) h ho
  unfold f_X9_led
  refine ax_j (ax_aload_n hV dX9_led_0 rfl) ?_
  refine ax_j (ax_iload_n hV dX9_led_1 rfl) ?_
  refine ax_jb (fun v ho => ax_cVi hV lk_X9_92 rfl dX9_led_2 rfl rfl [.int p1] [] (fun ad => [.ref (ad 0), .int p1]) rfl rfl rfl rfl v s (T_X9_isThing p1 s v ho)) (fun q2 => ?_)
  refine ax_jif (ax_if_eq hV dX9_led_5) ?_ ?_
  · refine ax_j (ax_bipush hV (-2 : Int32) dX9_led_15 (by decide)) ?_
    exact ax_jl (fun h => ax_ir hV rfl dX9_led_17 (hP ((-2 : Int32), s) h))
  · refine ax_j (ax_iload_n hV dX9_led_8 rfl) ?_
    refine ax_jb (fun v ho => ax_cSi hV lk_X9_171 rfl dX9_led_9 [.int p2] [] (fun ad => [.int p2]) rfl rfl rfl rfl v s (T_X9_isEnd p2 s v ho)) (fun q9 => ?_)
    refine ax_jif (ax_if_ne hV dX9_led_12) ?_ ?_
    · refine ax_j (ax_bipush hV (-2 : Int32) dX9_led_15 (by decide)) ?_
      exact ax_jl (fun h => ax_ir hV rfl dX9_led_17 (hP ((-2 : Int32), s) h))
    · refine ax_j (ax_aload_n hV dX9_led_18 rfl) ?_
      refine ax_j (ax_gfr hV lf_X9_10 dX9_led_19 rfl rfl) ?_
      refine ax_j (ax_aload_n hV dX9_led_22 rfl) ?_
      refine ax_jb (fun v ho => ax_cVl hV lk_X9_161 rfl dX9_led_23 rfl rfl [] [.ref (ax_ad (cx_C, X) 1)] (fun ad => [.ref (ad 0)]) rfl rfl rfl rfl v s (T_X9_knownRows s v ho)) (fun q23 => ?_)
      refine ax_jb (fun v ho => ax_cVi hV lk_X9_174 rfl dX9_led_26 rfl rfl [.long q23] [] (fun ad => [.ref (ad 1), .long q23]) rfl rfl rfl rfl v.1 v.2 (T_X6_solve q23 s v ho)) (fun q26 => ?_)
      refine ax_jif (ax_if_ne hV dX9_led_29) ?_ ?_
      · refine ax_j (ax_bipush hV (-3 : Int32) dX9_led_32 (by decide)) ?_
        exact ax_jl (fun h => ax_ir hV rfl dX9_led_34 (hP ((-3 : Int32), q26.2) h))
      · refine ax_j (ax_aload_n hV dX9_led_35 rfl) ?_
        refine ax_j (ax_gfr hV lf_X9_10 dX9_led_36 rfl rfl) ?_
        refine ax_j (ax_iload_n hV dX9_led_39 rfl) ?_
        refine ax_j (ax_iload_n hV dX9_led_40 rfl) ?_
        refine ax_j (ax_iconst hV (1 : Int32) dX9_led_41 (by decide)) ?_
        refine ax_jif (ax_icmp_ne hV dX9_led_42) ?_ ?_
        · refine ax_j (ax_iconst hV (1 : Int32) dX9_led_45 (by decide)) ?_
          refine ax_j (ax_goto hV dX9_led_46) ?_
          refine ax_jb (fun v ho => ax_cVi hV lk_X9_193 rfl dX9_led_50 rfl rfl [.int p1, .int (1 : Int32)] [] (fun ad => [.ref (ad 1), .int p1, .int (1 : Int32)]) rfl rfl rfl rfl v.1 v.2 (T_X6_stepsToEnd p1 (1 : Int32) q26.2 v ho)) (fun q50 => ?_)
          exact ax_jl (fun h => ax_ir hV rfl dX9_led_53 (hP (q50.1, q50.2) h))
        · refine ax_j (ax_iconst hV (0 : Int32) dX9_led_49 (by decide)) ?_
          refine ax_jb (fun v ho => ax_cVi hV lk_X9_193 rfl dX9_led_50 rfl rfl [.int p1, .int (0 : Int32)] [] (fun ad => [.ref (ad 1), .int p1, .int (0 : Int32)]) rfl rfl rfl rfl v.1 v.2 (T_X6_stepsToEnd p1 (0 : Int32) q26.2 v ho)) (fun q50 => ?_)
          exact ax_jl (fun h => ax_ir hV rfl dX9_led_53 (hP (q50.1, q50.2) h))
def mu_X9_changed : ax_Mu := (yX9_changed, cX9_changed, 10, some .int, 5, 120)
theorem lc_X9_changed : Cond.code mu_X9_changed.1 mu_X9_changed.2.1 mu_X9_changed.2.2.1 mu_X9_changed.2.2.2.1 ∈ ax_tb := (ax_m3 34 rfl rfl)
noncomputable def b_X9_changed_41 (l1 : Int32) (l2 : Int32) (a : Int64 × Int32 × Int32 × Int32 × ax_S) : Option ((Int64 × Int32 × Int32 × Int32 × ax_S) ⊕ ((ax_S) ⊕ (Int32 × ax_S))) := (if (80 : Int32) ≤ a.2.2.2.1 then some (.inr (.inl a.2.2.2.2)) else (f_X7_nextDayOfNews a.2.1 a.2.2.2.2).bind (fun q54 => (if q54 = (-1 : Int32) then some (.inr (.inr ((-1 : Int32), a.2.2.2.2))) else (f_X7_knownAsOf q54 a.2.2.2.2).bind (fun q78 => (f_X6_spanKey l1 q78 a.2.2.2.2).bind (fun q81 => (if (lg_cmp q81.1 a.1) = 0 then some (.inl (q81.1, q54, a.2.2.1, (a.2.2.2.1 + 1), q81.2)) else (if a.2.2.1 = l2 then some (.inr (.inr (q54, q81.2))) else some (.inl (q81.1, q54, (a.2.2.1 + 1), (a.2.2.2.1 + 1), q81.2)))))))))
noncomputable def f_X9_changed (p1 : Int32) (p2 : Int32) (s : ax_S) : Option (Int32 × ax_S) := (f_X9_isThing p1 s).bind (fun q2 => (if q2 = 0 then some (((-2 : Int32), s)) else (if 0 ≤ p2 then (f_X7_knownAsOf (0 : Int32) s).bind (fun q25 => (f_X6_spanKey p1 q25 s).bind (fun q28 => (ax_lp (b_X9_changed_41 p1 p2) (q28.1, (0 : Int32), (0 : Int32), (0 : Int32), q28.2)).bind (Sum.elim (fun e41 => some (((-1 : Int32), e41))) (fun r => some (r))))) else some (((-2 : Int32), s)))))
theorem B_X9_changed_41 (X : ax_G × ax_K × Option Value × ax_S) (hV : ax_ok (cx_C, X) mu_X9_changed) (l1 : Int32) (l2 : Int32) (P : ((Int64 × Int32 × Int32 × Int32 × ax_S) ⊕ ((ax_S) ⊕ (Int32 × ax_S))) → Prop) (hI : ∀ a : Int64 × Int32 × Int32 × Int32 × ax_S, P (.inl a) → ax_At (cx_C, X) 41 [some (.ref (ax_ad (cx_C, X) 0)), some (.int l1), some (.int l2), some (.long a.1), none, some (.int a.2.1), some (.int a.2.2.1), some (.int a.2.2.2.1), none, none] [] a.2.2.2.2) (hO : ∀ e : ax_S, P (.inr (.inl e)) → ax_At (cx_C, X) 114 [none, none, none, none, none, none, none, none, none, none] [] e) (hR : ∀ r : Int32 × ax_S, P (.inr (.inr r)) → X.2.2 = (fun r : Int32 × ax_S => (some (Value.int r.1), r.2)) r) (a : Int64 × Int32 × Int32 × Int32 × ax_S) : ax_J (cx_C, X) P 41 [some (.ref (ax_ad (cx_C, X) 0)), some (.int l1), some (.int l2), some (.long a.1), none, some (.int a.2.1), some (.int a.2.2.1), some (.int a.2.2.2.1), none, none] [] a.2.2.2.2 (b_X9_changed_41 l1 l2 a) := by
  unfold b_X9_changed_41
  refine ax_j (ax_iload hV dX9_changed_41 rfl) ?_
  refine ax_j (ax_bipush hV (80 : Int32) dX9_changed_43 (by decide)) ?_
  refine ax_jif (ax_icmp_ge hV dX9_changed_45) ?_ ?_
  · refine ax_jf (lv' := [none, none, none, none, none, none, none, none, none, none]) [false, false, false, false, false, false, false, false, false, false] rfl ?_
    exact ax_jl (fun h => hO a.2.2.2.2 h)
  · refine ax_j (ax_aload_n hV dX9_changed_48 rfl) ?_
    refine ax_j (ax_gfr hV lf_X9_25 dX9_changed_49 rfl rfl) ?_
    refine ax_j (ax_iload hV dX9_changed_52 rfl) ?_
    refine ax_jb (fun v ho => ax_cVi hV lk_X9_205 rfl dX9_changed_54 rfl rfl [.int a.2.1] [] (fun ad => [.ref (ad 2), .int a.2.1]) rfl rfl rfl rfl v a.2.2.2.2 (T_X7_nextDayOfNews a.2.1 a.2.2.2.2 v ho)) (fun q54 => ?_)
    refine ax_j (ax_istore hV [some (.ref (ax_ad (cx_C, X) 0)), some (.int l1), some (.int l2), some (.long a.1), none, some (.int q54), some (.int a.2.2.1), some (.int a.2.2.2.1), none, none] dX9_changed_57 rfl rfl) ?_
    refine ax_j (ax_iload hV dX9_changed_59 rfl) ?_
    refine ax_j (ax_iconst hV (-1 : Int32) dX9_changed_61 (by decide)) ?_
    refine ax_jif (ax_icmp_ne hV dX9_changed_62) ?_ ?_
    · refine ax_j (ax_iconst hV (-1 : Int32) dX9_changed_65 (by decide)) ?_
      exact ax_jl (fun h => ax_ir hV rfl dX9_changed_66 (hR ((-1 : Int32), a.2.2.2.2) h))
    · refine ax_j (ax_aload_n hV dX9_changed_67 rfl) ?_
      refine ax_j (ax_gfr hV lf_X9_10 dX9_changed_68 rfl rfl) ?_
      refine ax_j (ax_iload_n hV dX9_changed_71 rfl) ?_
      refine ax_j (ax_aload_n hV dX9_changed_72 rfl) ?_
      refine ax_j (ax_gfr hV lf_X9_25 dX9_changed_73 rfl rfl) ?_
      refine ax_j (ax_iload hV dX9_changed_76 rfl) ?_
      refine ax_jb (fun v ho => ax_cVl hV lk_X9_197 rfl dX9_changed_78 rfl rfl [.int q54] [.int l1, .ref (ax_ad (cx_C, X) 1)] (fun ad => [.ref (ad 2), .int q54]) rfl rfl rfl rfl v a.2.2.2.2 (T_X7_knownAsOf q54 a.2.2.2.2 v ho)) (fun q78 => ?_)
      refine ax_jb (fun v ho => ax_cVl hV lk_X9_201 rfl dX9_changed_81 rfl rfl [.int l1, .long q78] [] (fun ad => [.ref (ad 1), .int l1, .long q78]) rfl rfl rfl rfl v.1 v.2 (T_X6_spanKey l1 q78 a.2.2.2.2 v ho)) (fun q81 => ?_)
      refine ax_j (ax_lstore hV [some (.ref (ax_ad (cx_C, X) 0)), some (.int l1), some (.int l2), some (.long a.1), none, some (.int q54), some (.int a.2.2.1), some (.int a.2.2.2.1), some (.long q81.1), none] dX9_changed_84 rfl rfl) ?_
      refine ax_j (ax_lload hV dX9_changed_86 rfl) ?_
      refine ax_j (ax_lload_n hV dX9_changed_88 rfl) ?_
      refine ax_j (ax_lcmp hV dX9_changed_89) ?_
      refine ax_jif (ax_if_eq hV dX9_changed_90) ?_ ?_
      · refine ax_j (ax_lload hV dX9_changed_105 rfl) ?_
        refine ax_j (ax_lstore_n hV [some (.ref (ax_ad (cx_C, X) 0)), some (.int l1), some (.int l2), some (.long q81.1), none, some (.int q54), some (.int a.2.2.1), some (.int a.2.2.2.1), some (.long q81.1), none] dX9_changed_107 rfl rfl) ?_
        refine ax_j (ax_iinc hV (a.2.2.2.1 + 1) [some (.ref (ax_ad (cx_C, X) 0)), some (.int l1), some (.int l2), some (.long q81.1), none, some (.int q54), some (.int a.2.2.1), some (.int (a.2.2.2.1 + 1)), some (.long q81.1), none] dX9_changed_108 rfl rfl rfl rfl) ?_
        refine ax_j (ax_goto hV dX9_changed_111) ?_
        refine ax_jf (lv' := [some (.ref (ax_ad (cx_C, X) 0)), some (.int l1), some (.int l2), some (.long q81.1), none, some (.int q54), some (.int a.2.2.1), some (.int (a.2.2.2.1 + 1)), none, none]) [true, true, true, true, false, true, true, true, false, false] rfl ?_
        exact ax_jl (fun h => hI (q81.1, q54, a.2.2.1, (a.2.2.2.1 + 1), q81.2) h)
      · refine ax_j (ax_iload hV dX9_changed_93 rfl) ?_
        refine ax_j (ax_iload_n hV dX9_changed_95 rfl) ?_
        refine ax_jif (ax_icmp_ne hV dX9_changed_96) ?_ ?_
        · refine ax_j (ax_iload hV dX9_changed_99 rfl) ?_
          exact ax_jl (fun h => ax_ir hV rfl dX9_changed_101 (hR (q54, q81.2) h))
        · refine ax_j (ax_iinc hV (a.2.2.1 + 1) [some (.ref (ax_ad (cx_C, X) 0)), some (.int l1), some (.int l2), some (.long a.1), none, some (.int q54), some (.int (a.2.2.1 + 1)), some (.int a.2.2.2.1), some (.long q81.1), none] dX9_changed_102 rfl rfl rfl rfl) ?_
          refine ax_j (ax_lload hV dX9_changed_105 rfl) ?_
          refine ax_j (ax_lstore_n hV [some (.ref (ax_ad (cx_C, X) 0)), some (.int l1), some (.int l2), some (.long q81.1), none, some (.int q54), some (.int (a.2.2.1 + 1)), some (.int a.2.2.2.1), some (.long q81.1), none] dX9_changed_107 rfl rfl) ?_
          refine ax_j (ax_iinc hV (a.2.2.2.1 + 1) [some (.ref (ax_ad (cx_C, X) 0)), some (.int l1), some (.int l2), some (.long q81.1), none, some (.int q54), some (.int (a.2.2.1 + 1)), some (.int (a.2.2.2.1 + 1)), some (.long q81.1), none] dX9_changed_108 rfl rfl rfl rfl) ?_
          refine ax_j (ax_goto hV dX9_changed_111) ?_
          refine ax_jf (lv' := [some (.ref (ax_ad (cx_C, X) 0)), some (.int l1), some (.int l2), some (.long q81.1), none, some (.int q54), some (.int (a.2.2.1 + 1)), some (.int (a.2.2.2.1 + 1)), none, none]) [true, true, true, true, false, true, true, true, false, false] rfl ?_
          exact ax_jl (fun h => hI (q81.1, q54, (a.2.2.1 + 1), (a.2.2.2.1 + 1), q81.2) h)
theorem T_X9_changed (p1 : Int32) (p2 : Int32) (s : ax_S) (r : Int32 × ax_S) (h : f_X9_changed p1 p2 s = some r) : ax_M cx_C mu_X9_changed (fun ad => [.ref (ad 0), .int p1, .int p2]) s (some (.int r.1)) r.2 := by
  refine ax_enter (by decide +kernel) 7 (fun ad => [some (.ref (ad 0)), some (.int p1), some (.int p2), none, none, none, none, none, none, none]) (fun ad => rfl) (fun ad => Nat.le_of_ble_eq_true rfl) (fun X hV ho => ?_)
  refine ax_go (fun r : Int32 × ax_S => (some (Value.int r.1), r.2)) (fun P hP => ?_) h ho
  unfold f_X9_changed
  refine ax_j (ax_aload_n hV dX9_changed_0 rfl) ?_
  refine ax_j (ax_iload_n hV dX9_changed_1 rfl) ?_
  refine ax_jb (fun v ho => ax_cVi hV lk_X9_92 rfl dX9_changed_2 rfl rfl [.int p1] [] (fun ad => [.ref (ad 0), .int p1]) rfl rfl rfl rfl v s (T_X9_isThing p1 s v ho)) (fun q2 => ?_)
  refine ax_jif (ax_if_eq hV dX9_changed_5) ?_ ?_
  · refine ax_j (ax_bipush hV (-2 : Int32) dX9_changed_12 (by decide)) ?_
    exact ax_jl (fun h => ax_ir hV rfl dX9_changed_14 (hP ((-2 : Int32), s) h))
  · refine ax_j (ax_iload_n hV dX9_changed_8 rfl) ?_
    refine ax_jif (ax_if_ge hV dX9_changed_9) ?_ ?_
    · refine ax_j (ax_aload_n hV dX9_changed_15 rfl) ?_
      refine ax_j (ax_gfr hV lf_X9_10 dX9_changed_16 rfl rfl) ?_
      refine ax_j (ax_iload_n hV dX9_changed_19 rfl) ?_
      refine ax_j (ax_aload_n hV dX9_changed_20 rfl) ?_
      refine ax_j (ax_gfr hV lf_X9_25 dX9_changed_21 rfl rfl) ?_
      refine ax_j (ax_iconst hV (0 : Int32) dX9_changed_24 (by decide)) ?_
      refine ax_jb (fun v ho => ax_cVl hV lk_X9_197 rfl dX9_changed_25 rfl rfl [.int (0 : Int32)] [.int p1, .ref (ax_ad (cx_C, X) 1)] (fun ad => [.ref (ad 2), .int (0 : Int32)]) rfl rfl rfl rfl v s (T_X7_knownAsOf (0 : Int32) s v ho)) (fun q25 => ?_)
      refine ax_jb (fun v ho => ax_cVl hV lk_X9_201 rfl dX9_changed_28 rfl rfl [.int p1, .long q25] [] (fun ad => [.ref (ad 1), .int p1, .long q25]) rfl rfl rfl rfl v.1 v.2 (T_X6_spanKey p1 q25 s v ho)) (fun q28 => ?_)
      refine ax_j (ax_lstore_n hV [some (.ref (ax_ad (cx_C, X) 0)), some (.int p1), some (.int p2), some (.long q28.1), none, none, none, none, none, none] dX9_changed_31 rfl rfl) ?_
      refine ax_j (ax_iconst hV (0 : Int32) dX9_changed_32 (by decide)) ?_
      refine ax_j (ax_istore hV [some (.ref (ax_ad (cx_C, X) 0)), some (.int p1), some (.int p2), some (.long q28.1), none, some (.int (0 : Int32)), none, none, none, none] dX9_changed_33 rfl rfl) ?_
      refine ax_j (ax_iconst hV (0 : Int32) dX9_changed_35 (by decide)) ?_
      refine ax_j (ax_istore hV [some (.ref (ax_ad (cx_C, X) 0)), some (.int p1), some (.int p2), some (.long q28.1), none, some (.int (0 : Int32)), some (.int (0 : Int32)), none, none, none] dX9_changed_36 rfl rfl) ?_
      refine ax_j (ax_iconst hV (0 : Int32) dX9_changed_38 (by decide)) ?_
      refine ax_j (ax_istore hV [some (.ref (ax_ad (cx_C, X) 0)), some (.int p1), some (.int p2), some (.long q28.1), none, some (.int (0 : Int32)), some (.int (0 : Int32)), some (.int (0 : Int32)), none, none] dX9_changed_39 rfl rfl) ?_
      refine ax_jlr (q28.1, (0 : Int32), (0 : Int32), (0 : Int32), q28.2) (fun x41 : Int64 × Int32 × Int32 × Int32 × ax_S => [some (.ref (ax_ad (cx_C, X) 0)), some (.int p1), some (.int p2), some (.long x41.1), none, some (.int x41.2.1), some (.int x41.2.2.1), some (.int x41.2.2.2.1), none, none]) (fun x41 : Int64 × Int32 × Int32 × Int32 × ax_S => x41.2.2.2.2) (fun y41 : ax_S => [none, none, none, none, none, none, none, none, none, none]) (fun y41 : ax_S => y41) (fun P' h1 h2 h3 w => B_X9_changed_41 X hV p1 p2 P' h1 h2 (fun r h => hP r (h3 r h)) w) (fun e41 => ?_)
      refine ax_j (ax_iconst hV (-1 : Int32) dX9_changed_114 (by decide)) ?_
      exact ax_jl (fun h => ax_ir hV rfl dX9_changed_115 (hP ((-1 : Int32), e41) h))
    · refine ax_j (ax_bipush hV (-2 : Int32) dX9_changed_12 (by decide)) ?_
      exact ax_jl (fun h => ax_ir hV rfl dX9_changed_14 (hP ((-2 : Int32), s) h))
def mu_X9_areApartAsTold : ax_Mu := (yX9_areApartAsTold, cX9_areApartAsTold, 6, some .boolean, 3, 66)
theorem lc_X9_areApartAsTold : Cond.code mu_X9_areApartAsTold.1 mu_X9_areApartAsTold.2.1 mu_X9_areApartAsTold.2.2.1 mu_X9_areApartAsTold.2.2.2.1 ∈ ax_tb := (ax_m3 62 rfl rfl)
noncomputable def b_X9_areApartAsTold_8 (l1 : Int32) (l2 : Int64) (s : ax_S) (a : Int32) : Option ((Int32) ⊕ ((Unit) ⊕ (Int32))) := (if (s.1 2 7) ≤ a then some (.inr (.inl ())) else (if (lg_cmp ((ax_lushr l2 a) &&& (1 : Int64)) (0 : Int64)) = 0 then some (.inl (a + 1)) else (ax_ai cx_C s 21 a).bind (fun v40 => (if v40 = (-1 : Int32) then some (.inl (a + 1)) else (ax_ai cx_C s 20 a).bind (fun v59 => (f_X8_item l1 v59 s).bind (fun q60 => (ax_ai cx_C s 21 a).bind (fun v77 => (f_X8_item l1 v77 s).bind (fun q78 => (ax_ai cx_C s 22 a).bind (fun v95 => (if (q60 - q78) < v95 then some (.inr (.inr (0 : Int32))) else (ax_ai cx_C s 23 a).bind (fun v110 => (if (q60 - q78) ≤ v110 then some (.inl (a + 1)) else some (.inr (.inr (0 : Int32)))))))))))))))
noncomputable def f_X9_areApartAsTold (p1 : Int32) (s : ax_S) : Option (Int32) := (f_X9_knownRows s).bind (fun q1 => (ax_lp (b_X9_areApartAsTold_8 p1 q1 s) (0 : Int32)).bind (Sum.elim (fun e8 => some ((1 : Int32))) (fun r => some (r))))
theorem B_X9_areApartAsTold_8 (X : ax_G × ax_K × Option Value × ax_S) (hV : ax_ok (cx_C, X) mu_X9_areApartAsTold) (l1 : Int32) (l2 : Int64) (s : ax_S) (P : ((Int32) ⊕ ((Unit) ⊕ (Int32))) → Prop) (hI : ∀ a : Int32, P (.inl a) → ax_At (cx_C, X) 8 [some (.ref (ax_ad (cx_C, X) 0)), some (.int l1), some (.long l2), none, some (.int a), none] [] s) (hO : ∀ e : Unit, P (.inr (.inl e)) → ax_At (cx_C, X) 122 [none, none, none, none, none, none] [] s) (hR : ∀ r : Int32, P (.inr (.inr r)) → X.2.2 = (fun r : Int32 => (some (Value.int r), s)) r) (a : Int32) : ax_J (cx_C, X) P 8 [some (.ref (ax_ad (cx_C, X) 0)), some (.int l1), some (.long l2), none, some (.int a), none] [] s (b_X9_areApartAsTold_8 l1 l2 s a) := by
  unfold b_X9_areApartAsTold_8
  refine ax_j (ax_iload hV dX9_areApartAsTold_8 rfl) ?_
  refine ax_j (ax_aload_n hV dX9_areApartAsTold_10 rfl) ?_
  refine ax_j (ax_gfr hV lf_X9_25 dX9_areApartAsTold_11 rfl rfl) ?_
  refine ax_j (ax_gfi hV lf_X9_159 dX9_areApartAsTold_14 rfl rfl) ?_
  refine ax_jif (ax_icmp_ge hV dX9_areApartAsTold_17) ?_ ?_
  · refine ax_jf (lv' := [none, none, none, none, none, none]) [false, false, false, false, false, false] rfl ?_
    exact ax_jl (fun h => hO () h)
  · refine ax_j (ax_lload_n hV dX9_areApartAsTold_20 rfl) ?_
    refine ax_j (ax_iload hV dX9_areApartAsTold_21 rfl) ?_
    refine ax_j (ax_lushr_ hV dX9_areApartAsTold_23) ?_
    refine ax_j (ax_lconst hV (1 : Int64) dX9_areApartAsTold_24 (by decide)) ?_
    refine ax_j (ax_land hV dX9_areApartAsTold_25) ?_
    refine ax_j (ax_lconst hV (0 : Int64) dX9_areApartAsTold_26 (by decide)) ?_
    refine ax_j (ax_lcmp hV dX9_areApartAsTold_27) ?_
    refine ax_jif (ax_if_eq hV dX9_areApartAsTold_28) ?_ ?_
    · refine ax_j (ax_iinc hV (a + 1) [some (.ref (ax_ad (cx_C, X) 0)), some (.int l1), some (.long l2), none, some (.int (a + 1)), none] dX9_areApartAsTold_116 rfl rfl rfl rfl) ?_
      refine ax_j (ax_goto hV dX9_areApartAsTold_119) ?_
      exact ax_jl (fun h => hI (a + 1) h)
    · refine ax_j (ax_aload_n hV dX9_areApartAsTold_31 rfl) ?_
      refine ax_j (ax_gfr hV lf_X9_25 dX9_areApartAsTold_32 rfl rfl) ?_
      refine ax_j (ax_gfr hV lf_X9_136 dX9_areApartAsTold_35 rfl rfl) ?_
      refine ax_j (ax_iload hV dX9_areApartAsTold_38 rfl) ?_
      refine ax_jb (ax_iald hV dX9_areApartAsTold_40) (fun v40 => ?_)
      refine ax_j (ax_iconst hV (-1 : Int32) dX9_areApartAsTold_41 (by decide)) ?_
      refine ax_jif (ax_icmp_eq hV dX9_areApartAsTold_42) ?_ ?_
      · refine ax_j (ax_iinc hV (a + 1) [some (.ref (ax_ad (cx_C, X) 0)), some (.int l1), some (.long l2), none, some (.int (a + 1)), none] dX9_areApartAsTold_116 rfl rfl rfl rfl) ?_
        refine ax_j (ax_goto hV dX9_areApartAsTold_119) ?_
        exact ax_jl (fun h => hI (a + 1) h)
      · refine ax_j (ax_aload_n hV dX9_areApartAsTold_45 rfl) ?_
        refine ax_j (ax_gfr hV lf_X9_57 dX9_areApartAsTold_46 rfl rfl) ?_
        refine ax_j (ax_iload_n hV dX9_areApartAsTold_49 rfl) ?_
        refine ax_j (ax_aload_n hV dX9_areApartAsTold_50 rfl) ?_
        refine ax_j (ax_gfr hV lf_X9_25 dX9_areApartAsTold_51 rfl rfl) ?_
        refine ax_j (ax_gfr hV lf_X9_133 dX9_areApartAsTold_54 rfl rfl) ?_
        refine ax_j (ax_iload hV dX9_areApartAsTold_57 rfl) ?_
        refine ax_jb (ax_iald hV dX9_areApartAsTold_59) (fun v59 => ?_)
        refine ax_jb (fun v ho => ax_cVi hV lk_X9_318 rfl dX9_areApartAsTold_60 rfl rfl [.int l1, .int v59] [] (fun ad => [.ref (ad 8), .int l1, .int v59]) rfl rfl rfl rfl v s (T_X8_item l1 v59 s v ho)) (fun q60 => ?_)
        refine ax_j (ax_aload_n hV dX9_areApartAsTold_63 rfl) ?_
        refine ax_j (ax_gfr hV lf_X9_57 dX9_areApartAsTold_64 rfl rfl) ?_
        refine ax_j (ax_iload_n hV dX9_areApartAsTold_67 rfl) ?_
        refine ax_j (ax_aload_n hV dX9_areApartAsTold_68 rfl) ?_
        refine ax_j (ax_gfr hV lf_X9_25 dX9_areApartAsTold_69 rfl rfl) ?_
        refine ax_j (ax_gfr hV lf_X9_136 dX9_areApartAsTold_72 rfl rfl) ?_
        refine ax_j (ax_iload hV dX9_areApartAsTold_75 rfl) ?_
        refine ax_jb (ax_iald hV dX9_areApartAsTold_77) (fun v77 => ?_)
        refine ax_jb (fun v ho => ax_cVi hV lk_X9_318 rfl dX9_areApartAsTold_78 rfl rfl [.int l1, .int v77] [.int q60] (fun ad => [.ref (ad 8), .int l1, .int v77]) rfl rfl rfl rfl v s (T_X8_item l1 v77 s v ho)) (fun q78 => ?_)
        refine ax_j (ax_isub hV dX9_areApartAsTold_81) ?_
        refine ax_j (ax_istore hV [some (.ref (ax_ad (cx_C, X) 0)), some (.int l1), some (.long l2), none, some (.int a), some (.int (q60 - q78))] dX9_areApartAsTold_82 rfl rfl) ?_
        refine ax_j (ax_iload hV dX9_areApartAsTold_84 rfl) ?_
        refine ax_j (ax_aload_n hV dX9_areApartAsTold_86 rfl) ?_
        refine ax_j (ax_gfr hV lf_X9_25 dX9_areApartAsTold_87 rfl rfl) ?_
        refine ax_j (ax_gfr hV lf_X9_139 dX9_areApartAsTold_90 rfl rfl) ?_
        refine ax_j (ax_iload hV dX9_areApartAsTold_93 rfl) ?_
        refine ax_jb (ax_iald hV dX9_areApartAsTold_95) (fun v95 => ?_)
        refine ax_jif (ax_icmp_lt hV dX9_areApartAsTold_96) ?_ ?_
        · refine ax_j (ax_iconst hV (0 : Int32) dX9_areApartAsTold_114 (by decide)) ?_
          exact ax_jl (fun h => ax_zr hV rfl (by decide) dX9_areApartAsTold_115 (hR (0 : Int32) h))
        · refine ax_j (ax_iload hV dX9_areApartAsTold_99 rfl) ?_
          refine ax_j (ax_aload_n hV dX9_areApartAsTold_101 rfl) ?_
          refine ax_j (ax_gfr hV lf_X9_25 dX9_areApartAsTold_102 rfl rfl) ?_
          refine ax_j (ax_gfr hV lf_X9_142 dX9_areApartAsTold_105 rfl rfl) ?_
          refine ax_j (ax_iload hV dX9_areApartAsTold_108 rfl) ?_
          refine ax_jb (ax_iald hV dX9_areApartAsTold_110) (fun v110 => ?_)
          refine ax_jif (ax_icmp_le hV dX9_areApartAsTold_111) ?_ ?_
          · refine ax_j (ax_iinc hV (a + 1) [some (.ref (ax_ad (cx_C, X) 0)), some (.int l1), some (.long l2), none, some (.int (a + 1)), some (.int (q60 - q78))] dX9_areApartAsTold_116 rfl rfl rfl rfl) ?_
            refine ax_j (ax_goto hV dX9_areApartAsTold_119) ?_
            refine ax_jf (lv' := [some (.ref (ax_ad (cx_C, X) 0)), some (.int l1), some (.long l2), none, some (.int (a + 1)), none]) [true, true, true, false, true, false] rfl ?_
            exact ax_jl (fun h => hI (a + 1) h)
          · refine ax_j (ax_iconst hV (0 : Int32) dX9_areApartAsTold_114 (by decide)) ?_
            exact ax_jl (fun h => ax_zr hV rfl (by decide) dX9_areApartAsTold_115 (hR (0 : Int32) h))
theorem T_X9_areApartAsTold (p1 : Int32) (s : ax_S) (r : Int32) (h : f_X9_areApartAsTold p1 s = some r) : ax_M cx_C mu_X9_areApartAsTold (fun ad => [.ref (ad 0), .int p1]) s (some (.int r)) s := by
  refine ax_enter (by decide +kernel) 4 (fun ad => [some (.ref (ad 0)), some (.int p1), none, none, none, none]) (fun ad => rfl) (fun ad => Nat.le_of_ble_eq_true rfl) (fun X hV ho => ?_)
  refine ax_go (fun r : Int32 => (some (Value.int r), s)) (fun P hP => ?_) h ho
  unfold f_X9_areApartAsTold
  refine ax_j (ax_aload_n hV dX9_areApartAsTold_0 rfl) ?_
  refine ax_jb (fun v ho => ax_cVl hV lk_X9_161 rfl dX9_areApartAsTold_1 rfl rfl [] [] (fun ad => [.ref (ad 0)]) rfl rfl rfl rfl v s (T_X9_knownRows s v ho)) (fun q1 => ?_)
  refine ax_j (ax_lstore_n hV [some (.ref (ax_ad (cx_C, X) 0)), some (.int p1), some (.long q1), none, none, none] dX9_areApartAsTold_4 rfl rfl) ?_
  refine ax_j (ax_iconst hV (0 : Int32) dX9_areApartAsTold_5 (by decide)) ?_
  refine ax_j (ax_istore hV [some (.ref (ax_ad (cx_C, X) 0)), some (.int p1), some (.long q1), none, some (.int (0 : Int32)), none] dX9_areApartAsTold_6 rfl rfl) ?_
  refine ax_jlr (0 : Int32) (fun x8 : Int32 => [some (.ref (ax_ad (cx_C, X) 0)), some (.int p1), some (.long q1), none, some (.int x8), none]) (fun x8 : Int32 => s) (fun y8 : Unit => [none, none, none, none, none, none]) (fun y8 : Unit => s) (fun P' h1 h2 h3 w => B_X9_areApartAsTold_8 X hV p1 q1 s P' h1 h2 (fun r h => hP r (h3 r h)) w) (fun e8 => ?_)
  refine ax_j (ax_iconst hV (1 : Int32) dX9_areApartAsTold_122 (by decide)) ?_
  exact ax_jl (fun h => ax_zr hV rfl (by decide) dX9_areApartAsTold_123 (hP (1 : Int32) h))
theorem lk_X9_372 : ax_lkV RX9 372 mu_X9_areApartAsTold RX9 1 := ax_lkV_of (ax_m3 59 rfl rfl) (ax_m3 61 rfl rfl) (ax_mp1 15 rfl rfl rfl) (ax_m1 1 rfl rfl) lc_X9_areApartAsTold rfl ⟨by decide +kernel, by decide +kernel, by decide +kernel⟩
def mu_X9_roomByDays : ax_Mu := (yX9_roomByDays, cX9_roomByDays, 9, some .int, 3, 66)
theorem lc_X9_roomByDays : Cond.code mu_X9_roomByDays.1 mu_X9_roomByDays.2.1 mu_X9_roomByDays.2.2.1 mu_X9_roomByDays.2.2.2.1 ∈ ax_tb := (ax_m3 70 rfl rfl)
noncomputable def b_X9_roomByDays_30 (l1 : Int32) (l2 : Int32) (l3 : Int64) (s : ax_S) (a : Int32 × Int32 × Int32) : Option ((Int32 × Int32 × Int32) ⊕ (Int32 × Int32)) := (if (s.1 2 7) ≤ a.2.2 then some (.inr (a.1, a.2.1)) else (if (lg_cmp ((ax_lushr l3 a.2.2) &&& (1 : Int64)) (0 : Int64)) = 0 then some (.inl (a.1, a.2.1, (a.2.2 + 1))) else (f_X7_isOnBy a.2.2 l2 s).bind (fun q60 => (if q60 = 0 then some (.inl (a.1, a.2.1, (a.2.2 + 1))) else (ax_ai cx_C s 20 a.2.2).bind (fun v80 => (f_X8_item l1 v80 s).bind (fun q81 => (ax_ai cx_C s 22 a.2.2).bind (fun v97 => (ax_ai cx_C s 23 a.2.2).bind (fun v117 => some (.inl ((ax_max a.1 (v97 - q81)), (ax_min a.2.1 (v117 - q81)), (a.2.2 + 1)))))))))))
noncomputable def f_X9_roomByDays (p1 : Int32) (p2 : Int32) (s : ax_S) : Option (Int32) := (f_X9_knownRows s).bind (fun q1 => (ax_ai cx_C s 26 p2).bind (fun v13 => (ax_ai cx_C s 27 p2).bind (fun v24 => (ax_lp (b_X9_roomByDays_30 p1 p2 q1 s) (v13, v24, (0 : Int32))).bind (fun e30 => some ((ax_max (0 : Int32) ((e30.2 - e30.1) + (1 : Int32))))))))
theorem B_X9_roomByDays_30 (X : ax_G × ax_K × Option Value × ax_S) (hV : ax_ok (cx_C, X) mu_X9_roomByDays) (l1 : Int32) (l2 : Int32) (l3 : Int64) (s : ax_S) (P : ((Int32 × Int32 × Int32) ⊕ (Int32 × Int32)) → Prop) (hI : ∀ a : Int32 × Int32 × Int32, P (.inl a) → ax_At (cx_C, X) 30 [some (.ref (ax_ad (cx_C, X) 0)), some (.int l1), some (.int l2), some (.long l3), none, some (.int a.1), some (.int a.2.1), some (.int a.2.2), none] [] s) (hO : ∀ e : Int32 × Int32, P (.inr e) → ax_At (cx_C, X) 132 [none, none, none, none, none, some (.int e.1), some (.int e.2), none, none] [] s) (a : Int32 × Int32 × Int32) : ax_J (cx_C, X) P 30 [some (.ref (ax_ad (cx_C, X) 0)), some (.int l1), some (.int l2), some (.long l3), none, some (.int a.1), some (.int a.2.1), some (.int a.2.2), none] [] s (b_X9_roomByDays_30 l1 l2 l3 s a) := by
  unfold b_X9_roomByDays_30
  refine ax_j (ax_iload hV dX9_roomByDays_30 rfl) ?_
  refine ax_j (ax_aload_n hV dX9_roomByDays_32 rfl) ?_
  refine ax_j (ax_gfr hV lf_X9_25 dX9_roomByDays_33 rfl rfl) ?_
  refine ax_j (ax_gfi hV lf_X9_159 dX9_roomByDays_36 rfl rfl) ?_
  refine ax_jif (ax_icmp_ge hV dX9_roomByDays_39) ?_ ?_
  · refine ax_jf (lv' := [none, none, none, none, none, some (.int a.1), some (.int a.2.1), none, none]) [false, false, false, false, false, true, true, false, false] rfl ?_
    exact ax_jl (fun h => hO (a.1, a.2.1) h)
  · refine ax_j (ax_lload_n hV dX9_roomByDays_42 rfl) ?_
    refine ax_j (ax_iload hV dX9_roomByDays_43 rfl) ?_
    refine ax_j (ax_lushr_ hV dX9_roomByDays_45) ?_
    refine ax_j (ax_lconst hV (1 : Int64) dX9_roomByDays_46 (by decide)) ?_
    refine ax_j (ax_land hV dX9_roomByDays_47) ?_
    refine ax_j (ax_lconst hV (0 : Int64) dX9_roomByDays_48 (by decide)) ?_
    refine ax_j (ax_lcmp hV dX9_roomByDays_49) ?_
    refine ax_jif (ax_if_eq hV dX9_roomByDays_50) ?_ ?_
    · refine ax_j (ax_iinc hV (a.2.2 + 1) [some (.ref (ax_ad (cx_C, X) 0)), some (.int l1), some (.int l2), some (.long l3), none, some (.int a.1), some (.int a.2.1), some (.int (a.2.2 + 1)), none] dX9_roomByDays_126 rfl rfl rfl rfl) ?_
      refine ax_j (ax_goto hV dX9_roomByDays_129) ?_
      exact ax_jl (fun h => hI (a.1, a.2.1, (a.2.2 + 1)) h)
    · refine ax_j (ax_aload_n hV dX9_roomByDays_53 rfl) ?_
      refine ax_j (ax_gfr hV lf_X9_25 dX9_roomByDays_54 rfl rfl) ?_
      refine ax_j (ax_iload hV dX9_roomByDays_57 rfl) ?_
      refine ax_j (ax_iload_n hV dX9_roomByDays_59 rfl) ?_
      refine ax_jb (fun v ho => ax_cVi hV lk_X9_384 rfl dX9_roomByDays_60 rfl rfl [.int a.2.2, .int l2] [] (fun ad => [.ref (ad 2), .int a.2.2, .int l2]) rfl rfl rfl rfl v s (T_X7_isOnBy a.2.2 l2 s v ho)) (fun q60 => ?_)
      refine ax_jif (ax_if_eq hV dX9_roomByDays_63) ?_ ?_
      · refine ax_j (ax_iinc hV (a.2.2 + 1) [some (.ref (ax_ad (cx_C, X) 0)), some (.int l1), some (.int l2), some (.long l3), none, some (.int a.1), some (.int a.2.1), some (.int (a.2.2 + 1)), none] dX9_roomByDays_126 rfl rfl rfl rfl) ?_
        refine ax_j (ax_goto hV dX9_roomByDays_129) ?_
        exact ax_jl (fun h => hI (a.1, a.2.1, (a.2.2 + 1)) h)
      · refine ax_j (ax_aload_n hV dX9_roomByDays_66 rfl) ?_
        refine ax_j (ax_gfr hV lf_X9_57 dX9_roomByDays_67 rfl rfl) ?_
        refine ax_j (ax_iload_n hV dX9_roomByDays_70 rfl) ?_
        refine ax_j (ax_aload_n hV dX9_roomByDays_71 rfl) ?_
        refine ax_j (ax_gfr hV lf_X9_25 dX9_roomByDays_72 rfl rfl) ?_
        refine ax_j (ax_gfr hV lf_X9_133 dX9_roomByDays_75 rfl rfl) ?_
        refine ax_j (ax_iload hV dX9_roomByDays_78 rfl) ?_
        refine ax_jb (ax_iald hV dX9_roomByDays_80) (fun v80 => ?_)
        refine ax_jb (fun v ho => ax_cVi hV lk_X9_318 rfl dX9_roomByDays_81 rfl rfl [.int l1, .int v80] [] (fun ad => [.ref (ad 8), .int l1, .int v80]) rfl rfl rfl rfl v s (T_X8_item l1 v80 s v ho)) (fun q81 => ?_)
        refine ax_j (ax_istore hV [some (.ref (ax_ad (cx_C, X) 0)), some (.int l1), some (.int l2), some (.long l3), none, some (.int a.1), some (.int a.2.1), some (.int a.2.2), some (.int q81)] dX9_roomByDays_84 rfl rfl) ?_
        refine ax_j (ax_iload hV dX9_roomByDays_86 rfl) ?_
        refine ax_j (ax_aload_n hV dX9_roomByDays_88 rfl) ?_
        refine ax_j (ax_gfr hV lf_X9_25 dX9_roomByDays_89 rfl rfl) ?_
        refine ax_j (ax_gfr hV lf_X9_139 dX9_roomByDays_92 rfl rfl) ?_
        refine ax_j (ax_iload hV dX9_roomByDays_95 rfl) ?_
        refine ax_jb (ax_iald hV dX9_roomByDays_97) (fun v97 => ?_)
        refine ax_j (ax_iload hV dX9_roomByDays_98 rfl) ?_
        refine ax_j (ax_isub hV dX9_roomByDays_100) ?_
        refine ax_j (ax_mmax hV lm_X9_387 rfl dX9_roomByDays_101) ?_
        refine ax_j (ax_istore hV [some (.ref (ax_ad (cx_C, X) 0)), some (.int l1), some (.int l2), some (.long l3), none, some (.int (ax_max a.1 (v97 - q81))), some (.int a.2.1), some (.int a.2.2), some (.int q81)] dX9_roomByDays_104 rfl rfl) ?_
        refine ax_j (ax_iload hV dX9_roomByDays_106 rfl) ?_
        refine ax_j (ax_aload_n hV dX9_roomByDays_108 rfl) ?_
        refine ax_j (ax_gfr hV lf_X9_25 dX9_roomByDays_109 rfl rfl) ?_
        refine ax_j (ax_gfr hV lf_X9_142 dX9_roomByDays_112 rfl rfl) ?_
        refine ax_j (ax_iload hV dX9_roomByDays_115 rfl) ?_
        refine ax_jb (ax_iald hV dX9_roomByDays_117) (fun v117 => ?_)
        refine ax_j (ax_iload hV dX9_roomByDays_118 rfl) ?_
        refine ax_j (ax_isub hV dX9_roomByDays_120) ?_
        refine ax_j (ax_mmin hV lm_X9_328 rfl dX9_roomByDays_121) ?_
        refine ax_j (ax_istore hV [some (.ref (ax_ad (cx_C, X) 0)), some (.int l1), some (.int l2), some (.long l3), none, some (.int (ax_max a.1 (v97 - q81))), some (.int (ax_min a.2.1 (v117 - q81))), some (.int a.2.2), some (.int q81)] dX9_roomByDays_124 rfl rfl) ?_
        refine ax_j (ax_iinc hV (a.2.2 + 1) [some (.ref (ax_ad (cx_C, X) 0)), some (.int l1), some (.int l2), some (.long l3), none, some (.int (ax_max a.1 (v97 - q81))), some (.int (ax_min a.2.1 (v117 - q81))), some (.int (a.2.2 + 1)), some (.int q81)] dX9_roomByDays_126 rfl rfl rfl rfl) ?_
        refine ax_j (ax_goto hV dX9_roomByDays_129) ?_
        refine ax_jf (lv' := [some (.ref (ax_ad (cx_C, X) 0)), some (.int l1), some (.int l2), some (.long l3), none, some (.int (ax_max a.1 (v97 - q81))), some (.int (ax_min a.2.1 (v117 - q81))), some (.int (a.2.2 + 1)), none]) [true, true, true, true, false, true, true, true, false] rfl ?_
        exact ax_jl (fun h => hI ((ax_max a.1 (v97 - q81)), (ax_min a.2.1 (v117 - q81)), (a.2.2 + 1)) h)
theorem T_X9_roomByDays (p1 : Int32) (p2 : Int32) (s : ax_S) (r : Int32) (h : f_X9_roomByDays p1 p2 s = some r) : ax_M cx_C mu_X9_roomByDays (fun ad => [.ref (ad 0), .int p1, .int p2]) s (some (.int r)) s := by
  refine ax_enter (by decide +kernel) 6 (fun ad => [some (.ref (ad 0)), some (.int p1), some (.int p2), none, none, none, none, none, none]) (fun ad => rfl) (fun ad => Nat.le_of_ble_eq_true rfl) (fun X hV ho => ?_)
  refine ax_go (fun r : Int32 => (some (Value.int r), s)) (fun P hP => ?_) h ho
  unfold f_X9_roomByDays
  refine ax_j (ax_aload_n hV dX9_roomByDays_0 rfl) ?_
  refine ax_jb (fun v ho => ax_cVl hV lk_X9_161 rfl dX9_roomByDays_1 rfl rfl [] [] (fun ad => [.ref (ad 0)]) rfl rfl rfl rfl v s (T_X9_knownRows s v ho)) (fun q1 => ?_)
  refine ax_j (ax_lstore_n hV [some (.ref (ax_ad (cx_C, X) 0)), some (.int p1), some (.int p2), some (.long q1), none, none, none, none, none] dX9_roomByDays_4 rfl rfl) ?_
  refine ax_j (ax_aload_n hV dX9_roomByDays_5 rfl) ?_
  refine ax_j (ax_gfr hV lf_X9_20 dX9_roomByDays_6 rfl rfl) ?_
  refine ax_j (ax_gfr hV lf_X9_378 dX9_roomByDays_9 rfl rfl) ?_
  refine ax_j (ax_iload_n hV dX9_roomByDays_12 rfl) ?_
  refine ax_jb (ax_iald hV dX9_roomByDays_13) (fun v13 => ?_)
  refine ax_j (ax_istore hV [some (.ref (ax_ad (cx_C, X) 0)), some (.int p1), some (.int p2), some (.long q1), none, some (.int v13), none, none, none] dX9_roomByDays_14 rfl rfl) ?_
  refine ax_j (ax_aload_n hV dX9_roomByDays_16 rfl) ?_
  refine ax_j (ax_gfr hV lf_X9_20 dX9_roomByDays_17 rfl rfl) ?_
  refine ax_j (ax_gfr hV lf_X9_381 dX9_roomByDays_20 rfl rfl) ?_
  refine ax_j (ax_iload_n hV dX9_roomByDays_23 rfl) ?_
  refine ax_jb (ax_iald hV dX9_roomByDays_24) (fun v24 => ?_)
  refine ax_j (ax_istore hV [some (.ref (ax_ad (cx_C, X) 0)), some (.int p1), some (.int p2), some (.long q1), none, some (.int v13), some (.int v24), none, none] dX9_roomByDays_25 rfl rfl) ?_
  refine ax_j (ax_iconst hV (0 : Int32) dX9_roomByDays_27 (by decide)) ?_
  refine ax_j (ax_istore hV [some (.ref (ax_ad (cx_C, X) 0)), some (.int p1), some (.int p2), some (.long q1), none, some (.int v13), some (.int v24), some (.int (0 : Int32)), none] dX9_roomByDays_28 rfl rfl) ?_
  refine ax_jlp (v13, v24, (0 : Int32)) (fun x30 : Int32 × Int32 × Int32 => [some (.ref (ax_ad (cx_C, X) 0)), some (.int p1), some (.int p2), some (.long q1), none, some (.int x30.1), some (.int x30.2.1), some (.int x30.2.2), none]) (fun x30 : Int32 × Int32 × Int32 => s) (fun y30 : Int32 × Int32 => [none, none, none, none, none, some (.int y30.1), some (.int y30.2), none, none]) (fun y30 : Int32 × Int32 => s) (fun P' h1 h2 w => B_X9_roomByDays_30 X hV p1 p2 q1 s P' h1 h2 w) (fun e30 => ?_)
  refine ax_j (ax_iconst hV (0 : Int32) dX9_roomByDays_132 (by decide)) ?_
  refine ax_j (ax_iload hV dX9_roomByDays_133 rfl) ?_
  refine ax_j (ax_iload hV dX9_roomByDays_135 rfl) ?_
  refine ax_j (ax_isub hV dX9_roomByDays_137) ?_
  refine ax_j (ax_iconst hV (1 : Int32) dX9_roomByDays_138 (by decide)) ?_
  refine ax_j (ax_iadd hV dX9_roomByDays_139) ?_
  refine ax_j (ax_mmax hV lm_X9_387 rfl dX9_roomByDays_140) ?_
  exact ax_jl (fun h => ax_ir hV rfl dX9_roomByDays_143 (hP (ax_max (0 : Int32) ((e30.2 - e30.1) + (1 : Int32))) h))
theorem lk_X9_214 : ax_lkV RX9 214 mu_X9_roomByDays RX9 2 := ax_lkV_of (ax_m3 67 rfl rfl) (ax_m3 69 rfl rfl) (ax_mp2 1 rfl rfl rfl) (ax_m1 1 rfl rfl) lc_X9_roomByDays rfl ⟨by decide +kernel, by decide +kernel, by decide +kernel⟩
def mu_X9_areClocksPossible : ax_Mu := (yX9_areClocksPossible, cX9_areClocksPossible, 3, some .boolean, 4, 94)
theorem lc_X9_areClocksPossible : Cond.code mu_X9_areClocksPossible.1 mu_X9_areClocksPossible.2.1 mu_X9_areClocksPossible.2.2.1 mu_X9_areClocksPossible.2.2.2.1 ∈ ax_tb := (ax_m3 66 rfl rfl)
noncomputable def b_X9_areClocksPossible_2 (l1 : Int32) (s : ax_S) (a : Int32) : Option ((Int32) ⊕ ((Unit) ⊕ (Int32))) := (if (s.1 3 3) ≤ a then some (.inr (.inl ())) else (f_X9_roomByDays l1 a s).bind (fun q16 => (if q16 = 0 then some (.inr (.inr (0 : Int32))) else some (.inl (a + 1)))))
noncomputable def f_X9_areClocksPossible (p1 : Int32) (s : ax_S) : Option (Int32) := (ax_lp (b_X9_areClocksPossible_2 p1 s) (0 : Int32)).bind (Sum.elim (fun e2 => some ((1 : Int32))) (fun r => some (r)))
theorem B_X9_areClocksPossible_2 (X : ax_G × ax_K × Option Value × ax_S) (hV : ax_ok (cx_C, X) mu_X9_areClocksPossible) (l1 : Int32) (s : ax_S) (P : ((Int32) ⊕ ((Unit) ⊕ (Int32))) → Prop) (hI : ∀ a : Int32, P (.inl a) → ax_At (cx_C, X) 2 [some (.ref (ax_ad (cx_C, X) 0)), some (.int l1), some (.int a)] [] s) (hO : ∀ e : Unit, P (.inr (.inl e)) → ax_At (cx_C, X) 30 [none, none, none] [] s) (hR : ∀ r : Int32, P (.inr (.inr r)) → X.2.2 = (fun r : Int32 => (some (Value.int r), s)) r) (a : Int32) : ax_J (cx_C, X) P 2 [some (.ref (ax_ad (cx_C, X) 0)), some (.int l1), some (.int a)] [] s (b_X9_areClocksPossible_2 l1 s a) := by
  unfold b_X9_areClocksPossible_2
  refine ax_j (ax_iload_n hV dX9_areClocksPossible_2 rfl) ?_
  refine ax_j (ax_aload_n hV dX9_areClocksPossible_3 rfl) ?_
  refine ax_j (ax_gfr hV lf_X9_20 dX9_areClocksPossible_4 rfl rfl) ?_
  refine ax_j (ax_gfi hV lf_X9_333 dX9_areClocksPossible_7 rfl rfl) ?_
  refine ax_jif (ax_icmp_ge hV dX9_areClocksPossible_10) ?_ ?_
  · refine ax_jf (lv' := [none, none, none]) [false, false, false] rfl ?_
    exact ax_jl (fun h => hO () h)
  · refine ax_j (ax_aload_n hV dX9_areClocksPossible_13 rfl) ?_
    refine ax_j (ax_iload_n hV dX9_areClocksPossible_14 rfl) ?_
    refine ax_j (ax_iload_n hV dX9_areClocksPossible_15 rfl) ?_
    refine ax_jb (fun v ho => ax_cVi hV lk_X9_214 rfl dX9_areClocksPossible_16 rfl rfl [.int l1, .int a] [] (fun ad => [.ref (ad 0), .int l1, .int a]) rfl rfl rfl rfl v s (T_X9_roomByDays l1 a s v ho)) (fun q16 => ?_)
    refine ax_jif (ax_if_ne hV dX9_areClocksPossible_19) ?_ ?_
    · refine ax_j (ax_iconst hV (0 : Int32) dX9_areClocksPossible_22 (by decide)) ?_
      exact ax_jl (fun h => ax_zr hV rfl (by decide) dX9_areClocksPossible_23 (hR (0 : Int32) h))
    · refine ax_j (ax_iinc hV (a + 1) [some (.ref (ax_ad (cx_C, X) 0)), some (.int l1), some (.int (a + 1))] dX9_areClocksPossible_24 rfl rfl rfl rfl) ?_
      refine ax_j (ax_goto hV dX9_areClocksPossible_27) ?_
      exact ax_jl (fun h => hI (a + 1) h)
theorem T_X9_areClocksPossible (p1 : Int32) (s : ax_S) (r : Int32) (h : f_X9_areClocksPossible p1 s = some r) : ax_M cx_C mu_X9_areClocksPossible (fun ad => [.ref (ad 0), .int p1]) s (some (.int r)) s := by
  refine ax_enter (by decide +kernel) 1 (fun ad => [some (.ref (ad 0)), some (.int p1), none]) (fun ad => rfl) (fun ad => Nat.le_of_ble_eq_true rfl) (fun X hV ho => ?_)
  refine ax_go (fun r : Int32 => (some (Value.int r), s)) (fun P hP => ?_) h ho
  unfold f_X9_areClocksPossible
  refine ax_j (ax_iconst hV (0 : Int32) dX9_areClocksPossible_0 (by decide)) ?_
  refine ax_j (ax_istore_n hV [some (.ref (ax_ad (cx_C, X) 0)), some (.int p1), some (.int (0 : Int32))] dX9_areClocksPossible_1 rfl rfl) ?_
  refine ax_jlr (0 : Int32) (fun x2 : Int32 => [some (.ref (ax_ad (cx_C, X) 0)), some (.int p1), some (.int x2)]) (fun x2 : Int32 => s) (fun y2 : Unit => [none, none, none]) (fun y2 : Unit => s) (fun P' h1 h2 h3 w => B_X9_areClocksPossible_2 X hV p1 s P' h1 h2 (fun r h => hP r (h3 r h)) w) (fun e2 => ?_)
  refine ax_j (ax_iconst hV (1 : Int32) dX9_areClocksPossible_30 (by decide)) ?_
  exact ax_jl (fun h => ax_zr hV rfl (by decide) dX9_areClocksPossible_31 (hP (1 : Int32) h))
theorem lk_X9_375 : ax_lkV RX9 375 mu_X9_areClocksPossible RX9 1 := ax_lkV_of (ax_m3 63 rfl rfl) (ax_m3 65 rfl rfl) (ax_mp2 0 rfl rfl rfl) (ax_m1 1 rfl rfl) lc_X9_areClocksPossible rfl ⟨by decide +kernel, by decide +kernel, by decide +kernel⟩
def mu_X9_isFitting : ax_Mu := (yX9_isFitting, cX9_isFitting, 4, some .boolean, 5, 116)
theorem lc_X9_isFitting : Cond.code mu_X9_isFitting.1 mu_X9_isFitting.2.1 mu_X9_isFitting.2.2.1 mu_X9_isFitting.2.2.2.1 ∈ ax_tb := (ax_m3 57 rfl rfl)
noncomputable def b_X9_isFitting_2 (l1 : Int32) (s : ax_S) (a : Int32) : Option ((Int32) ⊕ ((Unit) ⊕ (Int32))) := (if (s.1 0 10) ≤ a then some (.inr (.inl ())) else (f_X8_item l1 a s).bind (fun q16 => (if q16 < (-200000 : Int32) then some (.inr (.inr (0 : Int32))) else (if q16 ≤ (200000 : Int32) then some (.inl (a + 1)) else some (.inr (.inr (0 : Int32)))))))
noncomputable def f_X9_isFitting (p1 : Int32) (s : ax_S) : Option (Int32) := (ax_lp (b_X9_isFitting_2 p1 s) (0 : Int32)).bind (Sum.elim (fun e2 => (f_X9_areApartAsTold p1 s).bind (fun q43 => (if q43 = 0 then some ((0 : Int32)) else (f_X9_areClocksPossible p1 s).bind (fun q51 => (if q51 = 0 then some ((0 : Int32)) else some ((1 : Int32))))))) (fun r => some (r)))
theorem B_X9_isFitting_2 (X : ax_G × ax_K × Option Value × ax_S) (hV : ax_ok (cx_C, X) mu_X9_isFitting) (l1 : Int32) (s : ax_S) (P : ((Int32) ⊕ ((Unit) ⊕ (Int32))) → Prop) (hI : ∀ a : Int32, P (.inl a) → ax_At (cx_C, X) 2 [some (.ref (ax_ad (cx_C, X) 0)), some (.int l1), some (.int a), none] [] s) (hO : ∀ e : Unit, P (.inr (.inl e)) → ax_At (cx_C, X) 41 [some (.ref (ax_ad (cx_C, X) 0)), some (.int l1), none, none] [] s) (hR : ∀ r : Int32, P (.inr (.inr r)) → X.2.2 = (fun r : Int32 => (some (Value.int r), s)) r) (a : Int32) : ax_J (cx_C, X) P 2 [some (.ref (ax_ad (cx_C, X) 0)), some (.int l1), some (.int a), none] [] s (b_X9_isFitting_2 l1 s a) := by
  unfold b_X9_isFitting_2
  refine ax_j (ax_iload_n hV dX9_isFitting_2 rfl) ?_
  refine ax_j (ax_aload_n hV dX9_isFitting_3 rfl) ?_
  refine ax_j (ax_gfi hV lf_X9_68 dX9_isFitting_4 rfl rfl) ?_
  refine ax_jif (ax_icmp_ge hV dX9_isFitting_7) ?_ ?_
  · refine ax_jf (lv' := [some (.ref (ax_ad (cx_C, X) 0)), some (.int l1), none, none]) [true, true, false, false] rfl ?_
    exact ax_jl (fun h => hO () h)
  · refine ax_j (ax_aload_n hV dX9_isFitting_10 rfl) ?_
    refine ax_j (ax_gfr hV lf_X9_57 dX9_isFitting_11 rfl rfl) ?_
    refine ax_j (ax_iload_n hV dX9_isFitting_14 rfl) ?_
    refine ax_j (ax_iload_n hV dX9_isFitting_15 rfl) ?_
    refine ax_jb (fun v ho => ax_cVi hV lk_X9_318 rfl dX9_isFitting_16 rfl rfl [.int l1, .int a] [] (fun ad => [.ref (ad 8), .int l1, .int a]) rfl rfl rfl rfl v s (T_X8_item l1 a s v ho)) (fun q16 => ?_)
    refine ax_j (ax_istore_n hV [some (.ref (ax_ad (cx_C, X) 0)), some (.int l1), some (.int a), some (.int q16)] dX9_isFitting_19 rfl rfl) ?_
    refine ax_j (ax_iload_n hV dX9_isFitting_20 rfl) ?_
    refine ax_j (ax_ldcw hV kc_X9_371 dX9_isFitting_21) ?_
    refine ax_jif (ax_icmp_lt hV dX9_isFitting_24) ?_ ?_
    · refine ax_j (ax_iconst hV (0 : Int32) dX9_isFitting_33 (by decide)) ?_
      exact ax_jl (fun h => ax_zr hV rfl (by decide) dX9_isFitting_34 (hR (0 : Int32) h))
    · refine ax_j (ax_iload_n hV dX9_isFitting_27 rfl) ?_
      refine ax_j (ax_ldc hV kc_X9_95 dX9_isFitting_28) ?_
      refine ax_jif (ax_icmp_le hV dX9_isFitting_30) ?_ ?_
      · refine ax_j (ax_iinc hV (a + 1) [some (.ref (ax_ad (cx_C, X) 0)), some (.int l1), some (.int (a + 1)), some (.int q16)] dX9_isFitting_35 rfl rfl rfl rfl) ?_
        refine ax_j (ax_goto hV dX9_isFitting_38) ?_
        refine ax_jf (lv' := [some (.ref (ax_ad (cx_C, X) 0)), some (.int l1), some (.int (a + 1)), none]) [true, true, true, false] rfl ?_
        exact ax_jl (fun h => hI (a + 1) h)
      · refine ax_j (ax_iconst hV (0 : Int32) dX9_isFitting_33 (by decide)) ?_
        exact ax_jl (fun h => ax_zr hV rfl (by decide) dX9_isFitting_34 (hR (0 : Int32) h))
theorem T_X9_isFitting (p1 : Int32) (s : ax_S) (r : Int32) (h : f_X9_isFitting p1 s = some r) : ax_M cx_C mu_X9_isFitting (fun ad => [.ref (ad 0), .int p1]) s (some (.int r)) s := by
  refine ax_enter (by decide +kernel) 2 (fun ad => [some (.ref (ad 0)), some (.int p1), none, none]) (fun ad => rfl) (fun ad => Nat.le_of_ble_eq_true rfl) (fun X hV ho => ?_)
  refine ax_go (fun r : Int32 => (some (Value.int r), s)) (fun P hP => ?_) h ho
  unfold f_X9_isFitting
  refine ax_j (ax_iconst hV (0 : Int32) dX9_isFitting_0 (by decide)) ?_
  refine ax_j (ax_istore_n hV [some (.ref (ax_ad (cx_C, X) 0)), some (.int p1), some (.int (0 : Int32)), none] dX9_isFitting_1 rfl rfl) ?_
  refine ax_jlr (0 : Int32) (fun x2 : Int32 => [some (.ref (ax_ad (cx_C, X) 0)), some (.int p1), some (.int x2), none]) (fun x2 : Int32 => s) (fun y2 : Unit => [some (.ref (ax_ad (cx_C, X) 0)), some (.int p1), none, none]) (fun y2 : Unit => s) (fun P' h1 h2 h3 w => B_X9_isFitting_2 X hV p1 s P' h1 h2 (fun r h => hP r (h3 r h)) w) (fun e2 => ?_)
  refine ax_j (ax_aload_n hV dX9_isFitting_41 rfl) ?_
  refine ax_j (ax_iload_n hV dX9_isFitting_42 rfl) ?_
  refine ax_jb (fun v ho => ax_cVi hV lk_X9_372 rfl dX9_isFitting_43 rfl rfl [.int p1] [] (fun ad => [.ref (ad 0), .int p1]) rfl rfl rfl rfl v s (T_X9_areApartAsTold p1 s v ho)) (fun q43 => ?_)
  refine ax_jif (ax_if_eq hV dX9_isFitting_46) ?_ ?_
  · refine ax_j (ax_iconst hV (0 : Int32) dX9_isFitting_61 (by decide)) ?_
    exact ax_jl (fun h => ax_zr hV rfl (by decide) dX9_isFitting_62 (hP (0 : Int32) h))
  · refine ax_j (ax_aload_n hV dX9_isFitting_49 rfl) ?_
    refine ax_j (ax_iload_n hV dX9_isFitting_50 rfl) ?_
    refine ax_jb (fun v ho => ax_cVi hV lk_X9_375 rfl dX9_isFitting_51 rfl rfl [.int p1] [] (fun ad => [.ref (ad 0), .int p1]) rfl rfl rfl rfl v s (T_X9_areClocksPossible p1 s v ho)) (fun q51 => ?_)
    refine ax_jif (ax_if_eq hV dX9_isFitting_54) ?_ ?_
    · refine ax_j (ax_iconst hV (0 : Int32) dX9_isFitting_61 (by decide)) ?_
      exact ax_jl (fun h => ax_zr hV rfl (by decide) dX9_isFitting_62 (hP (0 : Int32) h))
    · refine ax_j (ax_iconst hV (1 : Int32) dX9_isFitting_57 (by decide)) ?_
      refine ax_j (ax_goto hV dX9_isFitting_58) ?_
      exact ax_jl (fun h => ax_zr hV rfl (by decide) dX9_isFitting_62 (hP (1 : Int32) h))
theorem lk_X9_208 : ax_lkV RX9 208 mu_X9_isFitting RX9 1 := ax_lkV_of (ax_m3 54 rfl rfl) (ax_m3 56 rfl rfl) (ax_mp1 14 rfl rfl rfl) (ax_m1 1 rfl rfl) lc_X9_isFitting rfl ⟨by decide +kernel, by decide +kernel, by decide +kernel⟩
def mu_X9_fits : ax_Mu := (yX9_fits, cX9_fits, 2, some .int, 6, 139)
theorem lc_X9_fits : Cond.code mu_X9_fits.1 mu_X9_fits.2.1 mu_X9_fits.2.2.1 mu_X9_fits.2.2.2.1 ∈ ax_tb := (ax_m3 53 rfl rfl)
noncomputable def f_X9_fits (p1 : Int32) (s : ax_S) : Option (Int32 × ax_S) := (f_X9_isSheet p1).bind (fun q1 => (if q1 = 0 then some (((-2 : Int32), s)) else (f_X8_isLost p1 s).bind (fun q15 => (if q15 = 0 then (ax_ai cx_C s 38 p1).bind (fun v35 => (if (s.1 0 10) ≤ v35 then (f_X9_isFitting p1 s).bind (fun q51 => (f_X9_oneIf q51).bind (fun q54 => some ((q54, s)))) else (f_X9_found (2 : Int32) s).bind (fun q45 => some ((q45.1, q45.2))))) else (f_X9_found (1 : Int32) s).bind (fun q23 => some ((q23.1, q23.2)))))))
theorem T_X9_fits (p1 : Int32) (s : ax_S) (r : Int32 × ax_S) (h : f_X9_fits p1 s = some r) : ax_M cx_C mu_X9_fits (fun ad => [.ref (ad 0), .int p1]) s (some (.int r.1)) r.2 := by
  refine ax_enter (by decide +kernel) 0 (fun ad => [some (.ref (ad 0)), some (.int p1)]) (fun ad => rfl) (fun ad => Nat.le_of_ble_eq_true rfl) (fun X hV ho => ?_)
  refine ax_go (fun r : Int32 × ax_S => (some (Value.int r.1), r.2)) (fun P hP => ?_) h ho
  unfold f_X9_fits
  refine ax_j (ax_iload_n hV dX9_fits_0 rfl) ?_
  refine ax_jb (fun v ho => ax_cSi hV lk_X9_107 rfl dX9_fits_1 [.int p1] [] (fun ad => [.int p1]) rfl rfl rfl rfl v s (T_X9_isSheet p1 s v ho)) (fun q1 => ?_)
  refine ax_jif (ax_if_ne hV dX9_fits_4) ?_ ?_
  · refine ax_j (ax_bipush hV (-2 : Int32) dX9_fits_7 (by decide)) ?_
    exact ax_jl (fun h => ax_ir hV rfl dX9_fits_9 (hP ((-2 : Int32), s) h))
  · refine ax_j (ax_aload_n hV dX9_fits_10 rfl) ?_
    refine ax_j (ax_gfr hV lf_X9_57 dX9_fits_11 rfl rfl) ?_
    refine ax_j (ax_iload_n hV dX9_fits_14 rfl) ?_
    refine ax_jb (fun v ho => ax_cVi hV lk_X9_110 rfl dX9_fits_15 rfl rfl [.int p1] [] (fun ad => [.ref (ad 8), .int p1]) rfl rfl rfl rfl v s (T_X8_isLost p1 s v ho)) (fun q15 => ?_)
    refine ax_jif (ax_if_eq hV dX9_fits_18) ?_ ?_
    · refine ax_j (ax_aload_n hV dX9_fits_27 rfl) ?_
      refine ax_j (ax_gfr hV lf_X9_57 dX9_fits_28 rfl rfl) ?_
      refine ax_j (ax_gfr hV lf_X9_117 dX9_fits_31 rfl rfl) ?_
      refine ax_j (ax_iload_n hV dX9_fits_34 rfl) ?_
      refine ax_jb (ax_iald hV dX9_fits_35) (fun v35 => ?_)
      refine ax_j (ax_aload_n hV dX9_fits_36 rfl) ?_
      refine ax_j (ax_gfi hV lf_X9_68 dX9_fits_37 rfl rfl) ?_
      refine ax_jif (ax_icmp_ge hV dX9_fits_40) ?_ ?_
      · refine ax_j (ax_aload_n hV dX9_fits_49 rfl) ?_
        refine ax_j (ax_iload_n hV dX9_fits_50 rfl) ?_
        refine ax_jb (fun v ho => ax_cVi hV lk_X9_208 rfl dX9_fits_51 rfl rfl [.int p1] [] (fun ad => [.ref (ad 0), .int p1]) rfl rfl rfl rfl v s (T_X9_isFitting p1 s v ho)) (fun q51 => ?_)
        refine ax_jb (fun v ho => ax_cSi hV lk_X9_155 rfl dX9_fits_54 [.int q51] [] (fun ad => [.int q51]) rfl rfl rfl rfl v s (T_X9_oneIf q51 s v ho)) (fun q54 => ?_)
        exact ax_jl (fun h => ax_ir hV rfl dX9_fits_57 (hP (q54, s) h))
      · refine ax_j (ax_aload_n hV dX9_fits_43 rfl) ?_
        refine ax_j (ax_iconst hV (2 : Int32) dX9_fits_44 (by decide)) ?_
        refine ax_jb (fun v ho => ax_cVi hV lk_X9_113 rfl dX9_fits_45 rfl rfl [.int (2 : Int32)] [] (fun ad => [.ref (ad 0), .int (2 : Int32)]) rfl rfl rfl rfl v.1 v.2 (T_X9_found (2 : Int32) s v ho)) (fun q45 => ?_)
        exact ax_jl (fun h => ax_ir hV rfl dX9_fits_48 (hP (q45.1, q45.2) h))
    · refine ax_j (ax_aload_n hV dX9_fits_21 rfl) ?_
      refine ax_j (ax_iconst hV (1 : Int32) dX9_fits_22 (by decide)) ?_
      refine ax_jb (fun v ho => ax_cVi hV lk_X9_113 rfl dX9_fits_23 rfl rfl [.int (1 : Int32)] [] (fun ad => [.ref (ad 0), .int (1 : Int32)]) rfl rfl rfl rfl v.1 v.2 (T_X9_found (1 : Int32) s v ho)) (fun q23 => ?_)
      exact ax_jl (fun h => ax_ir hV rfl dX9_fits_26 (hP (q23.1, q23.2) h))
theorem lk_X9_211 : ax_lkV RX9 211 mu_X9_fits RX9 1 := ax_lkV_of (ax_m3 83 rfl rfl) (ax_m3 51 rfl rfl) (ax_m3 52 rfl rfl) (ax_m1 1 rfl rfl) lc_X9_fits rfl ⟨by decide +kernel, by decide +kernel, by decide +kernel⟩
def mu_X9_room : ax_Mu := (yX9_room, cX9_room, 4, some .int, 7, 160)
theorem lc_X9_room : Cond.code mu_X9_room.1 mu_X9_room.2.1 mu_X9_room.2.2.1 mu_X9_room.2.2.2.1 ∈ ax_tb := (ax_m3 82 rfl rfl)
noncomputable def f_X9_room (p1 : Int32) (p2 : Int32) (s : ax_S) : Option (Int32 × ax_S) := (f_X9_isSheet p1).bind (fun q1 => (if q1 = 0 then some (((-2 : Int32), s)) else (f_X9_isBook p2 s).bind (fun q9 => (if q9 = 0 then some (((-2 : Int32), s)) else (f_X9_fits p1 s).bind (fun q20 => (if 0 ≤ q20.1 then (if q20.1 = (1 : Int32) then (f_X9_roomByDays p1 p2 q20.2).bind (fun q38 => some ((q38, q20.2))) else some (((-3 : Int32), q20.2))) else some ((q20.1, q20.2))))))))
theorem T_X9_room (p1 : Int32) (p2 : Int32) (s : ax_S) (r : Int32 × ax_S) (h : f_X9_room p1 p2 s = some r) : ax_M cx_C mu_X9_room (fun ad => [.ref (ad 0), .int p1, .int p2]) s (some (.int r.1)) r.2 := by
  refine ax_enter (by decide +kernel) 1 (fun ad => [some (.ref (ad 0)), some (.int p1), some (.int p2), none]) (fun ad => rfl) (fun ad => Nat.le_of_ble_eq_true rfl) (fun X hV ho => ?_)
  refine ax_go (fun r : Int32 × ax_S => (some (Value.int r.1), r.2)) (fun P hP => ?_) h ho
  unfold f_X9_room
  refine ax_j (ax_iload_n hV dX9_room_0 rfl) ?_
  refine ax_jb (fun v ho => ax_cSi hV lk_X9_107 rfl dX9_room_1 [.int p1] [] (fun ad => [.int p1]) rfl rfl rfl rfl v s (T_X9_isSheet p1 s v ho)) (fun q1 => ?_)
  refine ax_jif (ax_if_eq hV dX9_room_4) ?_ ?_
  · refine ax_j (ax_bipush hV (-2 : Int32) dX9_room_15 (by decide)) ?_
    exact ax_jl (fun h => ax_ir hV rfl dX9_room_17 (hP ((-2 : Int32), s) h))
  · refine ax_j (ax_aload_n hV dX9_room_7 rfl) ?_
    refine ax_j (ax_iload_n hV dX9_room_8 rfl) ?_
    refine ax_jb (fun v ho => ax_cVi hV lk_X9_84 rfl dX9_room_9 rfl rfl [.int p2] [] (fun ad => [.ref (ad 0), .int p2]) rfl rfl rfl rfl v s (T_X9_isBook p2 s v ho)) (fun q9 => ?_)
    refine ax_jif (ax_if_ne hV dX9_room_12) ?_ ?_
    · refine ax_j (ax_bipush hV (-2 : Int32) dX9_room_15 (by decide)) ?_
      exact ax_jl (fun h => ax_ir hV rfl dX9_room_17 (hP ((-2 : Int32), s) h))
    · refine ax_j (ax_aload_n hV dX9_room_18 rfl) ?_
      refine ax_j (ax_iload_n hV dX9_room_19 rfl) ?_
      refine ax_jb (fun v ho => ax_cVi hV lk_X9_211 rfl dX9_room_20 rfl rfl [.int p1] [] (fun ad => [.ref (ad 0), .int p1]) rfl rfl rfl rfl v.1 v.2 (T_X9_fits p1 s v ho)) (fun q20 => ?_)
      refine ax_j (ax_istore_n hV [some (.ref (ax_ad (cx_C, X) 0)), some (.int p1), some (.int p2), some (.int q20.1)] dX9_room_23 rfl rfl) ?_
      refine ax_j (ax_iload_n hV dX9_room_24 rfl) ?_
      refine ax_jif (ax_if_ge hV dX9_room_25) ?_ ?_
      · refine ax_j (ax_iload_n hV dX9_room_30 rfl) ?_
        refine ax_j (ax_iconst hV (1 : Int32) dX9_room_31 (by decide)) ?_
        refine ax_jif (ax_icmp_ne hV dX9_room_32) ?_ ?_
        · refine ax_j (ax_aload_n hV dX9_room_35 rfl) ?_
          refine ax_j (ax_iload_n hV dX9_room_36 rfl) ?_
          refine ax_j (ax_iload_n hV dX9_room_37 rfl) ?_
          refine ax_jb (fun v ho => ax_cVi hV lk_X9_214 rfl dX9_room_38 rfl rfl [.int p1, .int p2] [] (fun ad => [.ref (ad 0), .int p1, .int p2]) rfl rfl rfl rfl v q20.2 (T_X9_roomByDays p1 p2 q20.2 v ho)) (fun q38 => ?_)
          refine ax_j (ax_goto hV dX9_room_41) ?_
          exact ax_jl (fun h => ax_ir hV rfl dX9_room_46 (hP (q38, q20.2) h))
        · refine ax_j (ax_bipush hV (-3 : Int32) dX9_room_44 (by decide)) ?_
          exact ax_jl (fun h => ax_ir hV rfl dX9_room_46 (hP ((-3 : Int32), q20.2) h))
      · refine ax_j (ax_iload_n hV dX9_room_28 rfl) ?_
        exact ax_jl (fun h => ax_ir hV rfl dX9_room_29 (hP (q20.1, q20.2) h))
def mu_X9_kin : ax_Mu := (yX9_kin, cX9_kin, 4, some .int, 3, 75)
theorem lc_X9_kin : Cond.code mu_X9_kin.1 mu_X9_kin.2.1 mu_X9_kin.2.2.1 mu_X9_kin.2.2.2.1 ∈ ax_tb := (ax_m3 87 rfl rfl)
noncomputable def f_X9_kin (p1 : Int32) (p2 : Int32) (p3 : Int32) (s : ax_S) : Option (Int32 × ax_S) := (f_X9_isBook p1 s).bind (fun q2 => (if q2 = 0 then some (((-500000 : Int32), s)) else (f_X9_isBook p2 s).bind (fun q10 => (if q10 = 0 then some (((-500000 : Int32), s)) else (if p1 = p2 then some (((-500000 : Int32), s)) else (if p3 < 0 then some (((-500000 : Int32), s)) else (if p3 ≤ (2 : Int32) then (f_X9_knownRows s).bind (fun q42 => (f_X4_compare q42 p1 p2 s).bind (fun q47 => (if p3 = 0 then some (((q47.1 6 1), q47)) else (if p3 = (1 : Int32) then some (((q47.1 6 2), q47)) else (if (q47.1 6 1) = 0 then some (((-3 : Int32), q47)) else some (((q47.1 6 3), q47))))))) else some (((-500000 : Int32), s)))))))))
theorem T_X9_kin (p1 : Int32) (p2 : Int32) (p3 : Int32) (s : ax_S) (r : Int32 × ax_S) (h : f_X9_kin p1 p2 p3 s = some r) : ax_M cx_C mu_X9_kin (fun ad => [.ref (ad 0), .int p1, .int p2, .int p3]) s (some (.int r.1)) r.2 := by
  refine ax_enter (by decide +kernel) 0 (fun ad => [some (.ref (ad 0)), some (.int p1), some (.int p2), some (.int p3)]) (fun ad => rfl) (fun ad => Nat.le_of_ble_eq_true rfl) (fun X hV ho => ?_)
  refine ax_go (fun r : Int32 × ax_S => (some (Value.int r.1), r.2)) (fun P hP => ?_) h ho
  unfold f_X9_kin
  refine ax_j (ax_aload_n hV dX9_kin_0 rfl) ?_
  refine ax_j (ax_iload_n hV dX9_kin_1 rfl) ?_
  refine ax_jb (fun v ho => ax_cVi hV lk_X9_84 rfl dX9_kin_2 rfl rfl [.int p1] [] (fun ad => [.ref (ad 0), .int p1]) rfl rfl rfl rfl v s (T_X9_isBook p1 s v ho)) (fun q2 => ?_)
  refine ax_jif (ax_if_eq hV dX9_kin_5) ?_ ?_
  · refine ax_j (ax_ldc hV kc_X9_184 dX9_kin_30) ?_
    exact ax_jl (fun h => ax_ir hV rfl dX9_kin_32 (hP ((-500000 : Int32), s) h))
  · refine ax_j (ax_aload_n hV dX9_kin_8 rfl) ?_
    refine ax_j (ax_iload_n hV dX9_kin_9 rfl) ?_
    refine ax_jb (fun v ho => ax_cVi hV lk_X9_84 rfl dX9_kin_10 rfl rfl [.int p2] [] (fun ad => [.ref (ad 0), .int p2]) rfl rfl rfl rfl v s (T_X9_isBook p2 s v ho)) (fun q10 => ?_)
    refine ax_jif (ax_if_eq hV dX9_kin_13) ?_ ?_
    · refine ax_j (ax_ldc hV kc_X9_184 dX9_kin_30) ?_
      exact ax_jl (fun h => ax_ir hV rfl dX9_kin_32 (hP ((-500000 : Int32), s) h))
    · refine ax_j (ax_iload_n hV dX9_kin_16 rfl) ?_
      refine ax_j (ax_iload_n hV dX9_kin_17 rfl) ?_
      refine ax_jif (ax_icmp_eq hV dX9_kin_18) ?_ ?_
      · refine ax_j (ax_ldc hV kc_X9_184 dX9_kin_30) ?_
        exact ax_jl (fun h => ax_ir hV rfl dX9_kin_32 (hP ((-500000 : Int32), s) h))
      · refine ax_j (ax_iload_n hV dX9_kin_21 rfl) ?_
        refine ax_jif (ax_if_lt hV dX9_kin_22) ?_ ?_
        · refine ax_j (ax_ldc hV kc_X9_184 dX9_kin_30) ?_
          exact ax_jl (fun h => ax_ir hV rfl dX9_kin_32 (hP ((-500000 : Int32), s) h))
        · refine ax_j (ax_iload_n hV dX9_kin_25 rfl) ?_
          refine ax_j (ax_iconst hV (2 : Int32) dX9_kin_26 (by decide)) ?_
          refine ax_jif (ax_icmp_le hV dX9_kin_27) ?_ ?_
          · refine ax_j (ax_aload_n hV dX9_kin_33 rfl) ?_
            refine ax_j (ax_gfr hV lf_X9_43 dX9_kin_34 rfl rfl) ?_
            refine ax_j (ax_aload_n hV dX9_kin_37 rfl) ?_
            refine ax_j (ax_gfr hV lf_X9_25 dX9_kin_38 rfl rfl) ?_
            refine ax_j (ax_aload_n hV dX9_kin_41 rfl) ?_
            refine ax_jb (fun v ho => ax_cVl hV lk_X9_161 rfl dX9_kin_42 rfl rfl [] [.ref (ax_ad (cx_C, X) 2), .ref (ax_ad (cx_C, X) 6)] (fun ad => [.ref (ad 0)]) rfl rfl rfl rfl v s (T_X9_knownRows s v ho)) (fun q42 => ?_)
            refine ax_j (ax_iload_n hV dX9_kin_45 rfl) ?_
            refine ax_j (ax_iload_n hV dX9_kin_46 rfl) ?_
            refine ax_jb (fun v ho => ax_cVv hV lk_X9_217 rfl dX9_kin_47 rfl rfl [.ref (ax_ad (cx_C, X) 2), .long q42, .int p1, .int p2] [] (fun ad => [.ref (ad 6), .ref (ad 2), .long q42, .int p1, .int p2]) rfl rfl rfl rfl v (T_X4_compare q42 p1 p2 s v ho)) (fun q47 => ?_)
            refine ax_j (ax_iload_n hV dX9_kin_50 rfl) ?_
            refine ax_jif (ax_if_ne hV dX9_kin_51) ?_ ?_
            · refine ax_j (ax_aload_n hV dX9_kin_54 rfl) ?_
              refine ax_j (ax_gfr hV lf_X9_43 dX9_kin_55 rfl rfl) ?_
              refine ax_j (ax_gfi hV lf_X9_221 dX9_kin_58 rfl rfl) ?_
              exact ax_jl (fun h => ax_ir hV rfl dX9_kin_61 (hP ((q47.1 6 1), q47) h))
            · refine ax_j (ax_iload_n hV dX9_kin_62 rfl) ?_
              refine ax_j (ax_iconst hV (1 : Int32) dX9_kin_63 (by decide)) ?_
              refine ax_jif (ax_icmp_ne hV dX9_kin_64) ?_ ?_
              · refine ax_j (ax_aload_n hV dX9_kin_67 rfl) ?_
                refine ax_j (ax_gfr hV lf_X9_43 dX9_kin_68 rfl rfl) ?_
                refine ax_j (ax_gfi hV lf_X9_222 dX9_kin_71 rfl rfl) ?_
                exact ax_jl (fun h => ax_ir hV rfl dX9_kin_74 (hP ((q47.1 6 2), q47) h))
              · refine ax_j (ax_aload_n hV dX9_kin_75 rfl) ?_
                refine ax_j (ax_gfr hV lf_X9_43 dX9_kin_76 rfl rfl) ?_
                refine ax_j (ax_gfi hV lf_X9_221 dX9_kin_79 rfl rfl) ?_
                refine ax_jif (ax_if_ne hV dX9_kin_82) ?_ ?_
                · refine ax_j (ax_bipush hV (-3 : Int32) dX9_kin_85 (by decide)) ?_
                  refine ax_j (ax_goto hV dX9_kin_87) ?_
                  exact ax_jl (fun h => ax_ir hV rfl dX9_kin_97 (hP ((-3 : Int32), q47) h))
                · refine ax_j (ax_aload_n hV dX9_kin_90 rfl) ?_
                  refine ax_j (ax_gfr hV lf_X9_43 dX9_kin_91 rfl rfl) ?_
                  refine ax_j (ax_gfi hV lf_X9_225 dX9_kin_94 rfl rfl) ?_
                  exact ax_jl (fun h => ax_ir hV rfl dX9_kin_97 (hP ((q47.1 6 3), q47) h))
          · refine ax_j (ax_ldc hV kc_X9_184 dX9_kin_30) ?_
            exact ax_jl (fun h => ax_ir hV rfl dX9_kin_32 (hP ((-500000 : Int32), s) h))

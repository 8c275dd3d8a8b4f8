def mu_X10_lay : ax_Mu := (yX10_lay, cX10_lay, 4, none, 0, 0)
theorem lc_X10_lay : Cond.code mu_X10_lay.1 mu_X10_lay.2.1 mu_X10_lay.2.2.1 mu_X10_lay.2.2.2.1 ∈ ax_tb := (ax_m6 146 rfl rfl)
noncomputable def f_X10_lay (p1 : Int32) (p2 : Int32) (p3 : Int32) (s : ax_S) : Option (ax_S) := (ax_ai cx_R s 23 p1).bind (fun v15 => (if v15 = 0 then (ax_si cx_R s 25 (((40 : Int32) * p1) + p2) p3.toInt8.toInt32).bind (fun s40 => some (s40)) else (ax_ai cx_R s 23 p1).bind (fun v29 => (if v29 = (1 : Int32) then (ax_si cx_R s 25 (((40 : Int32) * p1) + p2) p3.toInt16.toInt32).bind (fun s40 => some (s40)) else (ax_si cx_R s 25 (((40 : Int32) * p1) + p2) p3).bind (fun s40 => some (s40))))))
theorem T_X10_lay (p1 : Int32) (p2 : Int32) (p3 : Int32) (s : ax_S) (r : ax_S) (h : f_X10_lay p1 p2 p3 s = some r) : ax_M cx_R mu_X10_lay (fun ad => [.ref (ad 0), .int p1, .int p2, .int p3]) s none r := by
  refine ax_enter (by decide +kernel) 0 (fun ad => [some (.ref (ad 0)), some (.int p1), some (.int p2), some (.int p3)]) (fun ad => rfl) (fun ad => Nat.le_of_ble_eq_true rfl) (fun X hV ho => ?_)
  refine ax_go (fun r : ax_S => ((none : Option Value), r)) (fun P hP => ?_) h ho
  unfold f_X10_lay
  refine ax_j (ax_aload_n hV dX10_lay_0 rfl) ?_
  refine ax_j (ax_gfr hV lf_X10_88 dX10_lay_1 rfl rfl) ?_
  refine ax_j (ax_bipush hV (40 : Int32) dX10_lay_4 (by decide)) ?_
  refine ax_j (ax_iload_n hV dX10_lay_6 rfl) ?_
  refine ax_j (ax_imul hV dX10_lay_7) ?_
  refine ax_j (ax_iload_n hV dX10_lay_8 rfl) ?_
  refine ax_j (ax_iadd hV dX10_lay_9) ?_
  refine ax_j (ax_aload_n hV dX10_lay_10 rfl) ?_
  refine ax_j (ax_gfr hV lf_X10_82 dX10_lay_11 rfl rfl) ?_
  refine ax_j (ax_iload_n hV dX10_lay_14 rfl) ?_
  refine ax_jb (ax_iald hV dX10_lay_15) (fun v15 => ?_)
  refine ax_jif (ax_if_ne hV dX10_lay_16) ?_ ?_
  · refine ax_j (ax_iload_n hV dX10_lay_19 rfl) ?_
    refine ax_j (ax_i2b hV dX10_lay_20) ?_
    refine ax_j (ax_goto hV dX10_lay_21) ?_
    refine ax_jb (ax_iast hV dX10_lay_40) (fun s40 => ?_)
    exact ax_jl (fun h => ax_vr hV rfl dX10_lay_41 (hP s40 h))
  · refine ax_j (ax_aload_n hV dX10_lay_24 rfl) ?_
    refine ax_j (ax_gfr hV lf_X10_82 dX10_lay_25 rfl rfl) ?_
    refine ax_j (ax_iload_n hV dX10_lay_28 rfl) ?_
    refine ax_jb (ax_iald hV dX10_lay_29) (fun v29 => ?_)
    refine ax_j (ax_iconst hV (1 : Int32) dX10_lay_30 (by decide)) ?_
    refine ax_jif (ax_icmp_ne hV dX10_lay_31) ?_ ?_
    · refine ax_j (ax_iload_n hV dX10_lay_34 rfl) ?_
      refine ax_j (ax_i2s hV dX10_lay_35) ?_
      refine ax_j (ax_goto hV dX10_lay_36) ?_
      refine ax_jb (ax_iast hV dX10_lay_40) (fun s40 => ?_)
      exact ax_jl (fun h => ax_vr hV rfl dX10_lay_41 (hP s40 h))
    · refine ax_j (ax_iload_n hV dX10_lay_39 rfl) ?_
      refine ax_jb (ax_iast hV dX10_lay_40) (fun s40 => ?_)
      exact ax_jl (fun h => ax_vr hV rfl dX10_lay_41 (hP s40 h))
theorem lk_X10_303 : ax_lkV RX10 303 mu_X10_lay RX10 3 := ax_lkV_of (ax_m6 143 rfl rfl) (ax_m6 145 rfl rfl) (ax_mp5 9 rfl rfl rfl) (ax_m1 10 rfl rfl) lc_X10_lay rfl ⟨by decide +kernel, by decide +kernel, by decide +kernel⟩
def mu_X10_put : ax_Mu := (yX10_put, cX10_put, 6, some .int, 2, 45)
theorem lc_X10_put : Cond.code mu_X10_put.1 mu_X10_put.2.1 mu_X10_put.2.2.1 mu_X10_put.2.2.2.1 ∈ ax_tb := (ax_m6 138 rfl rfl)
noncomputable def f_X10_put (p1 : Int32) (p2 : Int32) (p3 : Int32) (p4 : Int32) (s : ax_S) : Option (Int32 × ax_S) := (f_X10_isSheet p1).bind (fun q1 => (if q1 = 0 then some (((-2 : Int32), s)) else (f_X10_in p2 (0 : Int32) (2 : Int32)).bind (fun q10 => (if q10 = 0 then some (((-2 : Int32), s)) else (f_X10_lacks p1 p2 p3 s).bind (fun q23 => (if q23 ≤ 0 then (f_X10_lay p1 p3 p4 s).bind (fun q45 => some (((1 : Int32), q45))) else (f_X10_meets q23 s).bind (fun q36 => some ((q36.1, q36.2)))))))))
theorem T_X10_put (p1 : Int32) (p2 : Int32) (p3 : Int32) (p4 : Int32) (s : ax_S) (r : Int32 × ax_S) (h : f_X10_put p1 p2 p3 p4 s = some r) : ax_M cx_R mu_X10_put (fun ad => [.ref (ad 0), .int p1, .int p2, .int p3, .int p4]) s (some (.int r.1)) r.2 := by
  refine ax_enter (by decide +kernel) 1 (fun ad => [some (.ref (ad 0)), some (.int p1), some (.int p2), some (.int p3), some (.int p4), none]) (fun ad => rfl) (fun ad => Nat.le_of_ble_eq_true rfl) (fun X hV ho => ?_)
  refine ax_go (fun r : Int32 × ax_S => (some (Value.int r.1), r.2)) (fun P hP => ?_) h ho
  unfold f_X10_put
  refine ax_j (ax_iload_n hV dX10_put_0 rfl) ?_
  refine ax_jb (fun v ho => ax_cSi hV lk_X10_140 rfl dX10_put_1 [.int p1] [] (fun ad => [.int p1]) rfl rfl rfl rfl v s (T_X10_isSheet p1 s v ho)) (fun q1 => ?_)
  refine ax_jif (ax_if_eq hV dX10_put_4) ?_ ?_
  · refine ax_j (ax_bipush hV (-2 : Int32) dX10_put_16 (by decide)) ?_
    exact ax_jl (fun h => ax_ir hV rfl dX10_put_18 (hP ((-2 : Int32), s) h))
  · refine ax_j (ax_iload_n hV dX10_put_7 rfl) ?_
    refine ax_j (ax_iconst hV (0 : Int32) dX10_put_8 (by decide)) ?_
    refine ax_j (ax_iconst hV (2 : Int32) dX10_put_9 (by decide)) ?_
    refine ax_jb (fun v ho => ax_cSi hV lk_X10_97 rfl dX10_put_10 [.int p2, .int (0 : Int32), .int (2 : Int32)] [] (fun ad => [.int p2, .int (0 : Int32), .int (2 : Int32)]) rfl rfl rfl rfl v s (T_X10_in p2 (0 : Int32) (2 : Int32) s v ho)) (fun q10 => ?_)
    refine ax_jif (ax_if_ne hV dX10_put_13) ?_ ?_
    · refine ax_j (ax_bipush hV (-2 : Int32) dX10_put_16 (by decide)) ?_
      exact ax_jl (fun h => ax_ir hV rfl dX10_put_18 (hP ((-2 : Int32), s) h))
    · refine ax_j (ax_aload_n hV dX10_put_19 rfl) ?_
      refine ax_j (ax_iload_n hV dX10_put_20 rfl) ?_
      refine ax_j (ax_iload_n hV dX10_put_21 rfl) ?_
      refine ax_j (ax_iload_n hV dX10_put_22 rfl) ?_
      refine ax_jb (fun v ho => ax_cVi hV lk_X10_300 rfl dX10_put_23 rfl rfl [.int p1, .int p2, .int p3] [] (fun ad => [.ref (ad 0), .int p1, .int p2, .int p3]) rfl rfl rfl rfl v s (T_X10_lacks p1 p2 p3 s v ho)) (fun q23 => ?_)
      refine ax_j (ax_istore hV [some (.ref (ax_ad (cx_R, X) 0)), some (.int p1), some (.int p2), some (.int p3), some (.int p4), some (.int q23)] dX10_put_26 rfl rfl) ?_
      refine ax_j (ax_iload hV dX10_put_28 rfl) ?_
      refine ax_jif (ax_if_le hV dX10_put_30) ?_ ?_
      · refine ax_j (ax_aload_n hV dX10_put_40 rfl) ?_
        refine ax_j (ax_iload_n hV dX10_put_41 rfl) ?_
        refine ax_j (ax_iload_n hV dX10_put_42 rfl) ?_
        refine ax_j (ax_iload hV dX10_put_43 rfl) ?_
        refine ax_jb (fun v ho => ax_cVv hV lk_X10_303 rfl dX10_put_45 rfl rfl [.int p1, .int p3, .int p4] [] (fun ad => [.ref (ad 0), .int p1, .int p3, .int p4]) rfl rfl rfl rfl v (T_X10_lay p1 p3 p4 s v ho)) (fun q45 => ?_)
        refine ax_j (ax_iconst hV (1 : Int32) dX10_put_48 (by decide)) ?_
        exact ax_jl (fun h => ax_ir hV rfl dX10_put_49 (hP ((1 : Int32), q45) h))
      · refine ax_j (ax_aload_n hV dX10_put_33 rfl) ?_
        refine ax_j (ax_iload hV dX10_put_34 rfl) ?_
        refine ax_jb (fun v ho => ax_cVi hV lk_X10_143 rfl dX10_put_36 rfl rfl [.int q23] [] (fun ad => [.ref (ad 0), .int q23]) rfl rfl rfl rfl v.1 v.2 (T_X10_meets q23 s v ho)) (fun q36 => ?_)
        exact ax_jl (fun h => ax_ir hV rfl dX10_put_39 (hP (q36.1, q36.2) h))
def mu_X10_get : ax_Mu := (yX10_get, cX10_get, 5, some .int, 2, 45)
theorem lc_X10_get : Cond.code mu_X10_get.1 mu_X10_get.2.1 mu_X10_get.2.2.1 mu_X10_get.2.2.2.1 ∈ ax_tb := (ax_m6 150 rfl rfl)
noncomputable def f_X10_get (p1 : Int32) (p2 : Int32) (p3 : Int32) (s : ax_S) : Option (Int32 × ax_S) := (f_X10_isSheet p1).bind (fun q1 => (if q1 = 0 then some (((-2147483648 : Int32), s)) else (f_X10_in p2 (0 : Int32) (2 : Int32)).bind (fun q10 => (if q10 = 0 then some (((-2147483648 : Int32), s)) else (f_X10_lacks p1 p2 p3 s).bind (fun q24 => (if q24 ≤ 0 then (ax_ai cx_R s 25 (((40 : Int32) * p1) + p3)).bind (fun v54 => some ((v54, s))) else some (((-2147483648 : Int32), (ax_ui s 0 41 q24)))))))))
theorem T_X10_get (p1 : Int32) (p2 : Int32) (p3 : Int32) (s : ax_S) (r : Int32 × ax_S) (h : f_X10_get p1 p2 p3 s = some r) : ax_M cx_R mu_X10_get (fun ad => [.ref (ad 0), .int p1, .int p2, .int p3]) s (some (.int r.1)) r.2 := by
  refine ax_enter (by decide +kernel) 1 (fun ad => [some (.ref (ad 0)), some (.int p1), some (.int p2), some (.int p3), none]) (fun ad => rfl) (fun ad => Nat.le_of_ble_eq_true rfl) (fun X hV ho => ?_)
  refine ax_go (fun r : Int32 × ax_S => (some (Value.int r.1), r.2)) (fun P hP => ?_) h ho
  unfold f_X10_get
  refine ax_j (ax_iload_n hV dX10_get_0 rfl) ?_
  refine ax_jb (fun v ho => ax_cSi hV lk_X10_140 rfl dX10_get_1 [.int p1] [] (fun ad => [.int p1]) rfl rfl rfl rfl v s (T_X10_isSheet p1 s v ho)) (fun q1 => ?_)
  refine ax_jif (ax_if_eq hV dX10_get_4) ?_ ?_
  · refine ax_j (ax_ldcw hV kc_X10_306 dX10_get_16) ?_
    exact ax_jl (fun h => ax_ir hV rfl dX10_get_19 (hP ((-2147483648 : Int32), s) h))
  · refine ax_j (ax_iload_n hV dX10_get_7 rfl) ?_
    refine ax_j (ax_iconst hV (0 : Int32) dX10_get_8 (by decide)) ?_
    refine ax_j (ax_iconst hV (2 : Int32) dX10_get_9 (by decide)) ?_
    refine ax_jb (fun v ho => ax_cSi hV lk_X10_97 rfl dX10_get_10 [.int p2, .int (0 : Int32), .int (2 : Int32)] [] (fun ad => [.int p2, .int (0 : Int32), .int (2 : Int32)]) rfl rfl rfl rfl v s (T_X10_in p2 (0 : Int32) (2 : Int32) s v ho)) (fun q10 => ?_)
    refine ax_jif (ax_if_ne hV dX10_get_13) ?_ ?_
    · refine ax_j (ax_ldcw hV kc_X10_306 dX10_get_16) ?_
      exact ax_jl (fun h => ax_ir hV rfl dX10_get_19 (hP ((-2147483648 : Int32), s) h))
    · refine ax_j (ax_aload_n hV dX10_get_20 rfl) ?_
      refine ax_j (ax_iload_n hV dX10_get_21 rfl) ?_
      refine ax_j (ax_iload_n hV dX10_get_22 rfl) ?_
      refine ax_j (ax_iload_n hV dX10_get_23 rfl) ?_
      refine ax_jb (fun v ho => ax_cVi hV lk_X10_300 rfl dX10_get_24 rfl rfl [.int p1, .int p2, .int p3] [] (fun ad => [.ref (ad 0), .int p1, .int p2, .int p3]) rfl rfl rfl rfl v s (T_X10_lacks p1 p2 p3 s v ho)) (fun q24 => ?_)
      refine ax_j (ax_istore hV [some (.ref (ax_ad (cx_R, X) 0)), some (.int p1), some (.int p2), some (.int p3), some (.int q24)] dX10_get_27 rfl rfl) ?_
      refine ax_j (ax_iload hV dX10_get_29 rfl) ?_
      refine ax_jif (ax_if_le hV dX10_get_31) ?_ ?_
      · refine ax_j (ax_aload_n hV dX10_get_44 rfl) ?_
        refine ax_j (ax_gfr hV lf_X10_88 dX10_get_45 rfl rfl) ?_
        refine ax_j (ax_bipush hV (40 : Int32) dX10_get_48 (by decide)) ?_
        refine ax_j (ax_iload_n hV dX10_get_50 rfl) ?_
        refine ax_j (ax_imul hV dX10_get_51) ?_
        refine ax_j (ax_iload_n hV dX10_get_52 rfl) ?_
        refine ax_j (ax_iadd hV dX10_get_53) ?_
        refine ax_jb (ax_iald hV dX10_get_54) (fun v54 => ?_)
        exact ax_jl (fun h => ax_ir hV rfl dX10_get_55 (hP (v54, s) h))
      · refine ax_j (ax_aload_n hV dX10_get_34 rfl) ?_
        refine ax_j (ax_iload hV dX10_get_35 rfl) ?_
        refine ax_j (ax_pfi hV lp_X10_297 dX10_get_37 rfl rfl) ?_
        refine ax_j (ax_ldcw hV kc_X10_306 dX10_get_40) ?_
        exact ax_jl (fun h => ax_ir hV rfl dX10_get_43 (hP ((-2147483648 : Int32), (ax_ui s 0 41 q24)) h))
def mu_X10_copy : ax_Mu := (yX10_copy, cX10_copy, 7, some .int, 2, 42)
theorem lc_X10_copy : Cond.code mu_X10_copy.1 mu_X10_copy.2.1 mu_X10_copy.2.2.1 mu_X10_copy.2.2.2.1 ∈ ax_tb := (ax_m6 155 rfl rfl)
noncomputable def b_X10_copy_120 (l1 : Int32) (l2 : Int32) (l3 : Int32) (l4 : Int32) (l5 : Int32) (a : Int32 × ax_S) : Option ((Int32 × ax_S) ⊕ (ax_S)) := (if l5 ≤ a.1 then some (.inr a.2) else (ax_ai cx_R a.2 25 ((((40 : Int32) * l1) + l2) + a.1)).bind (fun v146 => (ax_si cx_R a.2 26 a.1 v146).bind (fun s147 => some (.inl ((a.1 + 1), s147)))))
noncomputable def b_X10_copy_157 (l3 : Int32) (l4 : Int32) (l5 : Int32) (a : Int32 × ax_S) : Option ((Int32 × ax_S) ⊕ (ax_S)) := (if l5 ≤ a.1 then some (.inr a.2) else (ax_ai cx_R a.2 26 a.1).bind (fun v184 => (ax_si cx_R a.2 25 ((((40 : Int32) * l3) + l4) + a.1) v184).bind (fun s185 => some (.inl ((a.1 + 1), s185)))))
noncomputable def f_X10_copy (p1 : Int32) (p2 : Int32) (p3 : Int32) (p4 : Int32) (p5 : Int32) (s : ax_S) : Option (Int32 × ax_S) := (f_X10_isSheet p1).bind (fun q1 => (if q1 = 0 then some (((-2 : Int32), s)) else (f_X10_isSheet p3).bind (fun q8 => (if q8 = 0 then some (((-2 : Int32), s)) else (ax_ab cx_R s 22 p1).bind (fun v22 => (if v22 = 0 then (f_X10_meets (1 : Int32) s).bind (fun q37 => some ((q37.1, q37.2))) else (ax_ab cx_R s 22 p3).bind (fun v31 => (if v31 = 0 then (f_X10_meets (1 : Int32) s).bind (fun q37 => some ((q37.1, q37.2))) else (ax_ai cx_R s 23 p1).bind (fun v46 => (ax_ai cx_R s 23 p3).bind (fun v52 => (if v46 = v52 then (if p2 < 0 then (f_X10_meets (2 : Int32) s).bind (fun q113 => some ((q113.1, q113.2))) else (if p4 < 0 then (f_X10_meets (2 : Int32) s).bind (fun q113 => some ((q113.1, q113.2))) else (if p5 < 0 then (f_X10_meets (2 : Int32) s).bind (fun q113 => some ((q113.1, q113.2))) else (ax_ai cx_R s 24 p1).bind (fun v87 => (if 0 < (lg_cmp (p2.toInt64 + p5.toInt64) v87.toInt64) then (f_X10_meets (2 : Int32) s).bind (fun q113 => some ((q113.1, q113.2))) else (ax_ai cx_R s 24 p3).bind (fun v105 => (if (lg_cmp (p4.toInt64 + p5.toInt64) v105.toInt64) ≤ 0 then (ax_lp (b_X10_copy_120 p1 p2 p3 p4 p5) ((0 : Int32), s)).bind (fun e120 => (ax_lp (b_X10_copy_157 p3 p4 p5) ((0 : Int32), e120)).bind (fun e157 => some (((1 : Int32), e157)))) else (f_X10_meets (2 : Int32) s).bind (fun q113 => some ((q113.1, q113.2)))))))))) else (f_X10_meets (4 : Int32) s).bind (fun q58 => some ((q58.1, q58.2))))))))))))))
theorem B_X10_copy_120 (X : ax_G × ax_K × Option Value × ax_S) (hV : ax_ok (cx_R, X) mu_X10_copy) (l1 : Int32) (l2 : Int32) (l3 : Int32) (l4 : Int32) (l5 : Int32) (P : ((Int32 × ax_S) ⊕ (ax_S)) → Prop) (hI : ∀ a : Int32 × ax_S, P (.inl a) → ax_At (cx_R, X) 120 [some (.ref (ax_ad (cx_R, X) 0)), some (.int l1), some (.int l2), some (.int l3), some (.int l4), some (.int l5), some (.int a.1)] [] a.2) (hO : ∀ e : ax_S, P (.inr e) → ax_At (cx_R, X) 154 [some (.ref (ax_ad (cx_R, X) 0)), none, none, some (.int l3), some (.int l4), some (.int l5), none] [] e) (a : Int32 × ax_S) : ax_J (cx_R, X) P 120 [some (.ref (ax_ad (cx_R, X) 0)), some (.int l1), some (.int l2), some (.int l3), some (.int l4), some (.int l5), some (.int a.1)] [] a.2 (b_X10_copy_120 l1 l2 l3 l4 l5 a) := by
  unfold b_X10_copy_120
  refine ax_j (ax_iload hV dX10_copy_120 rfl) ?_
  refine ax_j (ax_iload hV dX10_copy_122 rfl) ?_
  refine ax_jif (ax_icmp_ge hV dX10_copy_124) ?_ ?_
  · refine ax_jf (lv' := [some (.ref (ax_ad (cx_R, X) 0)), none, none, some (.int l3), some (.int l4), some (.int l5), none]) [true, false, false, true, true, true, false] rfl ?_
    exact ax_jl (fun h => hO a.2 h)
  · refine ax_j (ax_aload_n hV dX10_copy_127 rfl) ?_
    refine ax_j (ax_gfr hV lf_X10_91 dX10_copy_128 rfl rfl) ?_
    refine ax_j (ax_iload hV dX10_copy_131 rfl) ?_
    refine ax_j (ax_aload_n hV dX10_copy_133 rfl) ?_
    refine ax_j (ax_gfr hV lf_X10_88 dX10_copy_134 rfl rfl) ?_
    refine ax_j (ax_bipush hV (40 : Int32) dX10_copy_137 (by decide)) ?_
    refine ax_j (ax_iload_n hV dX10_copy_139 rfl) ?_
    refine ax_j (ax_imul hV dX10_copy_140) ?_
    refine ax_j (ax_iload_n hV dX10_copy_141 rfl) ?_
    refine ax_j (ax_iadd hV dX10_copy_142) ?_
    refine ax_j (ax_iload hV dX10_copy_143 rfl) ?_
    refine ax_j (ax_iadd hV dX10_copy_145) ?_
    refine ax_jb (ax_iald hV dX10_copy_146) (fun v146 => ?_)
    refine ax_jb (ax_iast hV dX10_copy_147) (fun s147 => ?_)
    refine ax_j (ax_iinc hV (a.1 + 1) [some (.ref (ax_ad (cx_R, X) 0)), some (.int l1), some (.int l2), some (.int l3), some (.int l4), some (.int l5), some (.int (a.1 + 1))] dX10_copy_148 rfl rfl rfl rfl) ?_
    refine ax_j (ax_goto hV dX10_copy_151) ?_
    exact ax_jl (fun h => hI ((a.1 + 1), s147) h)
theorem B_X10_copy_157 (X : ax_G × ax_K × Option Value × ax_S) (hV : ax_ok (cx_R, X) mu_X10_copy) (l3 : Int32) (l4 : Int32) (l5 : Int32) (P : ((Int32 × ax_S) ⊕ (ax_S)) → Prop) (hI : ∀ a : Int32 × ax_S, P (.inl a) → ax_At (cx_R, X) 157 [some (.ref (ax_ad (cx_R, X) 0)), none, none, some (.int l3), some (.int l4), some (.int l5), some (.int a.1)] [] a.2) (hO : ∀ e : ax_S, P (.inr e) → ax_At (cx_R, X) 192 [none, none, none, none, none, none, none] [] e) (a : Int32 × ax_S) : ax_J (cx_R, X) P 157 [some (.ref (ax_ad (cx_R, X) 0)), none, none, some (.int l3), some (.int l4), some (.int l5), some (.int a.1)] [] a.2 (b_X10_copy_157 l3 l4 l5 a) := by
  unfold b_X10_copy_157
  refine ax_j (ax_iload hV dX10_copy_157 rfl) ?_
  refine ax_j (ax_iload hV dX10_copy_159 rfl) ?_
  refine ax_jif (ax_icmp_ge hV dX10_copy_161) ?_ ?_
  · refine ax_jf (lv' := [none, none, none, none, none, none, none]) [false, false, false, false, false, false, false] rfl ?_
    exact ax_jl (fun h => hO a.2 h)
  · refine ax_j (ax_aload_n hV dX10_copy_164 rfl) ?_
    refine ax_j (ax_gfr hV lf_X10_88 dX10_copy_165 rfl rfl) ?_
    refine ax_j (ax_bipush hV (40 : Int32) dX10_copy_168 (by decide)) ?_
    refine ax_j (ax_iload_n hV dX10_copy_170 rfl) ?_
    refine ax_j (ax_imul hV dX10_copy_171) ?_
    refine ax_j (ax_iload hV dX10_copy_172 rfl) ?_
    refine ax_j (ax_iadd hV dX10_copy_174) ?_
    refine ax_j (ax_iload hV dX10_copy_175 rfl) ?_
    refine ax_j (ax_iadd hV dX10_copy_177) ?_
    refine ax_j (ax_aload_n hV dX10_copy_178 rfl) ?_
    refine ax_j (ax_gfr hV lf_X10_91 dX10_copy_179 rfl rfl) ?_
    refine ax_j (ax_iload hV dX10_copy_182 rfl) ?_
    refine ax_jb (ax_iald hV dX10_copy_184) (fun v184 => ?_)
    refine ax_jb (ax_iast hV dX10_copy_185) (fun s185 => ?_)
    refine ax_j (ax_iinc hV (a.1 + 1) [some (.ref (ax_ad (cx_R, X) 0)), none, none, some (.int l3), some (.int l4), some (.int l5), some (.int (a.1 + 1))] dX10_copy_186 rfl rfl rfl rfl) ?_
    refine ax_j (ax_goto hV dX10_copy_189) ?_
    exact ax_jl (fun h => hI ((a.1 + 1), s185) h)
theorem T_X10_copy (p1 : Int32) (p2 : Int32) (p3 : Int32) (p4 : Int32) (p5 : Int32) (s : ax_S) (r : Int32 × ax_S) (h : f_X10_copy p1 p2 p3 p4 p5 s = some r) : ax_M cx_R mu_X10_copy (fun ad => [.ref (ad 0), .int p1, .int p2, .int p3, .int p4, .int p5]) s (some (.int r.1)) r.2 := by
  refine ax_enter (by decide +kernel) 1 (fun ad => [some (.ref (ad 0)), some (.int p1), some (.int p2), some (.int p3), some (.int p4), some (.int p5), none]) (fun ad => rfl) (fun ad => Nat.le_of_ble_eq_true rfl) (fun X hV ho => ?_)
  refine ax_go (fun r : Int32 × ax_S => (some (Value.int r.1), r.2)) (fun P hP => ?_) h ho
  unfold f_X10_copy
  refine ax_j (ax_iload_n hV dX10_copy_0 rfl) ?_
  refine ax_jb (fun v ho => ax_cSi hV lk_X10_140 rfl dX10_copy_1 [.int p1] [] (fun ad => [.int p1]) rfl rfl rfl rfl v s (T_X10_isSheet p1 s v ho)) (fun q1 => ?_)
  refine ax_jif (ax_if_eq hV dX10_copy_4) ?_ ?_
  · refine ax_j (ax_bipush hV (-2 : Int32) dX10_copy_14 (by decide)) ?_
    exact ax_jl (fun h => ax_ir hV rfl dX10_copy_16 (hP ((-2 : Int32), s) h))
  · refine ax_j (ax_iload_n hV dX10_copy_7 rfl) ?_
    refine ax_jb (fun v ho => ax_cSi hV lk_X10_140 rfl dX10_copy_8 [.int p3] [] (fun ad => [.int p3]) rfl rfl rfl rfl v s (T_X10_isSheet p3 s v ho)) (fun q8 => ?_)
    refine ax_jif (ax_if_ne hV dX10_copy_11) ?_ ?_
    · refine ax_j (ax_bipush hV (-2 : Int32) dX10_copy_14 (by decide)) ?_
      exact ax_jl (fun h => ax_ir hV rfl dX10_copy_16 (hP ((-2 : Int32), s) h))
    · refine ax_j (ax_aload_n hV dX10_copy_17 rfl) ?_
      refine ax_j (ax_gfr hV lf_X10_78 dX10_copy_18 rfl rfl) ?_
      refine ax_j (ax_iload_n hV dX10_copy_21 rfl) ?_
      refine ax_jb (ax_bald hV dX10_copy_22) (fun v22 => ?_)
      refine ax_jif (ax_if_eq hV dX10_copy_23) ?_ ?_
      · refine ax_j (ax_aload_n hV dX10_copy_35 rfl) ?_
        refine ax_j (ax_iconst hV (1 : Int32) dX10_copy_36 (by decide)) ?_
        refine ax_jb (fun v ho => ax_cVi hV lk_X10_143 rfl dX10_copy_37 rfl rfl [.int (1 : Int32)] [] (fun ad => [.ref (ad 0), .int (1 : Int32)]) rfl rfl rfl rfl v.1 v.2 (T_X10_meets (1 : Int32) s v ho)) (fun q37 => ?_)
        exact ax_jl (fun h => ax_ir hV rfl dX10_copy_40 (hP (q37.1, q37.2) h))
      · refine ax_j (ax_aload_n hV dX10_copy_26 rfl) ?_
        refine ax_j (ax_gfr hV lf_X10_78 dX10_copy_27 rfl rfl) ?_
        refine ax_j (ax_iload_n hV dX10_copy_30 rfl) ?_
        refine ax_jb (ax_bald hV dX10_copy_31) (fun v31 => ?_)
        refine ax_jif (ax_if_ne hV dX10_copy_32) ?_ ?_
        · refine ax_j (ax_aload_n hV dX10_copy_35 rfl) ?_
          refine ax_j (ax_iconst hV (1 : Int32) dX10_copy_36 (by decide)) ?_
          refine ax_jb (fun v ho => ax_cVi hV lk_X10_143 rfl dX10_copy_37 rfl rfl [.int (1 : Int32)] [] (fun ad => [.ref (ad 0), .int (1 : Int32)]) rfl rfl rfl rfl v.1 v.2 (T_X10_meets (1 : Int32) s v ho)) (fun q37 => ?_)
          exact ax_jl (fun h => ax_ir hV rfl dX10_copy_40 (hP (q37.1, q37.2) h))
        · refine ax_j (ax_aload_n hV dX10_copy_41 rfl) ?_
          refine ax_j (ax_gfr hV lf_X10_82 dX10_copy_42 rfl rfl) ?_
          refine ax_j (ax_iload_n hV dX10_copy_45 rfl) ?_
          refine ax_jb (ax_iald hV dX10_copy_46) (fun v46 => ?_)
          refine ax_j (ax_aload_n hV dX10_copy_47 rfl) ?_
          refine ax_j (ax_gfr hV lf_X10_82 dX10_copy_48 rfl rfl) ?_
          refine ax_j (ax_iload_n hV dX10_copy_51 rfl) ?_
          refine ax_jb (ax_iald hV dX10_copy_52) (fun v52 => ?_)
          refine ax_jif (ax_icmp_eq hV dX10_copy_53) ?_ ?_
          · refine ax_j (ax_iload_n hV dX10_copy_62 rfl) ?_
            refine ax_jif (ax_if_lt hV dX10_copy_63) ?_ ?_
            · refine ax_j (ax_aload_n hV dX10_copy_111 rfl) ?_
              refine ax_j (ax_iconst hV (2 : Int32) dX10_copy_112 (by decide)) ?_
              refine ax_jb (fun v ho => ax_cVi hV lk_X10_143 rfl dX10_copy_113 rfl rfl [.int (2 : Int32)] [] (fun ad => [.ref (ad 0), .int (2 : Int32)]) rfl rfl rfl rfl v.1 v.2 (T_X10_meets (2 : Int32) s v ho)) (fun q113 => ?_)
              exact ax_jl (fun h => ax_ir hV rfl dX10_copy_116 (hP (q113.1, q113.2) h))
            · refine ax_j (ax_iload hV dX10_copy_66 rfl) ?_
              refine ax_jif (ax_if_lt hV dX10_copy_68) ?_ ?_
              · refine ax_j (ax_aload_n hV dX10_copy_111 rfl) ?_
                refine ax_j (ax_iconst hV (2 : Int32) dX10_copy_112 (by decide)) ?_
                refine ax_jb (fun v ho => ax_cVi hV lk_X10_143 rfl dX10_copy_113 rfl rfl [.int (2 : Int32)] [] (fun ad => [.ref (ad 0), .int (2 : Int32)]) rfl rfl rfl rfl v.1 v.2 (T_X10_meets (2 : Int32) s v ho)) (fun q113 => ?_)
                exact ax_jl (fun h => ax_ir hV rfl dX10_copy_116 (hP (q113.1, q113.2) h))
              · refine ax_j (ax_iload hV dX10_copy_71 rfl) ?_
                refine ax_jif (ax_if_lt hV dX10_copy_73) ?_ ?_
                · refine ax_j (ax_aload_n hV dX10_copy_111 rfl) ?_
                  refine ax_j (ax_iconst hV (2 : Int32) dX10_copy_112 (by decide)) ?_
                  refine ax_jb (fun v ho => ax_cVi hV lk_X10_143 rfl dX10_copy_113 rfl rfl [.int (2 : Int32)] [] (fun ad => [.ref (ad 0), .int (2 : Int32)]) rfl rfl rfl rfl v.1 v.2 (T_X10_meets (2 : Int32) s v ho)) (fun q113 => ?_)
                  exact ax_jl (fun h => ax_ir hV rfl dX10_copy_116 (hP (q113.1, q113.2) h))
                · refine ax_j (ax_iload_n hV dX10_copy_76 rfl) ?_
                  refine ax_j (ax_i2l hV dX10_copy_77) ?_
                  refine ax_j (ax_iload hV dX10_copy_78 rfl) ?_
                  refine ax_j (ax_i2l hV dX10_copy_80) ?_
                  refine ax_j (ax_ladd hV dX10_copy_81) ?_
                  refine ax_j (ax_aload_n hV dX10_copy_82 rfl) ?_
                  refine ax_j (ax_gfr hV lf_X10_85 dX10_copy_83 rfl rfl) ?_
                  refine ax_j (ax_iload_n hV dX10_copy_86 rfl) ?_
                  refine ax_jb (ax_iald hV dX10_copy_87) (fun v87 => ?_)
                  refine ax_j (ax_i2l hV dX10_copy_88) ?_
                  refine ax_j (ax_lcmp hV dX10_copy_89) ?_
                  refine ax_jif (ax_if_gt hV dX10_copy_90) ?_ ?_
                  · refine ax_j (ax_aload_n hV dX10_copy_111 rfl) ?_
                    refine ax_j (ax_iconst hV (2 : Int32) dX10_copy_112 (by decide)) ?_
                    refine ax_jb (fun v ho => ax_cVi hV lk_X10_143 rfl dX10_copy_113 rfl rfl [.int (2 : Int32)] [] (fun ad => [.ref (ad 0), .int (2 : Int32)]) rfl rfl rfl rfl v.1 v.2 (T_X10_meets (2 : Int32) s v ho)) (fun q113 => ?_)
                    exact ax_jl (fun h => ax_ir hV rfl dX10_copy_116 (hP (q113.1, q113.2) h))
                  · refine ax_j (ax_iload hV dX10_copy_93 rfl) ?_
                    refine ax_j (ax_i2l hV dX10_copy_95) ?_
                    refine ax_j (ax_iload hV dX10_copy_96 rfl) ?_
                    refine ax_j (ax_i2l hV dX10_copy_98) ?_
                    refine ax_j (ax_ladd hV dX10_copy_99) ?_
                    refine ax_j (ax_aload_n hV dX10_copy_100 rfl) ?_
                    refine ax_j (ax_gfr hV lf_X10_85 dX10_copy_101 rfl rfl) ?_
                    refine ax_j (ax_iload_n hV dX10_copy_104 rfl) ?_
                    refine ax_jb (ax_iald hV dX10_copy_105) (fun v105 => ?_)
                    refine ax_j (ax_i2l hV dX10_copy_106) ?_
                    refine ax_j (ax_lcmp hV dX10_copy_107) ?_
                    refine ax_jif (ax_if_le hV dX10_copy_108) ?_ ?_
                    · refine ax_j (ax_iconst hV (0 : Int32) dX10_copy_117 (by decide)) ?_
                      refine ax_j (ax_istore hV [some (.ref (ax_ad (cx_R, X) 0)), some (.int p1), some (.int p2), some (.int p3), some (.int p4), some (.int p5), some (.int (0 : Int32))] dX10_copy_118 rfl rfl) ?_
                      refine ax_jlp ((0 : Int32), s) (fun x120 : Int32 × ax_S => [some (.ref (ax_ad (cx_R, X) 0)), some (.int p1), some (.int p2), some (.int p3), some (.int p4), some (.int p5), some (.int x120.1)]) (fun x120 : Int32 × ax_S => x120.2) (fun y120 : ax_S => [some (.ref (ax_ad (cx_R, X) 0)), none, none, some (.int p3), some (.int p4), some (.int p5), none]) (fun y120 : ax_S => y120) (fun P' h1 h2 w => B_X10_copy_120 X hV p1 p2 p3 p4 p5 P' h1 h2 w) (fun e120 => ?_)
                      refine ax_j (ax_iconst hV (0 : Int32) dX10_copy_154 (by decide)) ?_
                      refine ax_j (ax_istore hV [some (.ref (ax_ad (cx_R, X) 0)), none, none, some (.int p3), some (.int p4), some (.int p5), some (.int (0 : Int32))] dX10_copy_155 rfl rfl) ?_
                      refine ax_jlp ((0 : Int32), e120) (fun x157 : Int32 × ax_S => [some (.ref (ax_ad (cx_R, X) 0)), none, none, some (.int p3), some (.int p4), some (.int p5), some (.int x157.1)]) (fun x157 : Int32 × ax_S => x157.2) (fun y157 : ax_S => [none, none, none, none, none, none, none]) (fun y157 : ax_S => y157) (fun P' h1 h2 w => B_X10_copy_157 X hV p3 p4 p5 P' h1 h2 w) (fun e157 => ?_)
                      refine ax_j (ax_iconst hV (1 : Int32) dX10_copy_192 (by decide)) ?_
                      exact ax_jl (fun h => ax_ir hV rfl dX10_copy_193 (hP ((1 : Int32), e157) h))
                    · refine ax_j (ax_aload_n hV dX10_copy_111 rfl) ?_
                      refine ax_j (ax_iconst hV (2 : Int32) dX10_copy_112 (by decide)) ?_
                      refine ax_jb (fun v ho => ax_cVi hV lk_X10_143 rfl dX10_copy_113 rfl rfl [.int (2 : Int32)] [] (fun ad => [.ref (ad 0), .int (2 : Int32)]) rfl rfl rfl rfl v.1 v.2 (T_X10_meets (2 : Int32) s v ho)) (fun q113 => ?_)
                      exact ax_jl (fun h => ax_ir hV rfl dX10_copy_116 (hP (q113.1, q113.2) h))
          · refine ax_j (ax_aload_n hV dX10_copy_56 rfl) ?_
            refine ax_j (ax_iconst hV (4 : Int32) dX10_copy_57 (by decide)) ?_
            refine ax_jb (fun v ho => ax_cVi hV lk_X10_143 rfl dX10_copy_58 rfl rfl [.int (4 : Int32)] [] (fun ad => [.ref (ad 0), .int (4 : Int32)]) rfl rfl rfl rfl v.1 v.2 (T_X10_meets (4 : Int32) s v ho)) (fun q58 => ?_)
            exact ax_jl (fun h => ax_ir hV rfl dX10_copy_61 (hP (q58.1, q58.2) h))
def mu_X10_write : ax_Mu := (yX10_write, cX10_write, 3, some .int, 4, 86)
theorem lc_X10_write : Cond.code mu_X10_write.1 mu_X10_write.2.1 mu_X10_write.2.2.1 mu_X10_write.2.2.2.1 ∈ ax_tb := (ax_m6 159 rfl rfl)
noncomputable def b_X10_write_37 (l1 : Int32) (a : Int32 × ax_S) : Option ((Int32 × ax_S) ⊕ (Int32 × ax_S)) := (if ((2 : Int32) * (a.2.1 0 1)) ≤ a.1 then some (.inr (a.1, a.2)) else (ax_ai cx_R a.2 24 l1).bind (fun v53 => (if v53 ≤ a.1 then some (.inr (a.1, a.2)) else (ax_idiv a.1 (2 : Int32)).bind (fun v63 => (ax_irem a.1 (2 : Int32)).bind (fun v66 => (f_X10_endOf v63 v66 a.2).bind (fun q67 => (f_X10_lay l1 a.1 q67 a.2).bind (fun q70 => some (.inl ((a.1 + 1), q70)))))))))
noncomputable def f_X10_write (p1 : Int32) (s : ax_S) : Option (Int32 × ax_S) := (f_X10_isSheet p1).bind (fun q1 => (if q1 = 0 then some (((-2 : Int32), s)) else (ax_ab cx_R s 22 p1).bind (fun v15 => (if v15 = 0 then (f_X10_meets (1 : Int32) s).bind (fun q21 => some ((q21.1, q21.2))) else (f_X10_canAll s).bind (fun q26 => (if q26.1 = 0 then some (((-3 : Int32), q26.2)) else (ax_lp (b_X10_write_37 p1) ((0 : Int32), q26.2)).bind (fun e37 => some ((e37.1, e37.2)))))))))
theorem B_X10_write_37 (X : ax_G × ax_K × Option Value × ax_S) (hV : ax_ok (cx_R, X) mu_X10_write) (l1 : Int32) (P : ((Int32 × ax_S) ⊕ (Int32 × ax_S)) → Prop) (hI : ∀ a : Int32 × ax_S, P (.inl a) → ax_At (cx_R, X) 37 [some (.ref (ax_ad (cx_R, X) 0)), some (.int l1), some (.int a.1)] [] a.2) (hO : ∀ e : Int32 × ax_S, P (.inr e) → ax_At (cx_R, X) 79 [none, none, some (.int e.1)] [] e.2) (a : Int32 × ax_S) : ax_J (cx_R, X) P 37 [some (.ref (ax_ad (cx_R, X) 0)), some (.int l1), some (.int a.1)] [] a.2 (b_X10_write_37 l1 a) := by
  unfold b_X10_write_37
  refine ax_j (ax_iload_n hV dX10_write_37 rfl) ?_
  refine ax_j (ax_iconst hV (2 : Int32) dX10_write_38 (by decide)) ?_
  refine ax_j (ax_aload_n hV dX10_write_39 rfl) ?_
  refine ax_j (ax_gfi hV lf_X10_94 dX10_write_40 rfl rfl) ?_
  refine ax_j (ax_imul hV dX10_write_43) ?_
  refine ax_jif (ax_icmp_ge hV dX10_write_44) ?_ ?_
  · refine ax_jf (lv' := [none, none, some (.int a.1)]) [false, false, true] rfl ?_
    exact ax_jl (fun h => hO (a.1, a.2) h)
  · refine ax_j (ax_iload_n hV dX10_write_47 rfl) ?_
    refine ax_j (ax_aload_n hV dX10_write_48 rfl) ?_
    refine ax_j (ax_gfr hV lf_X10_85 dX10_write_49 rfl rfl) ?_
    refine ax_j (ax_iload_n hV dX10_write_52 rfl) ?_
    refine ax_jb (ax_iald hV dX10_write_53) (fun v53 => ?_)
    refine ax_jif (ax_icmp_ge hV dX10_write_54) ?_ ?_
    · refine ax_jf (lv' := [none, none, some (.int a.1)]) [false, false, true] rfl ?_
      exact ax_jl (fun h => hO (a.1, a.2) h)
    · refine ax_j (ax_aload_n hV dX10_write_57 rfl) ?_
      refine ax_j (ax_iload_n hV dX10_write_58 rfl) ?_
      refine ax_j (ax_iload_n hV dX10_write_59 rfl) ?_
      refine ax_j (ax_aload_n hV dX10_write_60 rfl) ?_
      refine ax_j (ax_iload_n hV dX10_write_61 rfl) ?_
      refine ax_j (ax_iconst hV (2 : Int32) dX10_write_62 (by decide)) ?_
      refine ax_jb (ax_idiv_ hV dX10_write_63) (fun v63 => ?_)
      refine ax_j (ax_iload_n hV dX10_write_64 rfl) ?_
      refine ax_j (ax_iconst hV (2 : Int32) dX10_write_65 (by decide)) ?_
      refine ax_jb (ax_irem_ hV dX10_write_66) (fun v66 => ?_)
      refine ax_jb (fun v ho => ax_cVi hV lk_X10_177 rfl dX10_write_67 rfl rfl [.int v63, .int v66] [.int a.1, .int l1, .ref (ax_ad (cx_R, X) 0)] (fun ad => [.ref (ad 0), .int v63, .int v66]) rfl rfl rfl rfl v a.2 (T_X10_endOf v63 v66 a.2 v ho)) (fun q67 => ?_)
      refine ax_jb (fun v ho => ax_cVv hV lk_X10_303 rfl dX10_write_70 rfl rfl [.int l1, .int a.1, .int q67] [] (fun ad => [.ref (ad 0), .int l1, .int a.1, .int q67]) rfl rfl rfl rfl v (T_X10_lay l1 a.1 q67 a.2 v ho)) (fun q70 => ?_)
      refine ax_j (ax_iinc hV (a.1 + 1) [some (.ref (ax_ad (cx_R, X) 0)), some (.int l1), some (.int (a.1 + 1))] dX10_write_73 rfl rfl rfl rfl) ?_
      refine ax_j (ax_goto hV dX10_write_76) ?_
      exact ax_jl (fun h => hI ((a.1 + 1), q70) h)
theorem T_X10_write (p1 : Int32) (s : ax_S) (r : Int32 × ax_S) (h : f_X10_write p1 s = some r) : ax_M cx_R mu_X10_write (fun ad => [.ref (ad 0), .int p1]) s (some (.int r.1)) r.2 := by
  refine ax_enter (by decide +kernel) 1 (fun ad => [some (.ref (ad 0)), some (.int p1), none]) (fun ad => rfl) (fun ad => Nat.le_of_ble_eq_true rfl) (fun X hV ho => ?_)
  refine ax_go (fun r : Int32 × ax_S => (some (Value.int r.1), r.2)) (fun P hP => ?_) h ho
  unfold f_X10_write
  refine ax_j (ax_iload_n hV dX10_write_0 rfl) ?_
  refine ax_jb (fun v ho => ax_cSi hV lk_X10_140 rfl dX10_write_1 [.int p1] [] (fun ad => [.int p1]) rfl rfl rfl rfl v s (T_X10_isSheet p1 s v ho)) (fun q1 => ?_)
  refine ax_jif (ax_if_ne hV dX10_write_4) ?_ ?_
  · refine ax_j (ax_bipush hV (-2 : Int32) dX10_write_7 (by decide)) ?_
    exact ax_jl (fun h => ax_ir hV rfl dX10_write_9 (hP ((-2 : Int32), s) h))
  · refine ax_j (ax_aload_n hV dX10_write_10 rfl) ?_
    refine ax_j (ax_gfr hV lf_X10_78 dX10_write_11 rfl rfl) ?_
    refine ax_j (ax_iload_n hV dX10_write_14 rfl) ?_
    refine ax_jb (ax_bald hV dX10_write_15) (fun v15 => ?_)
    refine ax_jif (ax_if_ne hV dX10_write_16) ?_ ?_
    · refine ax_j (ax_aload_n hV dX10_write_19 rfl) ?_
      refine ax_j (ax_iconst hV (1 : Int32) dX10_write_20 (by decide)) ?_
      refine ax_jb (fun v ho => ax_cVi hV lk_X10_143 rfl dX10_write_21 rfl rfl [.int (1 : Int32)] [] (fun ad => [.ref (ad 0), .int (1 : Int32)]) rfl rfl rfl rfl v.1 v.2 (T_X10_meets (1 : Int32) s v ho)) (fun q21 => ?_)
      exact ax_jl (fun h => ax_ir hV rfl dX10_write_24 (hP (q21.1, q21.2) h))
    · refine ax_j (ax_aload_n hV dX10_write_25 rfl) ?_
      refine ax_jb (fun v ho => ax_cVi hV lk_X10_173 rfl dX10_write_26 rfl rfl [] [] (fun ad => [.ref (ad 0)]) rfl rfl rfl rfl v.1 v.2 (T_X10_canAll s v ho)) (fun q26 => ?_)
      refine ax_jif (ax_if_ne hV dX10_write_29) ?_ ?_
      · refine ax_j (ax_bipush hV (-3 : Int32) dX10_write_32 (by decide)) ?_
        exact ax_jl (fun h => ax_ir hV rfl dX10_write_34 (hP ((-3 : Int32), q26.2) h))
      · refine ax_j (ax_iconst hV (0 : Int32) dX10_write_35 (by decide)) ?_
        refine ax_j (ax_istore_n hV [some (.ref (ax_ad (cx_R, X) 0)), some (.int p1), some (.int (0 : Int32))] dX10_write_36 rfl rfl) ?_
        refine ax_jlp ((0 : Int32), q26.2) (fun x37 : Int32 × ax_S => [some (.ref (ax_ad (cx_R, X) 0)), some (.int p1), some (.int x37.1)]) (fun x37 : Int32 × ax_S => x37.2) (fun y37 : Int32 × ax_S => [none, none, some (.int y37.1)]) (fun y37 : Int32 × ax_S => y37.2) (fun P' h1 h2 w => B_X10_write_37 X hV p1 P' h1 h2 w) (fun e37 => ?_)
        refine ax_j (ax_iload_n hV dX10_write_79 rfl) ?_
        exact ax_jl (fun h => ax_ir hV rfl dX10_write_80 (hP (e37.1, e37.2) h))
def mu_X10_count : ax_Mu := (yX10_count, cX10_count, 4, some .int, 2, 43)
theorem lc_X10_count : Cond.code mu_X10_count.1 mu_X10_count.2.1 mu_X10_count.2.2.1 mu_X10_count.2.2.2.1 ∈ ax_tb := (ax_m6 163 rfl rfl)
noncomputable def b_X10_count_74 (l1 : Int32) (s : ax_S) (a : Int32 × Int32) : Option ((Int32 × Int32) ⊕ (Int32)) := (if (s.1 0 6) ≤ a.2 then some (.inr a.1) else (f_X10_isKnown a.2 s).bind (fun q85 => (if q85 = 0 then some (.inl ((a.1 + (0 : Int32)), (a.2 + 1))) else (if l1 = (4 : Int32) then some (.inl ((a.1 + (1 : Int32)), (a.2 + 1))) else (ax_ai cx_R s 6 a.2).bind (fun v101 => (if v101 = (-1 : Int32) then some (.inl ((a.1 + (1 : Int32)), (a.2 + 1))) else some (.inl ((a.1 + (0 : Int32)), (a.2 + 1)))))))))
noncomputable def b_X10_count_123 (s : ax_S) (a : Int32 × Int32) : Option ((Int32 × Int32) ⊕ (Int32)) := (if (s.1 0 2) ≤ a.2 then some (.inr a.1) else (ax_ai cx_R s 3 a.2).bind (fun v137 => some (.inl ((a.1 + v137), (a.2 + 1)))))
noncomputable def f_X10_count (p1 : Int32) (s : ax_S) : Option (Int32) := (if p1 = 0 then some ((s.1 0 0)) else (if p1 = 1 then some ((s.1 0 1)) else (if p1 = 2 then some ((s.1 0 2)) else (if p1 = 3 then some ((s.1 0 6)) else (if p1 = 4 then (ax_lp (b_X10_count_74 p1 s) ((0 : Int32), (0 : Int32))).bind (fun e74 => some (e74)) else (if p1 = 5 then (ax_lp (b_X10_count_74 p1 s) ((0 : Int32), (0 : Int32))).bind (fun e74 => some (e74)) else (if p1 = 6 then (ax_lp (b_X10_count_123 s) ((0 : Int32), (0 : Int32))).bind (fun e123 => some (e123)) else (if p1 = 7 then some ((s.1 0 30)) else (if p1 = 8 then some ((s.1 0 41)) else some ((-2 : Int32)))))))))))
theorem B_X10_count_74 (X : ax_G × ax_K × Option Value × ax_S) (hV : ax_ok (cx_R, X) mu_X10_count) (l1 : Int32) (s : ax_S) (P : ((Int32 × Int32) ⊕ (Int32)) → Prop) (hI : ∀ a : Int32 × Int32, P (.inl a) → ax_At (cx_R, X) 74 [some (.ref (ax_ad (cx_R, X) 0)), some (.int l1), some (.int a.1), some (.int a.2)] [] s) (hO : ∀ e : Int32, P (.inr e) → ax_At (cx_R, X) 119 [none, none, some (.int e), none] [] s) (a : Int32 × Int32) : ax_J (cx_R, X) P 74 [some (.ref (ax_ad (cx_R, X) 0)), some (.int l1), some (.int a.1), some (.int a.2)] [] s (b_X10_count_74 l1 s a) := by
  unfold b_X10_count_74
  refine ax_j (ax_iload_n hV dX10_count_74 rfl) ?_
  refine ax_j (ax_aload_n hV dX10_count_75 rfl) ?_
  refine ax_j (ax_gfi hV lf_X10_111 dX10_count_76 rfl rfl) ?_
  refine ax_jif (ax_icmp_ge hV dX10_count_79) ?_ ?_
  · refine ax_jf (lv' := [none, none, some (.int a.1), none]) [false, false, true, false] rfl ?_
    exact ax_jl (fun h => hO a.1 h)
  · refine ax_j (ax_iload_n hV dX10_count_82 rfl) ?_
    refine ax_j (ax_aload_n hV dX10_count_83 rfl) ?_
    refine ax_j (ax_iload_n hV dX10_count_84 rfl) ?_
    refine ax_jb (fun v ho => ax_cVi hV lk_X10_147 rfl dX10_count_85 rfl rfl [.int a.2] [.int a.1] (fun ad => [.ref (ad 0), .int a.2]) rfl rfl rfl rfl v s (T_X10_isKnown a.2 s v ho)) (fun q85 => ?_)
    refine ax_jif (ax_if_eq hV dX10_count_88) ?_ ?_
    · refine ax_j (ax_iconst hV (0 : Int32) dX10_count_110 (by decide)) ?_
      refine ax_j (ax_iadd hV dX10_count_111) ?_
      refine ax_j (ax_istore_n hV [some (.ref (ax_ad (cx_R, X) 0)), some (.int l1), some (.int (a.1 + (0 : Int32))), some (.int a.2)] dX10_count_112 rfl rfl) ?_
      refine ax_j (ax_iinc hV (a.2 + 1) [some (.ref (ax_ad (cx_R, X) 0)), some (.int l1), some (.int (a.1 + (0 : Int32))), some (.int (a.2 + 1))] dX10_count_113 rfl rfl rfl rfl) ?_
      refine ax_j (ax_goto hV dX10_count_116) ?_
      exact ax_jl (fun h => hI ((a.1 + (0 : Int32)), (a.2 + 1)) h)
    · refine ax_j (ax_iload_n hV dX10_count_91 rfl) ?_
      refine ax_j (ax_iconst hV (4 : Int32) dX10_count_92 (by decide)) ?_
      refine ax_jif (ax_icmp_eq hV dX10_count_93) ?_ ?_
      · refine ax_j (ax_iconst hV (1 : Int32) dX10_count_106 (by decide)) ?_
        refine ax_j (ax_goto hV dX10_count_107) ?_
        refine ax_j (ax_iadd hV dX10_count_111) ?_
        refine ax_j (ax_istore_n hV [some (.ref (ax_ad (cx_R, X) 0)), some (.int l1), some (.int (a.1 + (1 : Int32))), some (.int a.2)] dX10_count_112 rfl rfl) ?_
        refine ax_j (ax_iinc hV (a.2 + 1) [some (.ref (ax_ad (cx_R, X) 0)), some (.int l1), some (.int (a.1 + (1 : Int32))), some (.int (a.2 + 1))] dX10_count_113 rfl rfl rfl rfl) ?_
        refine ax_j (ax_goto hV dX10_count_116) ?_
        exact ax_jl (fun h => hI ((a.1 + (1 : Int32)), (a.2 + 1)) h)
      · refine ax_j (ax_aload_n hV dX10_count_96 rfl) ?_
        refine ax_j (ax_gfr hV lf_X10_25 dX10_count_97 rfl rfl) ?_
        refine ax_j (ax_iload_n hV dX10_count_100 rfl) ?_
        refine ax_jb (ax_iald hV dX10_count_101) (fun v101 => ?_)
        refine ax_j (ax_iconst hV (-1 : Int32) dX10_count_102 (by decide)) ?_
        refine ax_jif (ax_icmp_ne hV dX10_count_103) ?_ ?_
        · refine ax_j (ax_iconst hV (1 : Int32) dX10_count_106 (by decide)) ?_
          refine ax_j (ax_goto hV dX10_count_107) ?_
          refine ax_j (ax_iadd hV dX10_count_111) ?_
          refine ax_j (ax_istore_n hV [some (.ref (ax_ad (cx_R, X) 0)), some (.int l1), some (.int (a.1 + (1 : Int32))), some (.int a.2)] dX10_count_112 rfl rfl) ?_
          refine ax_j (ax_iinc hV (a.2 + 1) [some (.ref (ax_ad (cx_R, X) 0)), some (.int l1), some (.int (a.1 + (1 : Int32))), some (.int (a.2 + 1))] dX10_count_113 rfl rfl rfl rfl) ?_
          refine ax_j (ax_goto hV dX10_count_116) ?_
          exact ax_jl (fun h => hI ((a.1 + (1 : Int32)), (a.2 + 1)) h)
        · refine ax_j (ax_iconst hV (0 : Int32) dX10_count_110 (by decide)) ?_
          refine ax_j (ax_iadd hV dX10_count_111) ?_
          refine ax_j (ax_istore_n hV [some (.ref (ax_ad (cx_R, X) 0)), some (.int l1), some (.int (a.1 + (0 : Int32))), some (.int a.2)] dX10_count_112 rfl rfl) ?_
          refine ax_j (ax_iinc hV (a.2 + 1) [some (.ref (ax_ad (cx_R, X) 0)), some (.int l1), some (.int (a.1 + (0 : Int32))), some (.int (a.2 + 1))] dX10_count_113 rfl rfl rfl rfl) ?_
          refine ax_j (ax_goto hV dX10_count_116) ?_
          exact ax_jl (fun h => hI ((a.1 + (0 : Int32)), (a.2 + 1)) h)
theorem B_X10_count_123 (X : ax_G × ax_K × Option Value × ax_S) (hV : ax_ok (cx_R, X) mu_X10_count) (s : ax_S) (P : ((Int32 × Int32) ⊕ (Int32)) → Prop) (hI : ∀ a : Int32 × Int32, P (.inl a) → ax_At (cx_R, X) 123 [some (.ref (ax_ad (cx_R, X) 0)), none, some (.int a.1), some (.int a.2)] [] s) (hO : ∀ e : Int32, P (.inr e) → ax_At (cx_R, X) 146 [none, none, some (.int e), none] [] s) (a : Int32 × Int32) : ax_J (cx_R, X) P 123 [some (.ref (ax_ad (cx_R, X) 0)), none, some (.int a.1), some (.int a.2)] [] s (b_X10_count_123 s a) := by
  unfold b_X10_count_123
  refine ax_j (ax_iload_n hV dX10_count_123 rfl) ?_
  refine ax_j (ax_aload_n hV dX10_count_124 rfl) ?_
  refine ax_j (ax_gfi hV lf_X10_101 dX10_count_125 rfl rfl) ?_
  refine ax_jif (ax_icmp_ge hV dX10_count_128) ?_ ?_
  · refine ax_jf (lv' := [none, none, some (.int a.1), none]) [false, false, true, false] rfl ?_
    exact ax_jl (fun h => hO a.1 h)
  · refine ax_j (ax_iload_n hV dX10_count_131 rfl) ?_
    refine ax_j (ax_aload_n hV dX10_count_132 rfl) ?_
    refine ax_j (ax_gfr hV lf_X10_16 dX10_count_133 rfl rfl) ?_
    refine ax_j (ax_iload_n hV dX10_count_136 rfl) ?_
    refine ax_jb (ax_iald hV dX10_count_137) (fun v137 => ?_)
    refine ax_j (ax_iadd hV dX10_count_138) ?_
    refine ax_j (ax_istore_n hV [some (.ref (ax_ad (cx_R, X) 0)), none, some (.int (a.1 + v137)), some (.int a.2)] dX10_count_139 rfl rfl) ?_
    refine ax_j (ax_iinc hV (a.2 + 1) [some (.ref (ax_ad (cx_R, X) 0)), none, some (.int (a.1 + v137)), some (.int (a.2 + 1))] dX10_count_140 rfl rfl rfl rfl) ?_
    refine ax_j (ax_goto hV dX10_count_143) ?_
    exact ax_jl (fun h => hI ((a.1 + v137), (a.2 + 1)) h)
theorem T_X10_count (p1 : Int32) (s : ax_S) (r : Int32) (h : f_X10_count p1 s = some r) : ax_M cx_R mu_X10_count (fun ad => [.ref (ad 0), .int p1]) s (some (.int r)) s := by
  refine ax_enter (by decide +kernel) 2 (fun ad => [some (.ref (ad 0)), some (.int p1), none, none]) (fun ad => rfl) (fun ad => Nat.le_of_ble_eq_true rfl) (fun X hV ho => ?_)
  refine ax_go (fun r : Int32 => (some (Value.int r), s)) (fun P hP => ?_) h ho
  unfold f_X10_count
  refine ax_j (ax_iconst hV (0 : Int32) dX10_count_0 (by decide)) ?_
  refine ax_j (ax_istore_n hV [some (.ref (ax_ad (cx_R, X) 0)), some (.int p1), some (.int (0 : Int32)), none] dX10_count_1 rfl rfl) ?_
  refine ax_j (ax_iload_n hV dX10_count_2 rfl) ?_
  refine ax_jc (fun h3_0 => ?_) (fun h3_0 => ?_)
  · refine ax_j (ax_tsw (tgt := 52) hV 0 h3_0 dX10_count_3 rfl (by decide) (by decide) (by decide)) ?_
    refine ax_j (ax_aload_n hV dX10_count_52 rfl) ?_
    refine ax_j (ax_gfi hV lf_X10_104 dX10_count_53 rfl rfl) ?_
    exact ax_jl (fun h => ax_ir hV rfl dX10_count_56 (hP (s.1 0 0) h))
  · refine ax_jc (fun h3_1 => ?_) (fun h3_1 => ?_)
    · refine ax_j (ax_tsw (tgt := 57) hV 1 h3_1 dX10_count_3 rfl (by decide) (by decide) (by decide)) ?_
      refine ax_j (ax_aload_n hV dX10_count_57 rfl) ?_
      refine ax_j (ax_gfi hV lf_X10_94 dX10_count_58 rfl rfl) ?_
      exact ax_jl (fun h => ax_ir hV rfl dX10_count_61 (hP (s.1 0 1) h))
    · refine ax_jc (fun h3_2 => ?_) (fun h3_2 => ?_)
      · refine ax_j (ax_tsw (tgt := 62) hV 2 h3_2 dX10_count_3 rfl (by decide) (by decide) (by decide)) ?_
        refine ax_j (ax_aload_n hV dX10_count_62 rfl) ?_
        refine ax_j (ax_gfi hV lf_X10_101 dX10_count_63 rfl rfl) ?_
        exact ax_jl (fun h => ax_ir hV rfl dX10_count_66 (hP (s.1 0 2) h))
      · refine ax_jc (fun h3_3 => ?_) (fun h3_3 => ?_)
        · refine ax_j (ax_tsw (tgt := 67) hV 3 h3_3 dX10_count_3 rfl (by decide) (by decide) (by decide)) ?_
          refine ax_j (ax_aload_n hV dX10_count_67 rfl) ?_
          refine ax_j (ax_gfi hV lf_X10_111 dX10_count_68 rfl rfl) ?_
          exact ax_jl (fun h => ax_ir hV rfl dX10_count_71 (hP (s.1 0 6) h))
        · refine ax_jc (fun h3_4 => ?_) (fun h3_4 => ?_)
          · refine ax_j (ax_tsw (tgt := 72) hV 4 h3_4 dX10_count_3 rfl (by decide) (by decide) (by decide)) ?_
            refine ax_j (ax_iconst hV (0 : Int32) dX10_count_72 (by decide)) ?_
            refine ax_j (ax_istore_n hV [some (.ref (ax_ad (cx_R, X) 0)), some (.int p1), some (.int (0 : Int32)), some (.int (0 : Int32))] dX10_count_73 rfl rfl) ?_
            refine ax_jlp ((0 : Int32), (0 : Int32)) (fun x74 : Int32 × Int32 => [some (.ref (ax_ad (cx_R, X) 0)), some (.int p1), some (.int x74.1), some (.int x74.2)]) (fun x74 : Int32 × Int32 => s) (fun y74 : Int32 => [none, none, some (.int y74), none]) (fun y74 : Int32 => s) (fun P' h1 h2 w => B_X10_count_74 X hV p1 s P' h1 h2 w) (fun e74 => ?_)
            refine ax_j (ax_iload_n hV dX10_count_119 rfl) ?_
            exact ax_jl (fun h => ax_ir hV rfl dX10_count_120 (hP e74 h))
          · refine ax_jc (fun h3_5 => ?_) (fun h3_5 => ?_)
            · refine ax_j (ax_tsw (tgt := 72) hV 5 h3_5 dX10_count_3 rfl (by decide) (by decide) (by decide)) ?_
              refine ax_j (ax_iconst hV (0 : Int32) dX10_count_72 (by decide)) ?_
              refine ax_j (ax_istore_n hV [some (.ref (ax_ad (cx_R, X) 0)), some (.int p1), some (.int (0 : Int32)), some (.int (0 : Int32))] dX10_count_73 rfl rfl) ?_
              refine ax_jlp ((0 : Int32), (0 : Int32)) (fun x74 : Int32 × Int32 => [some (.ref (ax_ad (cx_R, X) 0)), some (.int p1), some (.int x74.1), some (.int x74.2)]) (fun x74 : Int32 × Int32 => s) (fun y74 : Int32 => [none, none, some (.int y74), none]) (fun y74 : Int32 => s) (fun P' h1 h2 w => B_X10_count_74 X hV p1 s P' h1 h2 w) (fun e74 => ?_)
              refine ax_j (ax_iload_n hV dX10_count_119 rfl) ?_
              exact ax_jl (fun h => ax_ir hV rfl dX10_count_120 (hP e74 h))
            · refine ax_jc (fun h3_6 => ?_) (fun h3_6 => ?_)
              · refine ax_j (ax_tsw (tgt := 121) hV 6 h3_6 dX10_count_3 rfl (by decide) (by decide) (by decide)) ?_
                refine ax_j (ax_iconst hV (0 : Int32) dX10_count_121 (by decide)) ?_
                refine ax_j (ax_istore_n hV [some (.ref (ax_ad (cx_R, X) 0)), some (.int p1), some (.int (0 : Int32)), some (.int (0 : Int32))] dX10_count_122 rfl rfl) ?_
                refine ax_jf (lv' := [some (.ref (ax_ad (cx_R, X) 0)), none, some (.int (0 : Int32)), some (.int (0 : Int32))]) [true, false, true, true] rfl ?_
                refine ax_jlp ((0 : Int32), (0 : Int32)) (fun x123 : Int32 × Int32 => [some (.ref (ax_ad (cx_R, X) 0)), none, some (.int x123.1), some (.int x123.2)]) (fun x123 : Int32 × Int32 => s) (fun y123 : Int32 => [none, none, some (.int y123), none]) (fun y123 : Int32 => s) (fun P' h1 h2 w => B_X10_count_123 X hV s P' h1 h2 w) (fun e123 => ?_)
                refine ax_j (ax_iload_n hV dX10_count_146 rfl) ?_
                exact ax_jl (fun h => ax_ir hV rfl dX10_count_147 (hP e123 h))
              · refine ax_jc (fun h3_7 => ?_) (fun h3_7 => ?_)
                · refine ax_j (ax_tsw (tgt := 148) hV 7 h3_7 dX10_count_3 rfl (by decide) (by decide) (by decide)) ?_
                  refine ax_j (ax_aload_n hV dX10_count_148 rfl) ?_
                  refine ax_j (ax_gfi hV lf_X10_267 dX10_count_149 rfl rfl) ?_
                  exact ax_jl (fun h => ax_ir hV rfl dX10_count_152 (hP (s.1 0 30) h))
                · refine ax_jc (fun h3_8 => ?_) (fun h3_8 => ?_)
                  · refine ax_j (ax_tsw (tgt := 153) hV 8 h3_8 dX10_count_3 rfl (by decide) (by decide) (by decide)) ?_
                    refine ax_j (ax_aload_n hV dX10_count_153 rfl) ?_
                    refine ax_j (ax_gfi hV lf_X10_297 dX10_count_154 rfl rfl) ?_
                    exact ax_jl (fun h => ax_ir hV rfl dX10_count_157 (hP (s.1 0 41) h))
                  · refine ax_j (ax_tswd (tgt := 158) hV (ax_nk_s (ax_nk_s (ax_nk_s (ax_nk_s (ax_nk_s (ax_nk_s (ax_nk_s (ax_nk_s (ax_nk_s ax_nk_0 h3_0) h3_1) h3_2) h3_3) h3_4) h3_5) h3_6) h3_7) h3_8) dX10_count_3 (by decide) (by decide)) ?_
                    refine ax_j (ax_bipush hV (-2 : Int32) dX10_count_158 (by decide)) ?_
                    exact ax_jl (fun h => ax_ir hV rfl dX10_count_160 (hP (-2 : Int32) h))
theorem lk_X10_311 : ax_lkV RX10 311 mu_X10_count RX10 1 := ax_lkV_of (ax_m6 170 rfl rfl) (ax_m6 161 rfl rfl) (ax_m6 162 rfl rfl) (ax_m1 10 rfl rfl) lc_X10_count rfl ⟨by decide +kernel, by decide +kernel, by decide +kernel⟩
def mu_X10_digest : ax_Mu := (yX10_digest, cX10_digest, 5, some .long, 6, 138)
theorem lc_X10_digest : Cond.code mu_X10_digest.1 mu_X10_digest.2.1 mu_X10_digest.2.2.1 mu_X10_digest.2.2.2.1 ∈ ax_tb := (ax_m6 167 rfl rfl)
noncomputable def b_X10_digest_6 (s : ax_S) (a : Int64 × Int32) : Option ((Int64 × Int32) ⊕ (Int64)) := (if (8 : Int32) ≤ a.2 then some (.inr a.1) else (f_X10_count a.2 s).bind (fun q19 => some (.inl ((((31 : Int64) * a.1) + q19.toInt64), (a.2 + 1)))))
noncomputable def b_X10_digest_44 (l3 : Int32) (s : ax_S) (a : Int64 × Int32) : Option ((Int64 × Int32) ⊕ (Int64)) := (if (8 : Int32) ≤ a.2 then some (.inr a.1) else (f_X10_aboutOf l3 a.2 s).bind (fun q60 => some (.inl ((((31 : Int64) * a.1) + q60.toInt64), (a.2 + 1)))))
noncomputable def b_X10_digest_33 (s : ax_S) (a : Int64 × Int32) : Option ((Int64 × Int32) ⊕ (Int64)) := (if (s.1 0 6) ≤ a.2 then some (.inr a.1) else (ax_lp (b_X10_digest_44 a.2 s) (a.1, (0 : Int32))).bind (fun e44 => some (.inl (e44, (a.2 + 1)))))
noncomputable def j_X10_digest_103_133 (l3 : Int32) (s : ax_S) (l4 : Int32) (k0 : Int32) (k1 : Int64) : Option ((Int64 × Int32) ⊕ (Int64)) := (if l3 = 0 then some (.inl ((((31 : Int64) * (k1 + k0.toInt64)) + ((-300001 : Int32).toInt64)), (l4 + 1))) else (f_X10_endOf l4 (1 : Int32) s).bind (fun q149 => some (.inl ((((31 : Int64) * (k1 + k0.toInt64)) + q149.toInt64), (l4 + 1)))))
noncomputable def b_X10_digest_103 (l3 : Int32) (s : ax_S) (a : Int64 × Int32) : Option ((Int64 × Int32) ⊕ (Int64)) := (if (s.1 0 1) ≤ a.2 then some (.inr a.1) else (if l3 = 0 then j_X10_digest_103_133 l3 s a.2 (-300001 : Int32) ((31 : Int64) * a.1) else (f_X10_endOf a.2 (0 : Int32) s).bind (fun q125 => j_X10_digest_103_133 l3 s a.2 q125 ((31 : Int64) * a.1))))
noncomputable def j_X10_digest_169_199 (l3 : Int32) (s : ax_S) (l4 : Int32) (k0 : Int32) (k1 : Int64) : Option ((Int64 × Int32) ⊕ (Int64)) := (if l3 = 0 then some (.inl ((((31 : Int64) * (k1 + k0.toInt64)) + ((-300001 : Int32).toInt64)), (l4 + 1))) else (f_X10_clockEnd l4 (1 : Int32) s).bind (fun q215 => some (.inl ((((31 : Int64) * (k1 + k0.toInt64)) + q215.toInt64), (l4 + 1)))))
noncomputable def b_X10_digest_169 (l3 : Int32) (s : ax_S) (a : Int64 × Int32) : Option ((Int64 × Int32) ⊕ (Int64)) := (if (s.1 0 2) ≤ a.2 then some (.inr a.1) else (if l3 = 0 then j_X10_digest_169_199 l3 s a.2 (-300001 : Int32) ((31 : Int64) * a.1) else (f_X10_clockEnd a.2 (0 : Int32) s).bind (fun q191 => j_X10_digest_169_199 l3 s a.2 q191 ((31 : Int64) * a.1))))
noncomputable def f_X10_digest  (s : ax_S) : Option (Int64 × ax_S) := (ax_lp (b_X10_digest_6 s) ((17 : Int64), (0 : Int32))).bind (fun e6 => (ax_lp (b_X10_digest_33 s) (e6, (0 : Int32))).bind (fun e33 => (f_X10_canAll s).bind (fun q79 => (if q79.1 = 0 then (ax_lp (b_X10_digest_103 q79.1 q79.2) ((((31 : Int64) * e33) + ((0 : Int32).toInt64)), (0 : Int32))).bind (fun e103 => (ax_lp (b_X10_digest_169 q79.1 q79.2) (e103, (0 : Int32))).bind (fun e169 => (f_X10_ordersNow q79.2).bind (fun q238 => (f_X10_faultNow q238.2).bind (fun q249 => some (((((31 : Int64) * (((31 : Int64) * e169) + q238.1)) + q249.1.toInt64), q249.2)))))) else (ax_lp (b_X10_digest_103 q79.1 q79.2) ((((31 : Int64) * e33) + ((1 : Int32).toInt64)), (0 : Int32))).bind (fun e103 => (ax_lp (b_X10_digest_169 q79.1 q79.2) (e103, (0 : Int32))).bind (fun e169 => (f_X10_ordersNow q79.2).bind (fun q238 => (f_X10_faultNow q238.2).bind (fun q249 => some (((((31 : Int64) * (((31 : Int64) * e169) + q238.1)) + q249.1.toInt64), q249.2))))))))))
theorem B_X10_digest_6 (X : ax_G × ax_K × Option Value × ax_S) (hV : ax_ok (cx_R, X) mu_X10_digest) (s : ax_S) (P : ((Int64 × Int32) ⊕ (Int64)) → Prop) (hI : ∀ a : Int64 × Int32, P (.inl a) → ax_At (cx_R, X) 6 [some (.ref (ax_ad (cx_R, X) 0)), some (.long a.1), none, some (.int a.2), none] [] s) (hO : ∀ e : Int64, P (.inr e) → ax_At (cx_R, X) 31 [some (.ref (ax_ad (cx_R, X) 0)), some (.long e), none, none, none] [] s) (a : Int64 × Int32) : ax_J (cx_R, X) P 6 [some (.ref (ax_ad (cx_R, X) 0)), some (.long a.1), none, some (.int a.2), none] [] s (b_X10_digest_6 s a) := by
  unfold b_X10_digest_6
  refine ax_j (ax_iload_n hV dX10_digest_6 rfl) ?_
  refine ax_j (ax_bipush hV (8 : Int32) dX10_digest_7 (by decide)) ?_
  refine ax_jif (ax_icmp_ge hV dX10_digest_9) ?_ ?_
  · refine ax_jf (lv' := [some (.ref (ax_ad (cx_R, X) 0)), some (.long a.1), none, none, none]) [true, true, false, false, false] rfl ?_
    exact ax_jl (fun h => hO a.1 h)
  · refine ax_j (ax_ldc2 hV kc_X10_309 dX10_digest_12) ?_
    refine ax_j (ax_lload_n hV dX10_digest_15 rfl) ?_
    refine ax_j (ax_lmul hV dX10_digest_16) ?_
    refine ax_j (ax_aload_n hV dX10_digest_17 rfl) ?_
    refine ax_j (ax_iload_n hV dX10_digest_18 rfl) ?_
    refine ax_jb (fun v ho => ax_cVi hV lk_X10_311 rfl dX10_digest_19 rfl rfl [.int a.2] [.long ((31 : Int64) * a.1)] (fun ad => [.ref (ad 0), .int a.2]) rfl rfl rfl rfl v s (T_X10_count a.2 s v ho)) (fun q19 => ?_)
    refine ax_j (ax_i2l hV dX10_digest_22) ?_
    refine ax_j (ax_ladd hV dX10_digest_23) ?_
    refine ax_j (ax_lstore_n hV [some (.ref (ax_ad (cx_R, X) 0)), some (.long (((31 : Int64) * a.1) + q19.toInt64)), none, some (.int a.2), none] dX10_digest_24 rfl rfl) ?_
    refine ax_j (ax_iinc hV (a.2 + 1) [some (.ref (ax_ad (cx_R, X) 0)), some (.long (((31 : Int64) * a.1) + q19.toInt64)), none, some (.int (a.2 + 1)), none] dX10_digest_25 rfl rfl rfl rfl) ?_
    refine ax_j (ax_goto hV dX10_digest_28) ?_
    exact ax_jl (fun h => hI ((((31 : Int64) * a.1) + q19.toInt64), (a.2 + 1)) h)
theorem B_X10_digest_44 (X : ax_G × ax_K × Option Value × ax_S) (hV : ax_ok (cx_R, X) mu_X10_digest) (l3 : Int32) (s : ax_S) (P : ((Int64 × Int32) ⊕ (Int64)) → Prop) (hI : ∀ a : Int64 × Int32, P (.inl a) → ax_At (cx_R, X) 44 [some (.ref (ax_ad (cx_R, X) 0)), some (.long a.1), none, some (.int l3), some (.int a.2)] [] s) (hO : ∀ e : Int64, P (.inr e) → ax_At (cx_R, X) 72 [some (.ref (ax_ad (cx_R, X) 0)), some (.long e), none, some (.int l3), none] [] s) (a : Int64 × Int32) : ax_J (cx_R, X) P 44 [some (.ref (ax_ad (cx_R, X) 0)), some (.long a.1), none, some (.int l3), some (.int a.2)] [] s (b_X10_digest_44 l3 s a) := by
  unfold b_X10_digest_44
  refine ax_j (ax_iload hV dX10_digest_44 rfl) ?_
  refine ax_j (ax_bipush hV (8 : Int32) dX10_digest_46 (by decide)) ?_
  refine ax_jif (ax_icmp_ge hV dX10_digest_48) ?_ ?_
  · refine ax_jf (lv' := [some (.ref (ax_ad (cx_R, X) 0)), some (.long a.1), none, some (.int l3), none]) [true, true, false, true, false] rfl ?_
    exact ax_jl (fun h => hO a.1 h)
  · refine ax_j (ax_ldc2 hV kc_X10_309 dX10_digest_51) ?_
    refine ax_j (ax_lload_n hV dX10_digest_54 rfl) ?_
    refine ax_j (ax_lmul hV dX10_digest_55) ?_
    refine ax_j (ax_aload_n hV dX10_digest_56 rfl) ?_
    refine ax_j (ax_iload_n hV dX10_digest_57 rfl) ?_
    refine ax_j (ax_iload hV dX10_digest_58 rfl) ?_
    refine ax_jb (fun v ho => ax_cVi hV lk_X10_151 rfl dX10_digest_60 rfl rfl [.int l3, .int a.2] [.long ((31 : Int64) * a.1)] (fun ad => [.ref (ad 0), .int l3, .int a.2]) rfl rfl rfl rfl v s (T_X10_aboutOf l3 a.2 s v ho)) (fun q60 => ?_)
    refine ax_j (ax_i2l hV dX10_digest_63) ?_
    refine ax_j (ax_ladd hV dX10_digest_64) ?_
    refine ax_j (ax_lstore_n hV [some (.ref (ax_ad (cx_R, X) 0)), some (.long (((31 : Int64) * a.1) + q60.toInt64)), none, some (.int l3), some (.int a.2)] dX10_digest_65 rfl rfl) ?_
    refine ax_j (ax_iinc hV (a.2 + 1) [some (.ref (ax_ad (cx_R, X) 0)), some (.long (((31 : Int64) * a.1) + q60.toInt64)), none, some (.int l3), some (.int (a.2 + 1))] dX10_digest_66 rfl rfl rfl rfl) ?_
    refine ax_j (ax_goto hV dX10_digest_69) ?_
    exact ax_jl (fun h => hI ((((31 : Int64) * a.1) + q60.toInt64), (a.2 + 1)) h)
theorem B_X10_digest_33 (X : ax_G × ax_K × Option Value × ax_S) (hV : ax_ok (cx_R, X) mu_X10_digest) (s : ax_S) (P : ((Int64 × Int32) ⊕ (Int64)) → Prop) (hI : ∀ a : Int64 × Int32, P (.inl a) → ax_At (cx_R, X) 33 [some (.ref (ax_ad (cx_R, X) 0)), some (.long a.1), none, some (.int a.2), none] [] s) (hO : ∀ e : Int64, P (.inr e) → ax_At (cx_R, X) 78 [some (.ref (ax_ad (cx_R, X) 0)), some (.long e), none, none, none] [] s) (a : Int64 × Int32) : ax_J (cx_R, X) P 33 [some (.ref (ax_ad (cx_R, X) 0)), some (.long a.1), none, some (.int a.2), none] [] s (b_X10_digest_33 s a) := by
  unfold b_X10_digest_33
  refine ax_j (ax_iload_n hV dX10_digest_33 rfl) ?_
  refine ax_j (ax_aload_n hV dX10_digest_34 rfl) ?_
  refine ax_j (ax_gfi hV lf_X10_111 dX10_digest_35 rfl rfl) ?_
  refine ax_jif (ax_icmp_ge hV dX10_digest_38) ?_ ?_
  · refine ax_jf (lv' := [some (.ref (ax_ad (cx_R, X) 0)), some (.long a.1), none, none, none]) [true, true, false, false, false] rfl ?_
    exact ax_jl (fun h => hO a.1 h)
  · refine ax_j (ax_iconst hV (0 : Int32) dX10_digest_41 (by decide)) ?_
    refine ax_j (ax_istore hV [some (.ref (ax_ad (cx_R, X) 0)), some (.long a.1), none, some (.int a.2), some (.int (0 : Int32))] dX10_digest_42 rfl rfl) ?_
    refine ax_jlp (a.1, (0 : Int32)) (fun x44 : Int64 × Int32 => [some (.ref (ax_ad (cx_R, X) 0)), some (.long x44.1), none, some (.int a.2), some (.int x44.2)]) (fun x44 : Int64 × Int32 => s) (fun y44 : Int64 => [some (.ref (ax_ad (cx_R, X) 0)), some (.long y44), none, some (.int a.2), none]) (fun y44 : Int64 => s) (fun P' h1 h2 w => B_X10_digest_44 X hV a.2 s P' h1 h2 w) (fun e44 => ?_)
    refine ax_j (ax_iinc hV (a.2 + 1) [some (.ref (ax_ad (cx_R, X) 0)), some (.long e44), none, some (.int (a.2 + 1)), none] dX10_digest_72 rfl rfl rfl rfl) ?_
    refine ax_j (ax_goto hV dX10_digest_75) ?_
    exact ax_jl (fun h => hI (e44, (a.2 + 1)) h)
theorem N_X10_digest_103_133 (X : ax_G × ax_K × Option Value × ax_S) (hV : ax_ok (cx_R, X) mu_X10_digest) (l3 : Int32) (s : ax_S) (P : ((Int64 × Int32) ⊕ (Int64)) → Prop) (hI : ∀ a : Int64 × Int32, P (.inl a) → ax_At (cx_R, X) 103 [some (.ref (ax_ad (cx_R, X) 0)), some (.long a.1), none, some (.int l3), some (.int a.2)] [] s) (hO : ∀ e : Int64, P (.inr e) → ax_At (cx_R, X) 166 [some (.ref (ax_ad (cx_R, X) 0)), some (.long e), none, some (.int l3), none] [] s) (l4 : Int32) (k0 : Int32) (k1 : Int64) : ax_J (cx_R, X) P 133 [some (.ref (ax_ad (cx_R, X) 0)), none, none, some (.int l3), some (.int l4)] [.int k0, .long k1] s (j_X10_digest_103_133 l3 s l4 k0 k1) := by
  unfold j_X10_digest_103_133
  refine ax_j (ax_i2l hV dX10_digest_133) ?_
  refine ax_j (ax_ladd hV dX10_digest_134) ?_
  refine ax_j (ax_lstore_n hV [some (.ref (ax_ad (cx_R, X) 0)), some (.long (k1 + k0.toInt64)), none, some (.int l3), some (.int l4)] dX10_digest_135 rfl rfl) ?_
  refine ax_j (ax_ldc2 hV kc_X10_309 dX10_digest_136) ?_
  refine ax_j (ax_lload_n hV dX10_digest_139 rfl) ?_
  refine ax_j (ax_lmul hV dX10_digest_140) ?_
  refine ax_j (ax_iload_n hV dX10_digest_141 rfl) ?_
  refine ax_jif (ax_if_eq hV dX10_digest_142) ?_ ?_
  · refine ax_j (ax_ldc hV kc_X10_180 dX10_digest_155) ?_
    refine ax_j (ax_i2l hV dX10_digest_157) ?_
    refine ax_j (ax_ladd hV dX10_digest_158) ?_
    refine ax_j (ax_lstore_n hV [some (.ref (ax_ad (cx_R, X) 0)), some (.long (((31 : Int64) * (k1 + k0.toInt64)) + ((-300001 : Int32).toInt64))), none, some (.int l3), some (.int l4)] dX10_digest_159 rfl rfl) ?_
    refine ax_j (ax_iinc hV (l4 + 1) [some (.ref (ax_ad (cx_R, X) 0)), some (.long (((31 : Int64) * (k1 + k0.toInt64)) + ((-300001 : Int32).toInt64))), none, some (.int l3), some (.int (l4 + 1))] dX10_digest_160 rfl rfl rfl rfl) ?_
    refine ax_j (ax_goto hV dX10_digest_163) ?_
    exact ax_jl (fun h => hI ((((31 : Int64) * (k1 + k0.toInt64)) + ((-300001 : Int32).toInt64)), (l4 + 1)) h)
  · refine ax_j (ax_aload_n hV dX10_digest_145 rfl) ?_
    refine ax_j (ax_iload hV dX10_digest_146 rfl) ?_
    refine ax_j (ax_iconst hV (1 : Int32) dX10_digest_148 (by decide)) ?_
    refine ax_jb (fun v ho => ax_cVi hV lk_X10_177 rfl dX10_digest_149 rfl rfl [.int l4, .int (1 : Int32)] [.long ((31 : Int64) * (k1 + k0.toInt64))] (fun ad => [.ref (ad 0), .int l4, .int (1 : Int32)]) rfl rfl rfl rfl v s (T_X10_endOf l4 (1 : Int32) s v ho)) (fun q149 => ?_)
    refine ax_j (ax_goto hV dX10_digest_152) ?_
    refine ax_j (ax_i2l hV dX10_digest_157) ?_
    refine ax_j (ax_ladd hV dX10_digest_158) ?_
    refine ax_j (ax_lstore_n hV [some (.ref (ax_ad (cx_R, X) 0)), some (.long (((31 : Int64) * (k1 + k0.toInt64)) + q149.toInt64)), none, some (.int l3), some (.int l4)] dX10_digest_159 rfl rfl) ?_
    refine ax_j (ax_iinc hV (l4 + 1) [some (.ref (ax_ad (cx_R, X) 0)), some (.long (((31 : Int64) * (k1 + k0.toInt64)) + q149.toInt64)), none, some (.int l3), some (.int (l4 + 1))] dX10_digest_160 rfl rfl rfl rfl) ?_
    refine ax_j (ax_goto hV dX10_digest_163) ?_
    exact ax_jl (fun h => hI ((((31 : Int64) * (k1 + k0.toInt64)) + q149.toInt64), (l4 + 1)) h)
theorem B_X10_digest_103 (X : ax_G × ax_K × Option Value × ax_S) (hV : ax_ok (cx_R, X) mu_X10_digest) (l3 : Int32) (s : ax_S) (P : ((Int64 × Int32) ⊕ (Int64)) → Prop) (hI : ∀ a : Int64 × Int32, P (.inl a) → ax_At (cx_R, X) 103 [some (.ref (ax_ad (cx_R, X) 0)), some (.long a.1), none, some (.int l3), some (.int a.2)] [] s) (hO : ∀ e : Int64, P (.inr e) → ax_At (cx_R, X) 166 [some (.ref (ax_ad (cx_R, X) 0)), some (.long e), none, some (.int l3), none] [] s) (a : Int64 × Int32) : ax_J (cx_R, X) P 103 [some (.ref (ax_ad (cx_R, X) 0)), some (.long a.1), none, some (.int l3), some (.int a.2)] [] s (b_X10_digest_103 l3 s a) := by
  unfold b_X10_digest_103
  refine ax_j (ax_iload hV dX10_digest_103 rfl) ?_
  refine ax_j (ax_aload_n hV dX10_digest_105 rfl) ?_
  refine ax_j (ax_gfi hV lf_X10_94 dX10_digest_106 rfl rfl) ?_
  refine ax_jif (ax_icmp_ge hV dX10_digest_109) ?_ ?_
  · refine ax_jf (lv' := [some (.ref (ax_ad (cx_R, X) 0)), some (.long a.1), none, some (.int l3), none]) [true, true, false, true, false] rfl ?_
    exact ax_jl (fun h => hO a.1 h)
  · refine ax_j (ax_ldc2 hV kc_X10_309 dX10_digest_112) ?_
    refine ax_j (ax_lload_n hV dX10_digest_115 rfl) ?_
    refine ax_j (ax_lmul hV dX10_digest_116) ?_
    refine ax_j (ax_iload_n hV dX10_digest_117 rfl) ?_
    refine ax_jif (ax_if_eq hV dX10_digest_118) ?_ ?_
    · refine ax_j (ax_ldc hV kc_X10_180 dX10_digest_131) ?_
      refine ax_jf (lv' := [some (.ref (ax_ad (cx_R, X) 0)), none, none, some (.int l3), some (.int a.2)]) [true, false, false, true, true] rfl ?_
      exact N_X10_digest_103_133 X hV l3 s P hI hO a.2 (-300001 : Int32) ((31 : Int64) * a.1)
    · refine ax_j (ax_aload_n hV dX10_digest_121 rfl) ?_
      refine ax_j (ax_iload hV dX10_digest_122 rfl) ?_
      refine ax_j (ax_iconst hV (0 : Int32) dX10_digest_124 (by decide)) ?_
      refine ax_jb (fun v ho => ax_cVi hV lk_X10_177 rfl dX10_digest_125 rfl rfl [.int a.2, .int (0 : Int32)] [.long ((31 : Int64) * a.1)] (fun ad => [.ref (ad 0), .int a.2, .int (0 : Int32)]) rfl rfl rfl rfl v s (T_X10_endOf a.2 (0 : Int32) s v ho)) (fun q125 => ?_)
      refine ax_j (ax_goto hV dX10_digest_128) ?_
      refine ax_jf (lv' := [some (.ref (ax_ad (cx_R, X) 0)), none, none, some (.int l3), some (.int a.2)]) [true, false, false, true, true] rfl ?_
      exact N_X10_digest_103_133 X hV l3 s P hI hO a.2 q125 ((31 : Int64) * a.1)
theorem N_X10_digest_169_199 (X : ax_G × ax_K × Option Value × ax_S) (hV : ax_ok (cx_R, X) mu_X10_digest) (l3 : Int32) (s : ax_S) (P : ((Int64 × Int32) ⊕ (Int64)) → Prop) (hI : ∀ a : Int64 × Int32, P (.inl a) → ax_At (cx_R, X) 169 [some (.ref (ax_ad (cx_R, X) 0)), some (.long a.1), none, some (.int l3), some (.int a.2)] [] s) (hO : ∀ e : Int64, P (.inr e) → ax_At (cx_R, X) 232 [some (.ref (ax_ad (cx_R, X) 0)), some (.long e), none, none, none] [] s) (l4 : Int32) (k0 : Int32) (k1 : Int64) : ax_J (cx_R, X) P 199 [some (.ref (ax_ad (cx_R, X) 0)), none, none, some (.int l3), some (.int l4)] [.int k0, .long k1] s (j_X10_digest_169_199 l3 s l4 k0 k1) := by
  unfold j_X10_digest_169_199
  refine ax_j (ax_i2l hV dX10_digest_199) ?_
  refine ax_j (ax_ladd hV dX10_digest_200) ?_
  refine ax_j (ax_lstore_n hV [some (.ref (ax_ad (cx_R, X) 0)), some (.long (k1 + k0.toInt64)), none, some (.int l3), some (.int l4)] dX10_digest_201 rfl rfl) ?_
  refine ax_j (ax_ldc2 hV kc_X10_309 dX10_digest_202) ?_
  refine ax_j (ax_lload_n hV dX10_digest_205 rfl) ?_
  refine ax_j (ax_lmul hV dX10_digest_206) ?_
  refine ax_j (ax_iload_n hV dX10_digest_207 rfl) ?_
  refine ax_jif (ax_if_eq hV dX10_digest_208) ?_ ?_
  · refine ax_j (ax_ldc hV kc_X10_180 dX10_digest_221) ?_
    refine ax_j (ax_i2l hV dX10_digest_223) ?_
    refine ax_j (ax_ladd hV dX10_digest_224) ?_
    refine ax_j (ax_lstore_n hV [some (.ref (ax_ad (cx_R, X) 0)), some (.long (((31 : Int64) * (k1 + k0.toInt64)) + ((-300001 : Int32).toInt64))), none, some (.int l3), some (.int l4)] dX10_digest_225 rfl rfl) ?_
    refine ax_j (ax_iinc hV (l4 + 1) [some (.ref (ax_ad (cx_R, X) 0)), some (.long (((31 : Int64) * (k1 + k0.toInt64)) + ((-300001 : Int32).toInt64))), none, some (.int l3), some (.int (l4 + 1))] dX10_digest_226 rfl rfl rfl rfl) ?_
    refine ax_j (ax_goto hV dX10_digest_229) ?_
    exact ax_jl (fun h => hI ((((31 : Int64) * (k1 + k0.toInt64)) + ((-300001 : Int32).toInt64)), (l4 + 1)) h)
  · refine ax_j (ax_aload_n hV dX10_digest_211 rfl) ?_
    refine ax_j (ax_iload hV dX10_digest_212 rfl) ?_
    refine ax_j (ax_iconst hV (1 : Int32) dX10_digest_214 (by decide)) ?_
    refine ax_jb (fun v ho => ax_cVi hV lk_X10_181 rfl dX10_digest_215 rfl rfl [.int l4, .int (1 : Int32)] [.long ((31 : Int64) * (k1 + k0.toInt64))] (fun ad => [.ref (ad 0), .int l4, .int (1 : Int32)]) rfl rfl rfl rfl v s (T_X10_clockEnd l4 (1 : Int32) s v ho)) (fun q215 => ?_)
    refine ax_j (ax_goto hV dX10_digest_218) ?_
    refine ax_j (ax_i2l hV dX10_digest_223) ?_
    refine ax_j (ax_ladd hV dX10_digest_224) ?_
    refine ax_j (ax_lstore_n hV [some (.ref (ax_ad (cx_R, X) 0)), some (.long (((31 : Int64) * (k1 + k0.toInt64)) + q215.toInt64)), none, some (.int l3), some (.int l4)] dX10_digest_225 rfl rfl) ?_
    refine ax_j (ax_iinc hV (l4 + 1) [some (.ref (ax_ad (cx_R, X) 0)), some (.long (((31 : Int64) * (k1 + k0.toInt64)) + q215.toInt64)), none, some (.int l3), some (.int (l4 + 1))] dX10_digest_226 rfl rfl rfl rfl) ?_
    refine ax_j (ax_goto hV dX10_digest_229) ?_
    exact ax_jl (fun h => hI ((((31 : Int64) * (k1 + k0.toInt64)) + q215.toInt64), (l4 + 1)) h)
theorem B_X10_digest_169 (X : ax_G × ax_K × Option Value × ax_S) (hV : ax_ok (cx_R, X) mu_X10_digest) (l3 : Int32) (s : ax_S) (P : ((Int64 × Int32) ⊕ (Int64)) → Prop) (hI : ∀ a : Int64 × Int32, P (.inl a) → ax_At (cx_R, X) 169 [some (.ref (ax_ad (cx_R, X) 0)), some (.long a.1), none, some (.int l3), some (.int a.2)] [] s) (hO : ∀ e : Int64, P (.inr e) → ax_At (cx_R, X) 232 [some (.ref (ax_ad (cx_R, X) 0)), some (.long e), none, none, none] [] s) (a : Int64 × Int32) : ax_J (cx_R, X) P 169 [some (.ref (ax_ad (cx_R, X) 0)), some (.long a.1), none, some (.int l3), some (.int a.2)] [] s (b_X10_digest_169 l3 s a) := by
  unfold b_X10_digest_169
  refine ax_j (ax_iload hV dX10_digest_169 rfl) ?_
  refine ax_j (ax_aload_n hV dX10_digest_171 rfl) ?_
  refine ax_j (ax_gfi hV lf_X10_101 dX10_digest_172 rfl rfl) ?_
  refine ax_jif (ax_icmp_ge hV dX10_digest_175) ?_ ?_
  · refine ax_jf (lv' := [some (.ref (ax_ad (cx_R, X) 0)), some (.long a.1), none, none, none]) [true, true, false, false, false] rfl ?_
    exact ax_jl (fun h => hO a.1 h)
  · refine ax_j (ax_ldc2 hV kc_X10_309 dX10_digest_178) ?_
    refine ax_j (ax_lload_n hV dX10_digest_181 rfl) ?_
    refine ax_j (ax_lmul hV dX10_digest_182) ?_
    refine ax_j (ax_iload_n hV dX10_digest_183 rfl) ?_
    refine ax_jif (ax_if_eq hV dX10_digest_184) ?_ ?_
    · refine ax_j (ax_ldc hV kc_X10_180 dX10_digest_197) ?_
      refine ax_jf (lv' := [some (.ref (ax_ad (cx_R, X) 0)), none, none, some (.int l3), some (.int a.2)]) [true, false, false, true, true] rfl ?_
      exact N_X10_digest_169_199 X hV l3 s P hI hO a.2 (-300001 : Int32) ((31 : Int64) * a.1)
    · refine ax_j (ax_aload_n hV dX10_digest_187 rfl) ?_
      refine ax_j (ax_iload hV dX10_digest_188 rfl) ?_
      refine ax_j (ax_iconst hV (0 : Int32) dX10_digest_190 (by decide)) ?_
      refine ax_jb (fun v ho => ax_cVi hV lk_X10_181 rfl dX10_digest_191 rfl rfl [.int a.2, .int (0 : Int32)] [.long ((31 : Int64) * a.1)] (fun ad => [.ref (ad 0), .int a.2, .int (0 : Int32)]) rfl rfl rfl rfl v s (T_X10_clockEnd a.2 (0 : Int32) s v ho)) (fun q191 => ?_)
      refine ax_j (ax_goto hV dX10_digest_194) ?_
      refine ax_jf (lv' := [some (.ref (ax_ad (cx_R, X) 0)), none, none, some (.int l3), some (.int a.2)]) [true, false, false, true, true] rfl ?_
      exact N_X10_digest_169_199 X hV l3 s P hI hO a.2 q191 ((31 : Int64) * a.1)
theorem T_X10_digest  (s : ax_S) (r : Int64 × ax_S) (h : f_X10_digest s = some r) : ax_M cx_R mu_X10_digest (fun ad => [.ref (ad 0)]) s (some (.long r.1)) r.2 := by
  refine ax_enter (by decide +kernel) 4 (fun ad => [some (.ref (ad 0)), none, none, none, none]) (fun ad => rfl) (fun ad => Nat.le_of_ble_eq_true rfl) (fun X hV ho => ?_)
  refine ax_go (fun r : Int64 × ax_S => (some (Value.long r.1), r.2)) (fun P hP => ?_) h ho
  unfold f_X10_digest
  refine ax_j (ax_ldc2 hV kc_X10_307 dX10_digest_0) ?_
  refine ax_j (ax_lstore_n hV [some (.ref (ax_ad (cx_R, X) 0)), some (.long (17 : Int64)), none, none, none] dX10_digest_3 rfl rfl) ?_
  refine ax_j (ax_iconst hV (0 : Int32) dX10_digest_4 (by decide)) ?_
  refine ax_j (ax_istore_n hV [some (.ref (ax_ad (cx_R, X) 0)), some (.long (17 : Int64)), none, some (.int (0 : Int32)), none] dX10_digest_5 rfl rfl) ?_
  refine ax_jlp ((17 : Int64), (0 : Int32)) (fun x6 : Int64 × Int32 => [some (.ref (ax_ad (cx_R, X) 0)), some (.long x6.1), none, some (.int x6.2), none]) (fun x6 : Int64 × Int32 => s) (fun y6 : Int64 => [some (.ref (ax_ad (cx_R, X) 0)), some (.long y6), none, none, none]) (fun y6 : Int64 => s) (fun P' h1 h2 w => B_X10_digest_6 X hV s P' h1 h2 w) (fun e6 => ?_)
  refine ax_j (ax_iconst hV (0 : Int32) dX10_digest_31 (by decide)) ?_
  refine ax_j (ax_istore_n hV [some (.ref (ax_ad (cx_R, X) 0)), some (.long e6), none, some (.int (0 : Int32)), none] dX10_digest_32 rfl rfl) ?_
  refine ax_jlp (e6, (0 : Int32)) (fun x33 : Int64 × Int32 => [some (.ref (ax_ad (cx_R, X) 0)), some (.long x33.1), none, some (.int x33.2), none]) (fun x33 : Int64 × Int32 => s) (fun y33 : Int64 => [some (.ref (ax_ad (cx_R, X) 0)), some (.long y33), none, none, none]) (fun y33 : Int64 => s) (fun P' h1 h2 w => B_X10_digest_33 X hV s P' h1 h2 w) (fun e33 => ?_)
  refine ax_j (ax_aload_n hV dX10_digest_78 rfl) ?_
  refine ax_jb (fun v ho => ax_cVi hV lk_X10_173 rfl dX10_digest_79 rfl rfl [] [] (fun ad => [.ref (ad 0)]) rfl rfl rfl rfl v.1 v.2 (T_X10_canAll s v ho)) (fun q79 => ?_)
  refine ax_j (ax_istore_n hV [some (.ref (ax_ad (cx_R, X) 0)), some (.long e33), none, some (.int q79.1), none] dX10_digest_82 rfl rfl) ?_
  refine ax_j (ax_ldc2 hV kc_X10_309 dX10_digest_83) ?_
  refine ax_j (ax_lload_n hV dX10_digest_86 rfl) ?_
  refine ax_j (ax_lmul hV dX10_digest_87) ?_
  refine ax_j (ax_iload_n hV dX10_digest_88 rfl) ?_
  refine ax_jif (ax_if_eq hV dX10_digest_89) ?_ ?_
  · refine ax_j (ax_iconst hV (0 : Int32) dX10_digest_96 (by decide)) ?_
    refine ax_j (ax_i2l hV dX10_digest_97) ?_
    refine ax_j (ax_ladd hV dX10_digest_98) ?_
    refine ax_j (ax_lstore_n hV [some (.ref (ax_ad (cx_R, X) 0)), some (.long (((31 : Int64) * e33) + ((0 : Int32).toInt64))), none, some (.int q79.1), none] dX10_digest_99 rfl rfl) ?_
    refine ax_j (ax_iconst hV (0 : Int32) dX10_digest_100 (by decide)) ?_
    refine ax_j (ax_istore hV [some (.ref (ax_ad (cx_R, X) 0)), some (.long (((31 : Int64) * e33) + ((0 : Int32).toInt64))), none, some (.int q79.1), some (.int (0 : Int32))] dX10_digest_101 rfl rfl) ?_
    refine ax_jlp ((((31 : Int64) * e33) + ((0 : Int32).toInt64)), (0 : Int32)) (fun x103 : Int64 × Int32 => [some (.ref (ax_ad (cx_R, X) 0)), some (.long x103.1), none, some (.int q79.1), some (.int x103.2)]) (fun x103 : Int64 × Int32 => q79.2) (fun y103 : Int64 => [some (.ref (ax_ad (cx_R, X) 0)), some (.long y103), none, some (.int q79.1), none]) (fun y103 : Int64 => q79.2) (fun P' h1 h2 w => B_X10_digest_103 X hV q79.1 q79.2 P' h1 h2 w) (fun e103 => ?_)
    refine ax_j (ax_iconst hV (0 : Int32) dX10_digest_166 (by decide)) ?_
    refine ax_j (ax_istore hV [some (.ref (ax_ad (cx_R, X) 0)), some (.long e103), none, some (.int q79.1), some (.int (0 : Int32))] dX10_digest_167 rfl rfl) ?_
    refine ax_jlp (e103, (0 : Int32)) (fun x169 : Int64 × Int32 => [some (.ref (ax_ad (cx_R, X) 0)), some (.long x169.1), none, some (.int q79.1), some (.int x169.2)]) (fun x169 : Int64 × Int32 => q79.2) (fun y169 : Int64 => [some (.ref (ax_ad (cx_R, X) 0)), some (.long y169), none, none, none]) (fun y169 : Int64 => q79.2) (fun P' h1 h2 w => B_X10_digest_169 X hV q79.1 q79.2 P' h1 h2 w) (fun e169 => ?_)
    refine ax_j (ax_ldc2 hV kc_X10_309 dX10_digest_232) ?_
    refine ax_j (ax_lload_n hV dX10_digest_235 rfl) ?_
    refine ax_j (ax_lmul hV dX10_digest_236) ?_
    refine ax_j (ax_aload_n hV dX10_digest_237 rfl) ?_
    refine ax_jb (fun v ho => ax_cVl hV lk_X10_243 rfl dX10_digest_238 rfl rfl [] [.long ((31 : Int64) * e169)] (fun ad => [.ref (ad 0)]) rfl rfl rfl rfl v.1 v.2 (T_X10_ordersNow q79.2 v ho)) (fun q238 => ?_)
    refine ax_j (ax_ladd hV dX10_digest_241) ?_
    refine ax_j (ax_lstore_n hV [some (.ref (ax_ad (cx_R, X) 0)), some (.long (((31 : Int64) * e169) + q238.1)), none, none, none] dX10_digest_242 rfl rfl) ?_
    refine ax_j (ax_ldc2 hV kc_X10_309 dX10_digest_243) ?_
    refine ax_j (ax_lload_n hV dX10_digest_246 rfl) ?_
    refine ax_j (ax_lmul hV dX10_digest_247) ?_
    refine ax_j (ax_aload_n hV dX10_digest_248 rfl) ?_
    refine ax_jb (fun v ho => ax_cVi hV lk_X10_294 rfl dX10_digest_249 rfl rfl [] [.long ((31 : Int64) * (((31 : Int64) * e169) + q238.1))] (fun ad => [.ref (ad 0)]) rfl rfl rfl rfl v.1 v.2 (T_X10_faultNow q238.2 v ho)) (fun q249 => ?_)
    refine ax_j (ax_i2l hV dX10_digest_252) ?_
    refine ax_j (ax_ladd hV dX10_digest_253) ?_
    exact ax_jl (fun h => ax_lr hV rfl dX10_digest_254 (hP ((((31 : Int64) * (((31 : Int64) * e169) + q238.1)) + q249.1.toInt64), q249.2) h))
  · refine ax_j (ax_iconst hV (1 : Int32) dX10_digest_92 (by decide)) ?_
    refine ax_j (ax_goto hV dX10_digest_93) ?_
    refine ax_j (ax_i2l hV dX10_digest_97) ?_
    refine ax_j (ax_ladd hV dX10_digest_98) ?_
    refine ax_j (ax_lstore_n hV [some (.ref (ax_ad (cx_R, X) 0)), some (.long (((31 : Int64) * e33) + ((1 : Int32).toInt64))), none, some (.int q79.1), none] dX10_digest_99 rfl rfl) ?_
    refine ax_j (ax_iconst hV (0 : Int32) dX10_digest_100 (by decide)) ?_
    refine ax_j (ax_istore hV [some (.ref (ax_ad (cx_R, X) 0)), some (.long (((31 : Int64) * e33) + ((1 : Int32).toInt64))), none, some (.int q79.1), some (.int (0 : Int32))] dX10_digest_101 rfl rfl) ?_
    refine ax_jlp ((((31 : Int64) * e33) + ((1 : Int32).toInt64)), (0 : Int32)) (fun x103 : Int64 × Int32 => [some (.ref (ax_ad (cx_R, X) 0)), some (.long x103.1), none, some (.int q79.1), some (.int x103.2)]) (fun x103 : Int64 × Int32 => q79.2) (fun y103 : Int64 => [some (.ref (ax_ad (cx_R, X) 0)), some (.long y103), none, some (.int q79.1), none]) (fun y103 : Int64 => q79.2) (fun P' h1 h2 w => B_X10_digest_103 X hV q79.1 q79.2 P' h1 h2 w) (fun e103 => ?_)
    refine ax_j (ax_iconst hV (0 : Int32) dX10_digest_166 (by decide)) ?_
    refine ax_j (ax_istore hV [some (.ref (ax_ad (cx_R, X) 0)), some (.long e103), none, some (.int q79.1), some (.int (0 : Int32))] dX10_digest_167 rfl rfl) ?_
    refine ax_jlp (e103, (0 : Int32)) (fun x169 : Int64 × Int32 => [some (.ref (ax_ad (cx_R, X) 0)), some (.long x169.1), none, some (.int q79.1), some (.int x169.2)]) (fun x169 : Int64 × Int32 => q79.2) (fun y169 : Int64 => [some (.ref (ax_ad (cx_R, X) 0)), some (.long y169), none, none, none]) (fun y169 : Int64 => q79.2) (fun P' h1 h2 w => B_X10_digest_169 X hV q79.1 q79.2 P' h1 h2 w) (fun e169 => ?_)
    refine ax_j (ax_ldc2 hV kc_X10_309 dX10_digest_232) ?_
    refine ax_j (ax_lload_n hV dX10_digest_235 rfl) ?_
    refine ax_j (ax_lmul hV dX10_digest_236) ?_
    refine ax_j (ax_aload_n hV dX10_digest_237 rfl) ?_
    refine ax_jb (fun v ho => ax_cVl hV lk_X10_243 rfl dX10_digest_238 rfl rfl [] [.long ((31 : Int64) * e169)] (fun ad => [.ref (ad 0)]) rfl rfl rfl rfl v.1 v.2 (T_X10_ordersNow q79.2 v ho)) (fun q238 => ?_)
    refine ax_j (ax_ladd hV dX10_digest_241) ?_
    refine ax_j (ax_lstore_n hV [some (.ref (ax_ad (cx_R, X) 0)), some (.long (((31 : Int64) * e169) + q238.1)), none, none, none] dX10_digest_242 rfl rfl) ?_
    refine ax_j (ax_ldc2 hV kc_X10_309 dX10_digest_243) ?_
    refine ax_j (ax_lload_n hV dX10_digest_246 rfl) ?_
    refine ax_j (ax_lmul hV dX10_digest_247) ?_
    refine ax_j (ax_aload_n hV dX10_digest_248 rfl) ?_
    refine ax_jb (fun v ho => ax_cVi hV lk_X10_294 rfl dX10_digest_249 rfl rfl [] [.long ((31 : Int64) * (((31 : Int64) * e169) + q238.1))] (fun ad => [.ref (ad 0)]) rfl rfl rfl rfl v.1 v.2 (T_X10_faultNow q238.2 v ho)) (fun q249 => ?_)
    refine ax_j (ax_i2l hV dX10_digest_252) ?_
    refine ax_j (ax_ladd hV dX10_digest_253) ?_
    exact ax_jl (fun h => ax_lr hV rfl dX10_digest_254 (hP ((((31 : Int64) * (((31 : Int64) * e169) + q238.1)) + q249.1.toInt64), q249.2) h))

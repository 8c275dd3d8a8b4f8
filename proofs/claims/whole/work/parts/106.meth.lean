def mu_X9_write : ax_Mu := (yX9_write, cX9_write, 4, some .int, 4, 97)
theorem lc_X9_write : Cond.code mu_X9_write.1 mu_X9_write.2.1 mu_X9_write.2.2.1 mu_X9_write.2.2.2.1 ∈ ax_tb := (ax_m4 137 rfl rfl)
noncomputable def b_X9_write_65 (l1 : Int32) (l2 : Int32) (a : Int32 × ax_S) : Option ((Int32 × ax_S) ⊕ (ax_S)) := (if l2 ≤ a.1 then some (.inr a.2) else (ax_idiv a.1 (2 : Int32)).bind (fun v82 => (ax_irem a.1 (2 : Int32)).bind (fun v85 => (f_X6_endOfThing v82 v85 a.2).bind (fun q86 => (f_X8_store l1 a.1 q86 a.2).bind (fun q89 => some (.inl ((a.1 + 1), q89)))))))
noncomputable def f_X9_write (p1 : Int32) (s : ax_S) : Option (Int32 × ax_S) := (f_X9_isSheet p1).bind (fun q1 => (if q1 = 0 then some (((-2 : Int32), s)) else (f_X8_isLost p1 s).bind (fun q15 => (if q15 = 0 then (f_X9_knownRows s).bind (fun q32 => (f_X6_solve q32 s).bind (fun q35 => (if q35.1 = 0 then some (((-3 : Int32), q35.2)) else (ax_ai cx_C q35.2 38 p1).bind (fun v52 => (ax_lp (b_X9_write_65 p1 (ax_min v52 ((2 : Int32) * (q35.2.1 0 10)))) ((0 : Int32), q35.2)).bind (fun e65 => some (((ax_min v52 ((2 : Int32) * (q35.2.1 0 10))), e65))))))) else (f_X9_found (1 : Int32) s).bind (fun q23 => some ((q23.1, q23.2)))))))
theorem B_X9_write_65 (X : ax_G × ax_K × Option Value × ax_S) (hV : ax_ok (cx_C, X) mu_X9_write) (l1 : Int32) (l2 : Int32) (P : ((Int32 × ax_S) ⊕ (ax_S)) → Prop) (hI : ∀ a : Int32 × ax_S, P (.inl a) → ax_At (cx_C, X) 65 [some (.ref (ax_ad (cx_C, X) 0)), some (.int l1), some (.int l2), some (.int a.1)] [] a.2) (hO : ∀ e : ax_S, P (.inr e) → ax_At (cx_C, X) 98 [none, none, some (.int l2), none] [] e) (a : Int32 × ax_S) : ax_J (cx_C, X) P 65 [some (.ref (ax_ad (cx_C, X) 0)), some (.int l1), some (.int l2), some (.int a.1)] [] a.2 (b_X9_write_65 l1 l2 a) := by
  unfold b_X9_write_65
  refine ax_j (ax_iload_n hV dX9_write_65 rfl) ?_
  refine ax_j (ax_iload_n hV dX9_write_66 rfl) ?_
  refine ax_jif (ax_icmp_ge hV dX9_write_67) ?_ ?_
  · refine ax_jf (lv' := [none, none, some (.int l2), none]) [false, false, true, false] rfl ?_
    exact ax_jl (fun h => hO a.2 h)
  · refine ax_j (ax_aload_n hV dX9_write_70 rfl) ?_
    refine ax_j (ax_gfr hV lf_X9_57 dX9_write_71 rfl rfl) ?_
    refine ax_j (ax_iload_n hV dX9_write_74 rfl) ?_
    refine ax_j (ax_iload_n hV dX9_write_75 rfl) ?_
    refine ax_j (ax_aload_n hV dX9_write_76 rfl) ?_
    refine ax_j (ax_gfr hV lf_X9_10 dX9_write_77 rfl rfl) ?_
    refine ax_j (ax_iload_n hV dX9_write_80 rfl) ?_
    refine ax_j (ax_iconst hV (2 : Int32) dX9_write_81 (by decide)) ?_
    refine ax_jb (ax_idiv_ hV dX9_write_82) (fun v82 => ?_)
    refine ax_j (ax_iload_n hV dX9_write_83 rfl) ?_
    refine ax_j (ax_iconst hV (2 : Int32) dX9_write_84 (by decide)) ?_
    refine ax_jb (ax_irem_ hV dX9_write_85) (fun v85 => ?_)
    refine ax_jb (fun v ho => ax_cVi hV lk_X9_178 rfl dX9_write_86 rfl rfl [.int v82, .int v85] [.int a.1, .int l1, .ref (ax_ad (cx_C, X) 8)] (fun ad => [.ref (ad 1), .int v82, .int v85]) rfl rfl rfl rfl v a.2 (T_X6_endOfThing v82 v85 a.2 v ho)) (fun q86 => ?_)
    refine ax_jb (fun v ho => ax_cVv hV lk_X9_314 rfl dX9_write_89 rfl rfl [.int l1, .int a.1, .int q86] [] (fun ad => [.ref (ad 8), .int l1, .int a.1, .int q86]) rfl rfl rfl rfl v (T_X8_store l1 a.1 q86 a.2 v ho)) (fun q89 => ?_)
    refine ax_j (ax_iinc hV (a.1 + 1) [some (.ref (ax_ad (cx_C, X) 0)), some (.int l1), some (.int l2), some (.int (a.1 + 1))] dX9_write_92 rfl rfl rfl rfl) ?_
    refine ax_j (ax_goto hV dX9_write_95) ?_
    exact ax_jl (fun h => hI ((a.1 + 1), q89) h)
theorem T_X9_write (p1 : Int32) (s : ax_S) (r : Int32 × ax_S) (h : f_X9_write p1 s = some r) : ax_M cx_C mu_X9_write (fun ad => [.ref (ad 0), .int p1]) s (some (.int r.1)) r.2 := by
  refine ax_enter (by decide +kernel) 2 (fun ad => [some (.ref (ad 0)), some (.int p1), none, none]) (fun ad => rfl) (fun ad => Nat.le_of_ble_eq_true rfl) (fun X hV ho => ?_)
  refine ax_go (fun r : Int32 × ax_S => (some (Value.int r.1), r.2)) (fun P hP => ?_) h ho
  unfold f_X9_write
  refine ax_j (ax_iload_n hV dX9_write_0 rfl) ?_
  refine ax_jb (fun v ho => ax_cSi hV lk_X9_107 rfl dX9_write_1 [.int p1] [] (fun ad => [.int p1]) rfl rfl rfl rfl v s (T_X9_isSheet p1 s v ho)) (fun q1 => ?_)
  refine ax_jif (ax_if_ne hV dX9_write_4) ?_ ?_
  · refine ax_j (ax_bipush hV (-2 : Int32) dX9_write_7 (by decide)) ?_
    exact ax_jl (fun h => ax_ir hV rfl dX9_write_9 (hP ((-2 : Int32), s) h))
  · refine ax_j (ax_aload_n hV dX9_write_10 rfl) ?_
    refine ax_j (ax_gfr hV lf_X9_57 dX9_write_11 rfl rfl) ?_
    refine ax_j (ax_iload_n hV dX9_write_14 rfl) ?_
    refine ax_jb (fun v ho => ax_cVi hV lk_X9_110 rfl dX9_write_15 rfl rfl [.int p1] [] (fun ad => [.ref (ad 8), .int p1]) rfl rfl rfl rfl v s (T_X8_isLost p1 s v ho)) (fun q15 => ?_)
    refine ax_jif (ax_if_eq hV dX9_write_18) ?_ ?_
    · refine ax_j (ax_aload_n hV dX9_write_27 rfl) ?_
      refine ax_j (ax_gfr hV lf_X9_10 dX9_write_28 rfl rfl) ?_
      refine ax_j (ax_aload_n hV dX9_write_31 rfl) ?_
      refine ax_jb (fun v ho => ax_cVl hV lk_X9_161 rfl dX9_write_32 rfl rfl [] [.ref (ax_ad (cx_C, X) 1)] (fun ad => [.ref (ad 0)]) rfl rfl rfl rfl v s (T_X9_knownRows s v ho)) (fun q32 => ?_)
      refine ax_jb (fun v ho => ax_cVi hV lk_X9_174 rfl dX9_write_35 rfl rfl [.long q32] [] (fun ad => [.ref (ad 1), .long q32]) rfl rfl rfl rfl v.1 v.2 (T_X6_solve q32 s v ho)) (fun q35 => ?_)
      refine ax_jif (ax_if_ne hV dX9_write_38) ?_ ?_
      · refine ax_j (ax_bipush hV (-3 : Int32) dX9_write_41 (by decide)) ?_
        exact ax_jl (fun h => ax_ir hV rfl dX9_write_43 (hP ((-3 : Int32), q35.2) h))
      · refine ax_j (ax_aload_n hV dX9_write_44 rfl) ?_
        refine ax_j (ax_gfr hV lf_X9_57 dX9_write_45 rfl rfl) ?_
        refine ax_j (ax_gfr hV lf_X9_117 dX9_write_48 rfl rfl) ?_
        refine ax_j (ax_iload_n hV dX9_write_51 rfl) ?_
        refine ax_jb (ax_iald hV dX9_write_52) (fun v52 => ?_)
        refine ax_j (ax_iconst hV (2 : Int32) dX9_write_53 (by decide)) ?_
        refine ax_j (ax_aload_n hV dX9_write_54 rfl) ?_
        refine ax_j (ax_gfi hV lf_X9_68 dX9_write_55 rfl rfl) ?_
        refine ax_j (ax_imul hV dX9_write_58) ?_
        refine ax_j (ax_mmin hV lm_X9_328 rfl dX9_write_59) ?_
        refine ax_j (ax_istore_n hV [some (.ref (ax_ad (cx_C, X) 0)), some (.int p1), some (.int (ax_min v52 ((2 : Int32) * (q35.2.1 0 10)))), none] dX9_write_62 rfl rfl) ?_
        refine ax_j (ax_iconst hV (0 : Int32) dX9_write_63 (by decide)) ?_
        refine ax_j (ax_istore_n hV [some (.ref (ax_ad (cx_C, X) 0)), some (.int p1), some (.int (ax_min v52 ((2 : Int32) * (q35.2.1 0 10)))), some (.int (0 : Int32))] dX9_write_64 rfl rfl) ?_
        refine ax_jlp ((0 : Int32), q35.2) (fun x65 : Int32 × ax_S => [some (.ref (ax_ad (cx_C, X) 0)), some (.int p1), some (.int (ax_min v52 ((2 : Int32) * (q35.2.1 0 10)))), some (.int x65.1)]) (fun x65 : Int32 × ax_S => x65.2) (fun y65 : ax_S => [none, none, some (.int (ax_min v52 ((2 : Int32) * (q35.2.1 0 10)))), none]) (fun y65 : ax_S => y65) (fun P' h1 h2 w => B_X9_write_65 X hV p1 (ax_min v52 ((2 : Int32) * (q35.2.1 0 10))) P' h1 h2 w) (fun e65 => ?_)
        refine ax_j (ax_iload_n hV dX9_write_98 rfl) ?_
        exact ax_jl (fun h => ax_ir hV rfl dX9_write_99 (hP ((ax_min v52 ((2 : Int32) * (q35.2.1 0 10))), e65) h))
    · refine ax_j (ax_aload_n hV dX9_write_21 rfl) ?_
      refine ax_j (ax_iconst hV (1 : Int32) dX9_write_22 (by decide)) ?_
      refine ax_jb (fun v ho => ax_cVi hV lk_X9_113 rfl dX9_write_23 rfl rfl [.int (1 : Int32)] [] (fun ad => [.ref (ad 0), .int (1 : Int32)]) rfl rfl rfl rfl v.1 v.2 (T_X9_found (1 : Int32) s v ho)) (fun q23 => ?_)
      exact ax_jl (fun h => ax_ir hV rfl dX9_write_26 (hP (q23.1, q23.2) h))
def mu_X9_count : ax_Mu := (yX9_count, cX9_count, 2, some .int, 3, 66)
theorem lc_X9_count : Cond.code mu_X9_count.1 mu_X9_count.2.1 mu_X9_count.2.2.1 mu_X9_count.2.2.2.1 ∈ ax_tb := (ax_m4 141 rfl rfl)
noncomputable def f_X9_count (p1 : Int32) (s : ax_S) : Option (Int32) := (if p1 = 0 then some ((s.1 0 8)) else (if p1 = 1 then some ((s.1 0 10)) else (if p1 = 2 then some ((s.1 3 3)) else (if p1 = 3 then some ((s.1 2 7)) else (if p1 = 4 then (f_X9_knownRows s).bind (fun q79 => (f_J13_bitCount_95d88 q79).bind (fun q82 => some (q82))) else (if p1 = 5 then (f_X9_knownRows s).bind (fun q91 => (f_X7_howManyOn q91 s).bind (fun q94 => some (q94))) else (if p1 = 6 then (f_X0_trustTogether s).bind (fun q102 => some (q102)) else (if p1 = 7 then some ((s.1 7 1)) else (if p1 = 8 then some ((s.1 0 11)) else some ((-2 : Int32)))))))))))
theorem T_X9_count (p1 : Int32) (s : ax_S) (r : Int32) (h : f_X9_count p1 s = some r) : ax_M cx_C mu_X9_count (fun ad => [.ref (ad 0), .int p1]) s (some (.int r)) s := by
  refine ax_enter (by decide +kernel) 0 (fun ad => [some (.ref (ad 0)), some (.int p1)]) (fun ad => rfl) (fun ad => Nat.le_of_ble_eq_true rfl) (fun X hV ho => ?_)
  refine ax_go (fun r : Int32 => (some (Value.int r), s)) (fun P hP => ?_) h ho
  unfold f_X9_count
  refine ax_j (ax_iload_n hV dX9_count_0 rfl) ?_
  refine ax_jc (fun h1_0 => ?_) (fun h1_0 => ?_)
  · refine ax_j (ax_tsw (tgt := 52) hV 0 h1_0 dX9_count_1 rfl (by decide) (by decide) (by decide)) ?_
    refine ax_j (ax_aload_n hV dX9_count_52 rfl) ?_
    refine ax_j (ax_gfi hV lf_X9_61 dX9_count_53 rfl rfl) ?_
    exact ax_jl (fun h => ax_ir hV rfl dX9_count_56 (hP (s.1 0 8) h))
  · refine ax_jc (fun h1_1 => ?_) (fun h1_1 => ?_)
    · refine ax_j (ax_tsw (tgt := 57) hV 1 h1_1 dX9_count_1 rfl (by decide) (by decide) (by decide)) ?_
      refine ax_j (ax_aload_n hV dX9_count_57 rfl) ?_
      refine ax_j (ax_gfi hV lf_X9_68 dX9_count_58 rfl rfl) ?_
      exact ax_jl (fun h => ax_ir hV rfl dX9_count_61 (hP (s.1 0 10) h))
    · refine ax_jc (fun h1_2 => ?_) (fun h1_2 => ?_)
      · refine ax_j (ax_tsw (tgt := 62) hV 2 h1_2 dX9_count_1 rfl (by decide) (by decide) (by decide)) ?_
        refine ax_j (ax_aload_n hV dX9_count_62 rfl) ?_
        refine ax_j (ax_gfr hV lf_X9_20 dX9_count_63 rfl rfl) ?_
        refine ax_j (ax_gfi hV lf_X9_333 dX9_count_66 rfl rfl) ?_
        exact ax_jl (fun h => ax_ir hV rfl dX9_count_69 (hP (s.1 3 3) h))
      · refine ax_jc (fun h1_3 => ?_) (fun h1_3 => ?_)
        · refine ax_j (ax_tsw (tgt := 70) hV 3 h1_3 dX9_count_1 rfl (by decide) (by decide) (by decide)) ?_
          refine ax_j (ax_aload_n hV dX9_count_70 rfl) ?_
          refine ax_j (ax_gfr hV lf_X9_25 dX9_count_71 rfl rfl) ?_
          refine ax_j (ax_gfi hV lf_X9_159 dX9_count_74 rfl rfl) ?_
          exact ax_jl (fun h => ax_ir hV rfl dX9_count_77 (hP (s.1 2 7) h))
        · refine ax_jc (fun h1_4 => ?_) (fun h1_4 => ?_)
          · refine ax_j (ax_tsw (tgt := 78) hV 4 h1_4 dX9_count_1 rfl (by decide) (by decide) (by decide)) ?_
            refine ax_j (ax_aload_n hV dX9_count_78 rfl) ?_
            refine ax_jb (fun v ho => ax_cVl hV lk_X9_161 rfl dX9_count_79 rfl rfl [] [] (fun ad => [.ref (ad 0)]) rfl rfl rfl rfl v s (T_X9_knownRows s v ho)) (fun q79 => ?_)
            refine ax_jb (fun v ho => ax_cSi hV lk_X9_334 rfl dX9_count_82 [.long q79] [] (fun ad => [.long q79]) rfl rfl rfl rfl v s (T_J13_bitCount_95d88 q79 s v ho)) (fun q82 => ?_)
            exact ax_jl (fun h => ax_ir hV rfl dX9_count_85 (hP q82 h))
          · refine ax_jc (fun h1_5 => ?_) (fun h1_5 => ?_)
            · refine ax_j (ax_tsw (tgt := 86) hV 5 h1_5 dX9_count_1 rfl (by decide) (by decide) (by decide)) ?_
              refine ax_j (ax_aload_n hV dX9_count_86 rfl) ?_
              refine ax_j (ax_gfr hV lf_X9_25 dX9_count_87 rfl rfl) ?_
              refine ax_j (ax_aload_n hV dX9_count_90 rfl) ?_
              refine ax_jb (fun v ho => ax_cVl hV lk_X9_161 rfl dX9_count_91 rfl rfl [] [.ref (ax_ad (cx_C, X) 2)] (fun ad => [.ref (ad 0)]) rfl rfl rfl rfl v s (T_X9_knownRows s v ho)) (fun q91 => ?_)
              refine ax_jb (fun v ho => ax_cVi hV lk_X9_339 rfl dX9_count_94 rfl rfl [.long q91] [] (fun ad => [.ref (ad 2), .long q91]) rfl rfl rfl rfl v s (T_X7_howManyOn q91 s v ho)) (fun q94 => ?_)
              exact ax_jl (fun h => ax_ir hV rfl dX9_count_97 (hP q94 h))
            · refine ax_jc (fun h1_6 => ?_) (fun h1_6 => ?_)
              · refine ax_j (ax_tsw (tgt := 98) hV 6 h1_6 dX9_count_1 rfl (by decide) (by decide) (by decide)) ?_
                refine ax_j (ax_aload_n hV dX9_count_98 rfl) ?_
                refine ax_j (ax_gfr hV lf_X9_20 dX9_count_99 rfl rfl) ?_
                refine ax_jb (fun v ho => ax_cVi hV lk_X9_342 rfl dX9_count_102 rfl rfl [] [] (fun ad => [.ref (ad 3)]) rfl rfl rfl rfl v s (T_X0_trustTogether s v ho)) (fun q102 => ?_)
                exact ax_jl (fun h => ax_ir hV rfl dX9_count_105 (hP q102 h))
              · refine ax_jc (fun h1_7 => ?_) (fun h1_7 => ?_)
                · refine ax_j (ax_tsw (tgt := 106) hV 7 h1_7 dX9_count_1 rfl (by decide) (by decide) (by decide)) ?_
                  refine ax_j (ax_aload_n hV dX9_count_106 rfl) ?_
                  refine ax_j (ax_gfr hV lf_X9_50 dX9_count_107 rfl rfl) ?_
                  refine ax_j (ax_gfi hV lf_X9_289 dX9_count_110 rfl rfl) ?_
                  exact ax_jl (fun h => ax_ir hV rfl dX9_count_113 (hP (s.1 7 1) h))
                · refine ax_jc (fun h1_8 => ?_) (fun h1_8 => ?_)
                  · refine ax_j (ax_tsw (tgt := 114) hV 8 h1_8 dX9_count_1 rfl (by decide) (by decide) (by decide)) ?_
                    refine ax_j (ax_aload_n hV dX9_count_114 rfl) ?_
                    refine ax_j (ax_gfi hV lf_X9_71 dX9_count_115 rfl rfl) ?_
                    exact ax_jl (fun h => ax_ir hV rfl dX9_count_118 (hP (s.1 0 11) h))
                  · refine ax_j (ax_tswd (tgt := 119) hV (ax_nk_s (ax_nk_s (ax_nk_s (ax_nk_s (ax_nk_s (ax_nk_s (ax_nk_s (ax_nk_s (ax_nk_s ax_nk_0 h1_0) h1_1) h1_2) h1_3) h1_4) h1_5) h1_6) h1_7) h1_8) dX9_count_1 (by decide) (by decide)) ?_
                    refine ax_j (ax_bipush hV (-2 : Int32) dX9_count_119 (by decide)) ?_
                    exact ax_jl (fun h => ax_ir hV rfl dX9_count_121 (hP (-2 : Int32) h))
theorem lk_X9_349 : ax_lkV RX9 349 mu_X9_count RX9 1 := ax_lkV_of (ax_m4 156 rfl rfl) (ax_m4 139 rfl rfl) (ax_m4 140 rfl rfl) (ax_m1 1 rfl rfl) lc_X9_count rfl ⟨by decide +kernel, by decide +kernel, by decide +kernel⟩
def mu_X9_digestSpans : ax_Mu := (yX9_digestSpans, cX9_digestSpans, 7, some .long, 4, 97)
theorem lc_X9_digestSpans : Cond.code mu_X9_digestSpans.1 mu_X9_digestSpans.2.1 mu_X9_digestSpans.2.2.1 mu_X9_digestSpans.2.2.2.1 ∈ ax_tb := (ax_m4 161 rfl rfl)
noncomputable def b_X9_digestSpans_28 (l3 : Int32) (s : ax_S) (a : Int64 × Int32) : Option ((Int64 × Int32) ⊕ (Int64)) := (if ((2 : Int32) * (s.1 0 10)) ≤ a.2 then some (.inr a.1) else (if l3 = 0 then some (.inl ((((31 : Int64) * a.1) + ((-300001 : Int32).toInt64)), (a.2 + 1))) else (ax_idiv a.2 (2 : Int32)).bind (fun v56 => (ax_irem a.2 (2 : Int32)).bind (fun v60 => (f_X6_endOfThing v56 v60 s).bind (fun q61 => some (.inl ((((31 : Int64) * a.1) + q61.toInt64), (a.2 + 1))))))))
noncomputable def b_X9_digestSpans_82 (l3 : Int32) (s : ax_S) (a : Int64 × Int32) : Option ((Int64 × Int32) ⊕ (Int64)) := (if ((2 : Int32) * (s.1 3 3)) ≤ a.2 then some (.inr a.1) else (if l3 = 0 then some (.inl ((((31 : Int64) * a.1) + ((-300001 : Int32).toInt64)), (a.2 + 1))) else (ax_idiv a.2 (2 : Int32)).bind (fun v113 => (ax_irem a.2 (2 : Int32)).bind (fun v117 => (f_X6_endOfClock v113 v117 s).bind (fun q118 => some (.inl ((((31 : Int64) * a.1) + q118.toInt64), (a.2 + 1))))))))
noncomputable def f_X9_digestSpans (p1 : Int64) (s : ax_S) : Option (Int64 × ax_S) := (f_X9_knownRows s).bind (fun q5 => (f_X6_solve q5 s).bind (fun q8 => (f_X9_oneIf q8.1).bind (fun q18 => (ax_lp (b_X9_digestSpans_28 q8.1 q8.2) ((((31 : Int64) * p1) + q18.toInt64), (0 : Int32))).bind (fun e28 => (ax_lp (b_X9_digestSpans_82 q8.1 q8.2) (e28, (0 : Int32))).bind (fun e82 => some ((e82, q8.2)))))))
theorem B_X9_digestSpans_28 (X : ax_G × ax_K × Option Value × ax_S) (hV : ax_ok (cx_C, X) mu_X9_digestSpans) (l3 : Int32) (s : ax_S) (P : ((Int64 × Int32) ⊕ (Int64)) → Prop) (hI : ∀ a : Int64 × Int32, P (.inl a) → ax_At (cx_C, X) 28 [some (.ref (ax_ad (cx_C, X) 0)), none, none, some (.int l3), some (.long a.1), none, some (.int a.2)] [] s) (hO : ∀ e : Int64, P (.inr e) → ax_At (cx_C, X) 79 [some (.ref (ax_ad (cx_C, X) 0)), none, none, some (.int l3), some (.long e), none, none] [] s) (a : Int64 × Int32) : ax_J (cx_C, X) P 28 [some (.ref (ax_ad (cx_C, X) 0)), none, none, some (.int l3), some (.long a.1), none, some (.int a.2)] [] s (b_X9_digestSpans_28 l3 s a) := by
  unfold b_X9_digestSpans_28
  refine ax_j (ax_iload hV dX9_digestSpans_28 rfl) ?_
  refine ax_j (ax_iconst hV (2 : Int32) dX9_digestSpans_30 (by decide)) ?_
  refine ax_j (ax_aload_n hV dX9_digestSpans_31 rfl) ?_
  refine ax_j (ax_gfi hV lf_X9_68 dX9_digestSpans_32 rfl rfl) ?_
  refine ax_j (ax_imul hV dX9_digestSpans_35) ?_
  refine ax_jif (ax_icmp_ge hV dX9_digestSpans_36) ?_ ?_
  · refine ax_jf (lv' := [some (.ref (ax_ad (cx_C, X) 0)), none, none, some (.int l3), some (.long a.1), none, none]) [true, false, false, true, true, false, false] rfl ?_
    exact ax_jl (fun h => hO a.1 h)
  · refine ax_j (ax_ldc2 hV kc_X9_347 dX9_digestSpans_39) ?_
    refine ax_j (ax_lload hV dX9_digestSpans_42 rfl) ?_
    refine ax_j (ax_lmul hV dX9_digestSpans_44) ?_
    refine ax_j (ax_iload_n hV dX9_digestSpans_45 rfl) ?_
    refine ax_jif (ax_if_eq hV dX9_digestSpans_46) ?_ ?_
    · refine ax_j (ax_ldc hV kc_X9_177 dX9_digestSpans_67) ?_
      refine ax_j (ax_i2l hV dX9_digestSpans_69) ?_
      refine ax_j (ax_ladd hV dX9_digestSpans_70) ?_
      refine ax_j (ax_lstore hV [some (.ref (ax_ad (cx_C, X) 0)), none, none, some (.int l3), some (.long (((31 : Int64) * a.1) + ((-300001 : Int32).toInt64))), none, some (.int a.2)] dX9_digestSpans_71 rfl rfl) ?_
      refine ax_j (ax_iinc hV (a.2 + 1) [some (.ref (ax_ad (cx_C, X) 0)), none, none, some (.int l3), some (.long (((31 : Int64) * a.1) + ((-300001 : Int32).toInt64))), none, some (.int (a.2 + 1))] dX9_digestSpans_73 rfl rfl rfl rfl) ?_
      refine ax_j (ax_goto hV dX9_digestSpans_76) ?_
      exact ax_jl (fun h => hI ((((31 : Int64) * a.1) + ((-300001 : Int32).toInt64)), (a.2 + 1)) h)
    · refine ax_j (ax_aload_n hV dX9_digestSpans_49 rfl) ?_
      refine ax_j (ax_gfr hV lf_X9_10 dX9_digestSpans_50 rfl rfl) ?_
      refine ax_j (ax_iload hV dX9_digestSpans_53 rfl) ?_
      refine ax_j (ax_iconst hV (2 : Int32) dX9_digestSpans_55 (by decide)) ?_
      refine ax_jb (ax_idiv_ hV dX9_digestSpans_56) (fun v56 => ?_)
      refine ax_j (ax_iload hV dX9_digestSpans_57 rfl) ?_
      refine ax_j (ax_iconst hV (2 : Int32) dX9_digestSpans_59 (by decide)) ?_
      refine ax_jb (ax_irem_ hV dX9_digestSpans_60) (fun v60 => ?_)
      refine ax_jb (fun v ho => ax_cVi hV lk_X9_178 rfl dX9_digestSpans_61 rfl rfl [.int v56, .int v60] [.long ((31 : Int64) * a.1)] (fun ad => [.ref (ad 1), .int v56, .int v60]) rfl rfl rfl rfl v s (T_X6_endOfThing v56 v60 s v ho)) (fun q61 => ?_)
      refine ax_j (ax_goto hV dX9_digestSpans_64) ?_
      refine ax_j (ax_i2l hV dX9_digestSpans_69) ?_
      refine ax_j (ax_ladd hV dX9_digestSpans_70) ?_
      refine ax_j (ax_lstore hV [some (.ref (ax_ad (cx_C, X) 0)), none, none, some (.int l3), some (.long (((31 : Int64) * a.1) + q61.toInt64)), none, some (.int a.2)] dX9_digestSpans_71 rfl rfl) ?_
      refine ax_j (ax_iinc hV (a.2 + 1) [some (.ref (ax_ad (cx_C, X) 0)), none, none, some (.int l3), some (.long (((31 : Int64) * a.1) + q61.toInt64)), none, some (.int (a.2 + 1))] dX9_digestSpans_73 rfl rfl rfl rfl) ?_
      refine ax_j (ax_goto hV dX9_digestSpans_76) ?_
      exact ax_jl (fun h => hI ((((31 : Int64) * a.1) + q61.toInt64), (a.2 + 1)) h)
theorem B_X9_digestSpans_82 (X : ax_G × ax_K × Option Value × ax_S) (hV : ax_ok (cx_C, X) mu_X9_digestSpans) (l3 : Int32) (s : ax_S) (P : ((Int64 × Int32) ⊕ (Int64)) → Prop) (hI : ∀ a : Int64 × Int32, P (.inl a) → ax_At (cx_C, X) 82 [some (.ref (ax_ad (cx_C, X) 0)), none, none, some (.int l3), some (.long a.1), none, some (.int a.2)] [] s) (hO : ∀ e : Int64, P (.inr e) → ax_At (cx_C, X) 136 [none, none, none, none, some (.long e), none, none] [] s) (a : Int64 × Int32) : ax_J (cx_C, X) P 82 [some (.ref (ax_ad (cx_C, X) 0)), none, none, some (.int l3), some (.long a.1), none, some (.int a.2)] [] s (b_X9_digestSpans_82 l3 s a) := by
  unfold b_X9_digestSpans_82
  refine ax_j (ax_iload hV dX9_digestSpans_82 rfl) ?_
  refine ax_j (ax_iconst hV (2 : Int32) dX9_digestSpans_84 (by decide)) ?_
  refine ax_j (ax_aload_n hV dX9_digestSpans_85 rfl) ?_
  refine ax_j (ax_gfr hV lf_X9_20 dX9_digestSpans_86 rfl rfl) ?_
  refine ax_j (ax_gfi hV lf_X9_333 dX9_digestSpans_89 rfl rfl) ?_
  refine ax_j (ax_imul hV dX9_digestSpans_92) ?_
  refine ax_jif (ax_icmp_ge hV dX9_digestSpans_93) ?_ ?_
  · refine ax_jf (lv' := [none, none, none, none, some (.long a.1), none, none]) [false, false, false, false, true, false, false] rfl ?_
    exact ax_jl (fun h => hO a.1 h)
  · refine ax_j (ax_ldc2 hV kc_X9_347 dX9_digestSpans_96) ?_
    refine ax_j (ax_lload hV dX9_digestSpans_99 rfl) ?_
    refine ax_j (ax_lmul hV dX9_digestSpans_101) ?_
    refine ax_j (ax_iload_n hV dX9_digestSpans_102 rfl) ?_
    refine ax_jif (ax_if_eq hV dX9_digestSpans_103) ?_ ?_
    · refine ax_j (ax_ldc hV kc_X9_177 dX9_digestSpans_124) ?_
      refine ax_j (ax_i2l hV dX9_digestSpans_126) ?_
      refine ax_j (ax_ladd hV dX9_digestSpans_127) ?_
      refine ax_j (ax_lstore hV [some (.ref (ax_ad (cx_C, X) 0)), none, none, some (.int l3), some (.long (((31 : Int64) * a.1) + ((-300001 : Int32).toInt64))), none, some (.int a.2)] dX9_digestSpans_128 rfl rfl) ?_
      refine ax_j (ax_iinc hV (a.2 + 1) [some (.ref (ax_ad (cx_C, X) 0)), none, none, some (.int l3), some (.long (((31 : Int64) * a.1) + ((-300001 : Int32).toInt64))), none, some (.int (a.2 + 1))] dX9_digestSpans_130 rfl rfl rfl rfl) ?_
      refine ax_j (ax_goto hV dX9_digestSpans_133) ?_
      exact ax_jl (fun h => hI ((((31 : Int64) * a.1) + ((-300001 : Int32).toInt64)), (a.2 + 1)) h)
    · refine ax_j (ax_aload_n hV dX9_digestSpans_106 rfl) ?_
      refine ax_j (ax_gfr hV lf_X9_10 dX9_digestSpans_107 rfl rfl) ?_
      refine ax_j (ax_iload hV dX9_digestSpans_110 rfl) ?_
      refine ax_j (ax_iconst hV (2 : Int32) dX9_digestSpans_112 (by decide)) ?_
      refine ax_jb (ax_idiv_ hV dX9_digestSpans_113) (fun v113 => ?_)
      refine ax_j (ax_iload hV dX9_digestSpans_114 rfl) ?_
      refine ax_j (ax_iconst hV (2 : Int32) dX9_digestSpans_116 (by decide)) ?_
      refine ax_jb (ax_irem_ hV dX9_digestSpans_117) (fun v117 => ?_)
      refine ax_jb (fun v ho => ax_cVi hV lk_X9_181 rfl dX9_digestSpans_118 rfl rfl [.int v113, .int v117] [.long ((31 : Int64) * a.1)] (fun ad => [.ref (ad 1), .int v113, .int v117]) rfl rfl rfl rfl v s (T_X6_endOfClock v113 v117 s v ho)) (fun q118 => ?_)
      refine ax_j (ax_goto hV dX9_digestSpans_121) ?_
      refine ax_j (ax_i2l hV dX9_digestSpans_126) ?_
      refine ax_j (ax_ladd hV dX9_digestSpans_127) ?_
      refine ax_j (ax_lstore hV [some (.ref (ax_ad (cx_C, X) 0)), none, none, some (.int l3), some (.long (((31 : Int64) * a.1) + q118.toInt64)), none, some (.int a.2)] dX9_digestSpans_128 rfl rfl) ?_
      refine ax_j (ax_iinc hV (a.2 + 1) [some (.ref (ax_ad (cx_C, X) 0)), none, none, some (.int l3), some (.long (((31 : Int64) * a.1) + q118.toInt64)), none, some (.int (a.2 + 1))] dX9_digestSpans_130 rfl rfl rfl rfl) ?_
      refine ax_j (ax_goto hV dX9_digestSpans_133) ?_
      exact ax_jl (fun h => hI ((((31 : Int64) * a.1) + q118.toInt64), (a.2 + 1)) h)
theorem T_X9_digestSpans (p1 : Int64) (s : ax_S) (r : Int64 × ax_S) (h : f_X9_digestSpans p1 s = some r) : ax_M cx_C mu_X9_digestSpans (fun ad => [.ref (ad 0), .long p1]) s (some (.long r.1)) r.2 := by
  refine ax_enter (by decide +kernel) 4 (fun ad => [some (.ref (ad 0)), some (.long p1), none, none, none, none, none]) (fun ad => rfl) (fun ad => Nat.le_of_ble_eq_true rfl) (fun X hV ho => ?_)
  refine ax_go (fun r : Int64 × ax_S => (some (Value.long r.1), r.2)) (fun P hP => ?_) h ho
  unfold f_X9_digestSpans
  refine ax_j (ax_aload_n hV dX9_digestSpans_0 rfl) ?_
  refine ax_j (ax_gfr hV lf_X9_10 dX9_digestSpans_1 rfl rfl) ?_
  refine ax_j (ax_aload_n hV dX9_digestSpans_4 rfl) ?_
  refine ax_jb (fun v ho => ax_cVl hV lk_X9_161 rfl dX9_digestSpans_5 rfl rfl [] [.ref (ax_ad (cx_C, X) 1)] (fun ad => [.ref (ad 0)]) rfl rfl rfl rfl v s (T_X9_knownRows s v ho)) (fun q5 => ?_)
  refine ax_jb (fun v ho => ax_cVi hV lk_X9_174 rfl dX9_digestSpans_8 rfl rfl [.long q5] [] (fun ad => [.ref (ad 1), .long q5]) rfl rfl rfl rfl v.1 v.2 (T_X6_solve q5 s v ho)) (fun q8 => ?_)
  refine ax_j (ax_istore_n hV [some (.ref (ax_ad (cx_C, X) 0)), some (.long p1), none, some (.int q8.1), none, none, none] dX9_digestSpans_11 rfl rfl) ?_
  refine ax_j (ax_ldc2 hV kc_X9_347 dX9_digestSpans_12) ?_
  refine ax_j (ax_lload_n hV dX9_digestSpans_15 rfl) ?_
  refine ax_j (ax_lmul hV dX9_digestSpans_16) ?_
  refine ax_j (ax_iload_n hV dX9_digestSpans_17 rfl) ?_
  refine ax_jb (fun v ho => ax_cSi hV lk_X9_155 rfl dX9_digestSpans_18 [.int q8.1] [.long ((31 : Int64) * p1)] (fun ad => [.int q8.1]) rfl rfl rfl rfl v q8.2 (T_X9_oneIf q8.1 q8.2 v ho)) (fun q18 => ?_)
  refine ax_j (ax_i2l hV dX9_digestSpans_21) ?_
  refine ax_j (ax_ladd hV dX9_digestSpans_22) ?_
  refine ax_j (ax_lstore hV [some (.ref (ax_ad (cx_C, X) 0)), some (.long p1), none, some (.int q8.1), some (.long (((31 : Int64) * p1) + q18.toInt64)), none, none] dX9_digestSpans_23 rfl rfl) ?_
  refine ax_j (ax_iconst hV (0 : Int32) dX9_digestSpans_25 (by decide)) ?_
  refine ax_j (ax_istore hV [some (.ref (ax_ad (cx_C, X) 0)), some (.long p1), none, some (.int q8.1), some (.long (((31 : Int64) * p1) + q18.toInt64)), none, some (.int (0 : Int32))] dX9_digestSpans_26 rfl rfl) ?_
  refine ax_jf (lv' := [some (.ref (ax_ad (cx_C, X) 0)), none, none, some (.int q8.1), some (.long (((31 : Int64) * p1) + q18.toInt64)), none, some (.int (0 : Int32))]) [true, false, false, true, true, false, true] rfl ?_
  refine ax_jlp ((((31 : Int64) * p1) + q18.toInt64), (0 : Int32)) (fun x28 : Int64 × Int32 => [some (.ref (ax_ad (cx_C, X) 0)), none, none, some (.int q8.1), some (.long x28.1), none, some (.int x28.2)]) (fun x28 : Int64 × Int32 => q8.2) (fun y28 : Int64 => [some (.ref (ax_ad (cx_C, X) 0)), none, none, some (.int q8.1), some (.long y28), none, none]) (fun y28 : Int64 => q8.2) (fun P' h1 h2 w => B_X9_digestSpans_28 X hV q8.1 q8.2 P' h1 h2 w) (fun e28 => ?_)
  refine ax_j (ax_iconst hV (0 : Int32) dX9_digestSpans_79 (by decide)) ?_
  refine ax_j (ax_istore hV [some (.ref (ax_ad (cx_C, X) 0)), none, none, some (.int q8.1), some (.long e28), none, some (.int (0 : Int32))] dX9_digestSpans_80 rfl rfl) ?_
  refine ax_jlp (e28, (0 : Int32)) (fun x82 : Int64 × Int32 => [some (.ref (ax_ad (cx_C, X) 0)), none, none, some (.int q8.1), some (.long x82.1), none, some (.int x82.2)]) (fun x82 : Int64 × Int32 => q8.2) (fun y82 : Int64 => [none, none, none, none, some (.long y82), none, none]) (fun y82 : Int64 => q8.2) (fun P' h1 h2 w => B_X9_digestSpans_82 X hV q8.1 q8.2 P' h1 h2 w) (fun e82 => ?_)
  refine ax_j (ax_lload hV dX9_digestSpans_136 rfl) ?_
  exact ax_jl (fun h => ax_lr hV rfl dX9_digestSpans_138 (hP (e82, q8.2) h))
theorem lk_X9_355 : ax_lkV RX9 355 mu_X9_digestSpans RX9 1 := ax_lkV_of (ax_m4 158 rfl rfl) (ax_m4 160 rfl rfl) (ax_mp3 5 rfl rfl rfl) (ax_m1 1 rfl rfl) lc_X9_digestSpans rfl ⟨by decide +kernel, by decide +kernel, by decide +kernel⟩
def mu_X9_digest : ax_Mu := (yX9_digest, cX9_digest, 5, some .long, 6, 139)
theorem lc_X9_digest : Cond.code mu_X9_digest.1 mu_X9_digest.2.1 mu_X9_digest.2.2.1 mu_X9_digest.2.2.2.1 ∈ ax_tb := (ax_m4 153 rfl rfl)
noncomputable def b_X9_digest_6 (s : ax_S) (a : Int64 × Int32) : Option ((Int64 × Int32) ⊕ (Int64)) := (if (7 : Int32) < a.2 then some (.inr a.1) else (f_X9_count a.2 s).bind (fun q19 => some (.inl ((((31 : Int64) * a.1) + q19.toInt64), (a.2 + 1)))))
noncomputable def b_X9_digest_47 (l3 : Int32) (s : ax_S) (a : Int64 × Int32) : Option ((Int64 × Int32) ⊕ (Int64)) := (if (7 : Int32) < a.2 then some (.inr a.1) else (f_X9_about l3 a.2 s).bind (fun q63 => some (.inl ((((31 : Int64) * a.1) + q63.toInt64), (a.2 + 1)))))
noncomputable def b_X9_digest_33 (s : ax_S) (a : Int64 × Int32) : Option ((Int64 × Int32) ⊕ (Int64)) := (if (s.1 2 7) ≤ a.2 then some (.inr a.1) else (ax_lp (b_X9_digest_47 a.2 s) (a.1, (0 : Int32))).bind (fun e47 => some (.inl (e47, (a.2 + 1)))))
noncomputable def f_X9_digest  (s : ax_S) : Option (Int64 × ax_S) := (ax_lp (b_X9_digest_6 s) ((17 : Int64), (0 : Int32))).bind (fun e6 => (ax_lp (b_X9_digest_33 s) (e6, (0 : Int32))).bind (fun e33 => (f_X9_digestSpans e33 s).bind (fun q83 => (f_X9_orders q83.2).bind (fun q93 => (f_X2_findFault q93.2).bind (fun q107 => some (((((31 : Int64) * (((31 : Int64) * q83.1) + q93.1)) + q107.1.toInt64), q107.2)))))))
theorem B_X9_digest_6 (X : ax_G × ax_K × Option Value × ax_S) (hV : ax_ok (cx_C, X) mu_X9_digest) (s : ax_S) (P : ((Int64 × Int32) ⊕ (Int64)) → Prop) (hI : ∀ a : Int64 × Int32, P (.inl a) → ax_At (cx_C, X) 6 [some (.ref (ax_ad (cx_C, X) 0)), some (.long a.1), none, some (.int a.2), none] [] s) (hO : ∀ e : Int64, P (.inr e) → ax_At (cx_C, X) 31 [some (.ref (ax_ad (cx_C, X) 0)), some (.long e), none, none, none] [] s) (a : Int64 × Int32) : ax_J (cx_C, X) P 6 [some (.ref (ax_ad (cx_C, X) 0)), some (.long a.1), none, some (.int a.2), none] [] s (b_X9_digest_6 s a) := by
  unfold b_X9_digest_6
  refine ax_j (ax_iload_n hV dX9_digest_6 rfl) ?_
  refine ax_j (ax_bipush hV (7 : Int32) dX9_digest_7 (by decide)) ?_
  refine ax_jif (ax_icmp_gt hV dX9_digest_9) ?_ ?_
  · refine ax_jf (lv' := [some (.ref (ax_ad (cx_C, X) 0)), some (.long a.1), none, none, none]) [true, true, false, false, false] rfl ?_
    exact ax_jl (fun h => hO a.1 h)
  · refine ax_j (ax_ldc2 hV kc_X9_347 dX9_digest_12) ?_
    refine ax_j (ax_lload_n hV dX9_digest_15 rfl) ?_
    refine ax_j (ax_lmul hV dX9_digest_16) ?_
    refine ax_j (ax_aload_n hV dX9_digest_17 rfl) ?_
    refine ax_j (ax_iload_n hV dX9_digest_18 rfl) ?_
    refine ax_jb (fun v ho => ax_cVi hV lk_X9_349 rfl dX9_digest_19 rfl rfl [.int a.2] [.long ((31 : Int64) * a.1)] (fun ad => [.ref (ad 0), .int a.2]) rfl rfl rfl rfl v s (T_X9_count a.2 s v ho)) (fun q19 => ?_)
    refine ax_j (ax_i2l hV dX9_digest_22) ?_
    refine ax_j (ax_ladd hV dX9_digest_23) ?_
    refine ax_j (ax_lstore_n hV [some (.ref (ax_ad (cx_C, X) 0)), some (.long (((31 : Int64) * a.1) + q19.toInt64)), none, some (.int a.2), none] dX9_digest_24 rfl rfl) ?_
    refine ax_j (ax_iinc hV (a.2 + 1) [some (.ref (ax_ad (cx_C, X) 0)), some (.long (((31 : Int64) * a.1) + q19.toInt64)), none, some (.int (a.2 + 1)), none] dX9_digest_25 rfl rfl rfl rfl) ?_
    refine ax_j (ax_goto hV dX9_digest_28) ?_
    exact ax_jl (fun h => hI ((((31 : Int64) * a.1) + q19.toInt64), (a.2 + 1)) h)
theorem B_X9_digest_47 (X : ax_G × ax_K × Option Value × ax_S) (hV : ax_ok (cx_C, X) mu_X9_digest) (l3 : Int32) (s : ax_S) (P : ((Int64 × Int32) ⊕ (Int64)) → Prop) (hI : ∀ a : Int64 × Int32, P (.inl a) → ax_At (cx_C, X) 47 [some (.ref (ax_ad (cx_C, X) 0)), some (.long a.1), none, some (.int l3), some (.int a.2)] [] s) (hO : ∀ e : Int64, P (.inr e) → ax_At (cx_C, X) 75 [some (.ref (ax_ad (cx_C, X) 0)), some (.long e), none, some (.int l3), none] [] s) (a : Int64 × Int32) : ax_J (cx_C, X) P 47 [some (.ref (ax_ad (cx_C, X) 0)), some (.long a.1), none, some (.int l3), some (.int a.2)] [] s (b_X9_digest_47 l3 s a) := by
  unfold b_X9_digest_47
  refine ax_j (ax_iload hV dX9_digest_47 rfl) ?_
  refine ax_j (ax_bipush hV (7 : Int32) dX9_digest_49 (by decide)) ?_
  refine ax_jif (ax_icmp_gt hV dX9_digest_51) ?_ ?_
  · refine ax_jf (lv' := [some (.ref (ax_ad (cx_C, X) 0)), some (.long a.1), none, some (.int l3), none]) [true, true, false, true, false] rfl ?_
    exact ax_jl (fun h => hO a.1 h)
  · refine ax_j (ax_ldc2 hV kc_X9_347 dX9_digest_54) ?_
    refine ax_j (ax_lload_n hV dX9_digest_57 rfl) ?_
    refine ax_j (ax_lmul hV dX9_digest_58) ?_
    refine ax_j (ax_aload_n hV dX9_digest_59 rfl) ?_
    refine ax_j (ax_iload_n hV dX9_digest_60 rfl) ?_
    refine ax_j (ax_iload hV dX9_digest_61 rfl) ?_
    refine ax_jb (fun v ho => ax_cVi hV lk_X9_352 rfl dX9_digest_63 rfl rfl [.int l3, .int a.2] [.long ((31 : Int64) * a.1)] (fun ad => [.ref (ad 0), .int l3, .int a.2]) rfl rfl rfl rfl v s (T_X9_about l3 a.2 s v ho)) (fun q63 => ?_)
    refine ax_j (ax_i2l hV dX9_digest_66) ?_
    refine ax_j (ax_ladd hV dX9_digest_67) ?_
    refine ax_j (ax_lstore_n hV [some (.ref (ax_ad (cx_C, X) 0)), some (.long (((31 : Int64) * a.1) + q63.toInt64)), none, some (.int l3), some (.int a.2)] dX9_digest_68 rfl rfl) ?_
    refine ax_j (ax_iinc hV (a.2 + 1) [some (.ref (ax_ad (cx_C, X) 0)), some (.long (((31 : Int64) * a.1) + q63.toInt64)), none, some (.int l3), some (.int (a.2 + 1))] dX9_digest_69 rfl rfl rfl rfl) ?_
    refine ax_j (ax_goto hV dX9_digest_72) ?_
    exact ax_jl (fun h => hI ((((31 : Int64) * a.1) + q63.toInt64), (a.2 + 1)) h)
theorem B_X9_digest_33 (X : ax_G × ax_K × Option Value × ax_S) (hV : ax_ok (cx_C, X) mu_X9_digest) (s : ax_S) (P : ((Int64 × Int32) ⊕ (Int64)) → Prop) (hI : ∀ a : Int64 × Int32, P (.inl a) → ax_At (cx_C, X) 33 [some (.ref (ax_ad (cx_C, X) 0)), some (.long a.1), none, some (.int a.2), none] [] s) (hO : ∀ e : Int64, P (.inr e) → ax_At (cx_C, X) 81 [some (.ref (ax_ad (cx_C, X) 0)), some (.long e), none, none, none] [] s) (a : Int64 × Int32) : ax_J (cx_C, X) P 33 [some (.ref (ax_ad (cx_C, X) 0)), some (.long a.1), none, some (.int a.2), none] [] s (b_X9_digest_33 s a) := by
  unfold b_X9_digest_33
  refine ax_j (ax_iload_n hV dX9_digest_33 rfl) ?_
  refine ax_j (ax_aload_n hV dX9_digest_34 rfl) ?_
  refine ax_j (ax_gfr hV lf_X9_25 dX9_digest_35 rfl rfl) ?_
  refine ax_j (ax_gfi hV lf_X9_159 dX9_digest_38 rfl rfl) ?_
  refine ax_jif (ax_icmp_ge hV dX9_digest_41) ?_ ?_
  · refine ax_jf (lv' := [some (.ref (ax_ad (cx_C, X) 0)), some (.long a.1), none, none, none]) [true, true, false, false, false] rfl ?_
    exact ax_jl (fun h => hO a.1 h)
  · refine ax_j (ax_iconst hV (0 : Int32) dX9_digest_44 (by decide)) ?_
    refine ax_j (ax_istore hV [some (.ref (ax_ad (cx_C, X) 0)), some (.long a.1), none, some (.int a.2), some (.int (0 : Int32))] dX9_digest_45 rfl rfl) ?_
    refine ax_jlp (a.1, (0 : Int32)) (fun x47 : Int64 × Int32 => [some (.ref (ax_ad (cx_C, X) 0)), some (.long x47.1), none, some (.int a.2), some (.int x47.2)]) (fun x47 : Int64 × Int32 => s) (fun y47 : Int64 => [some (.ref (ax_ad (cx_C, X) 0)), some (.long y47), none, some (.int a.2), none]) (fun y47 : Int64 => s) (fun P' h1 h2 w => B_X9_digest_47 X hV a.2 s P' h1 h2 w) (fun e47 => ?_)
    refine ax_j (ax_iinc hV (a.2 + 1) [some (.ref (ax_ad (cx_C, X) 0)), some (.long e47), none, some (.int (a.2 + 1)), none] dX9_digest_75 rfl rfl rfl rfl) ?_
    refine ax_j (ax_goto hV dX9_digest_78) ?_
    exact ax_jl (fun h => hI (e47, (a.2 + 1)) h)
theorem T_X9_digest  (s : ax_S) (r : Int64 × ax_S) (h : f_X9_digest s = some r) : ax_M cx_C mu_X9_digest (fun ad => [.ref (ad 0)]) s (some (.long r.1)) r.2 := by
  refine ax_enter (by decide +kernel) 4 (fun ad => [some (.ref (ad 0)), none, none, none, none]) (fun ad => rfl) (fun ad => Nat.le_of_ble_eq_true rfl) (fun X hV ho => ?_)
  refine ax_go (fun r : Int64 × ax_S => (some (Value.long r.1), r.2)) (fun P hP => ?_) h ho
  unfold f_X9_digest
  refine ax_j (ax_ldc2 hV kc_X9_345 dX9_digest_0) ?_
  refine ax_j (ax_lstore_n hV [some (.ref (ax_ad (cx_C, X) 0)), some (.long (17 : Int64)), none, none, none] dX9_digest_3 rfl rfl) ?_
  refine ax_j (ax_iconst hV (0 : Int32) dX9_digest_4 (by decide)) ?_
  refine ax_j (ax_istore_n hV [some (.ref (ax_ad (cx_C, X) 0)), some (.long (17 : Int64)), none, some (.int (0 : Int32)), none] dX9_digest_5 rfl rfl) ?_
  refine ax_jlp ((17 : Int64), (0 : Int32)) (fun x6 : Int64 × Int32 => [some (.ref (ax_ad (cx_C, X) 0)), some (.long x6.1), none, some (.int x6.2), none]) (fun x6 : Int64 × Int32 => s) (fun y6 : Int64 => [some (.ref (ax_ad (cx_C, X) 0)), some (.long y6), none, none, none]) (fun y6 : Int64 => s) (fun P' h1 h2 w => B_X9_digest_6 X hV s P' h1 h2 w) (fun e6 => ?_)
  refine ax_j (ax_iconst hV (0 : Int32) dX9_digest_31 (by decide)) ?_
  refine ax_j (ax_istore_n hV [some (.ref (ax_ad (cx_C, X) 0)), some (.long e6), none, some (.int (0 : Int32)), none] dX9_digest_32 rfl rfl) ?_
  refine ax_jlp (e6, (0 : Int32)) (fun x33 : Int64 × Int32 => [some (.ref (ax_ad (cx_C, X) 0)), some (.long x33.1), none, some (.int x33.2), none]) (fun x33 : Int64 × Int32 => s) (fun y33 : Int64 => [some (.ref (ax_ad (cx_C, X) 0)), some (.long y33), none, none, none]) (fun y33 : Int64 => s) (fun P' h1 h2 w => B_X9_digest_33 X hV s P' h1 h2 w) (fun e33 => ?_)
  refine ax_j (ax_aload_n hV dX9_digest_81 rfl) ?_
  refine ax_j (ax_lload_n hV dX9_digest_82 rfl) ?_
  refine ax_jb (fun v ho => ax_cVl hV lk_X9_355 rfl dX9_digest_83 rfl rfl [.long e33] [] (fun ad => [.ref (ad 0), .long e33]) rfl rfl rfl rfl v.1 v.2 (T_X9_digestSpans e33 s v ho)) (fun q83 => ?_)
  refine ax_j (ax_lstore_n hV [some (.ref (ax_ad (cx_C, X) 0)), some (.long q83.1), none, none, none] dX9_digest_86 rfl rfl) ?_
  refine ax_j (ax_ldc2 hV kc_X9_347 dX9_digest_87) ?_
  refine ax_j (ax_lload_n hV dX9_digest_90 rfl) ?_
  refine ax_j (ax_lmul hV dX9_digest_91) ?_
  refine ax_j (ax_aload_n hV dX9_digest_92 rfl) ?_
  refine ax_jb (fun v ho => ax_cVl hV lk_X9_359 rfl dX9_digest_93 rfl rfl [] [.long ((31 : Int64) * q83.1)] (fun ad => [.ref (ad 0)]) rfl rfl rfl rfl v.1 v.2 (T_X9_orders q83.2 v ho)) (fun q93 => ?_)
  refine ax_j (ax_ladd hV dX9_digest_96) ?_
  refine ax_j (ax_lstore_n hV [some (.ref (ax_ad (cx_C, X) 0)), some (.long (((31 : Int64) * q83.1) + q93.1)), none, none, none] dX9_digest_97 rfl rfl) ?_
  refine ax_j (ax_ldc2 hV kc_X9_347 dX9_digest_98) ?_
  refine ax_j (ax_lload_n hV dX9_digest_101 rfl) ?_
  refine ax_j (ax_lmul hV dX9_digest_102) ?_
  refine ax_j (ax_aload_n hV dX9_digest_103 rfl) ?_
  refine ax_j (ax_gfr hV lf_X9_50 dX9_digest_104 rfl rfl) ?_
  refine ax_jb (fun v ho => ax_cVi hV lk_X9_292 rfl dX9_digest_107 rfl rfl [] [.long ((31 : Int64) * (((31 : Int64) * q83.1) + q93.1))] (fun ad => [.ref (ad 7)]) rfl rfl rfl rfl v.1 v.2 (T_X2_findFault q93.2 v ho)) (fun q107 => ?_)
  refine ax_j (ax_i2l hV dX9_digest_110) ?_
  refine ax_j (ax_ladd hV dX9_digest_111) ?_
  exact ax_jl (fun h => ax_lr hV rfl dX9_digest_112 (hP ((((31 : Int64) * (((31 : Int64) * q83.1) + q93.1)) + q107.1.toInt64), q107.2) h))
def mu_X10_in : ax_Mu := (yX10_in, cX10_in, 3, some .boolean, 0, 0)
theorem lc_X10_in : Cond.code mu_X10_in.1 mu_X10_in.2.1 mu_X10_in.2.2.1 mu_X10_in.2.2.2.1 ∈ ax_tb := (ax_m5 64 rfl rfl)
noncomputable def f_X10_in (p1 : Int32) (p2 : Int32) (p3 : Int32) : Option (Int32) := (if p1 < p2 then some ((0 : Int32)) else (if p3 < p1 then some ((0 : Int32)) else some ((1 : Int32))))
theorem T_X10_in (p1 : Int32) (p2 : Int32) (p3 : Int32) (s : ax_S) (r : Int32) (h : f_X10_in p1 p2 p3 = some r) : ax_M cx_R mu_X10_in (fun ad => [.int p1, .int p2, .int p3]) s (some (.int r)) s := by
  refine ax_enter (by decide +kernel) 0 (fun ad => [some (.int p1), some (.int p2), some (.int p3)]) (fun ad => rfl) (fun ad => Nat.le_of_ble_eq_true rfl) (fun X hV ho => ?_)
  refine ax_go (fun r : Int32 => (some (Value.int r), s)) (fun P hP => ?_) h ho
  unfold f_X10_in
  refine ax_j (ax_iload_n hV dX10_in_0 rfl) ?_
  refine ax_j (ax_iload_n hV dX10_in_1 rfl) ?_
  refine ax_jif (ax_icmp_lt hV dX10_in_2) ?_ ?_
  · refine ax_j (ax_iconst hV (0 : Int32) dX10_in_14 (by decide)) ?_
    exact ax_jl (fun h => ax_zr hV rfl (by decide) dX10_in_15 (hP (0 : Int32) h))
  · refine ax_j (ax_iload_n hV dX10_in_5 rfl) ?_
    refine ax_j (ax_iload_n hV dX10_in_6 rfl) ?_
    refine ax_jif (ax_icmp_gt hV dX10_in_7) ?_ ?_
    · refine ax_j (ax_iconst hV (0 : Int32) dX10_in_14 (by decide)) ?_
      exact ax_jl (fun h => ax_zr hV rfl (by decide) dX10_in_15 (hP (0 : Int32) h))
    · refine ax_j (ax_iconst hV (1 : Int32) dX10_in_10 (by decide)) ?_
      refine ax_j (ax_goto hV dX10_in_11) ?_
      exact ax_jl (fun h => ax_zr hV rfl (by decide) dX10_in_15 (hP (1 : Int32) h))
theorem lk_X10_97 : ax_lkS RX10 97 mu_X10_in 3 := ax_lkS_of (ax_m5 62 rfl rfl) (ax_m5 63 rfl rfl) (ax_m1 10 rfl rfl) lc_X10_in ⟨by decide +kernel, by decide +kernel, by decide +kernel⟩
def mu_X10_isThing : ax_Mu := (yX10_isThing, cX10_isThing, 2, some .boolean, 1, 22)
theorem lc_X10_isThing : Cond.code mu_X10_isThing.1 mu_X10_isThing.2.1 mu_X10_isThing.2.2.1 mu_X10_isThing.2.2.2.1 ∈ ax_tb := (ax_m5 92 rfl rfl)
noncomputable def f_X10_isThing (p1 : Int32) (s : ax_S) : Option (Int32) := (f_X10_in p1 (0 : Int32) ((s.1 0 1) - (1 : Int32))).bind (fun q8 => (ax_zb q8).bind (fun z => some (z)))
theorem T_X10_isThing (p1 : Int32) (s : ax_S) (r : Int32) (h : f_X10_isThing p1 s = some r) : ax_M cx_R mu_X10_isThing (fun ad => [.ref (ad 0), .int p1]) s (some (.int r)) s := by
  refine ax_enter (by decide +kernel) 0 (fun ad => [some (.ref (ad 0)), some (.int p1)]) (fun ad => rfl) (fun ad => Nat.le_of_ble_eq_true rfl) (fun X hV ho => ?_)
  refine ax_go (fun r : Int32 => (some (Value.int r), s)) (fun P hP => ?_) h ho
  unfold f_X10_isThing
  refine ax_j (ax_iload_n hV dX10_isThing_0 rfl) ?_
  refine ax_j (ax_iconst hV (0 : Int32) dX10_isThing_1 (by decide)) ?_
  refine ax_j (ax_aload_n hV dX10_isThing_2 rfl) ?_
  refine ax_j (ax_gfi hV lf_X10_94 dX10_isThing_3 rfl rfl) ?_
  refine ax_j (ax_iconst hV (1 : Int32) dX10_isThing_6 (by decide)) ?_
  refine ax_j (ax_isub hV dX10_isThing_7) ?_
  refine ax_jb (fun v ho => ax_cSi hV lk_X10_97 rfl dX10_isThing_8 [.int p1, .int (0 : Int32), .int ((s.1 0 1) - (1 : Int32))] [] (fun ad => [.int p1, .int (0 : Int32), .int ((s.1 0 1) - (1 : Int32))]) rfl rfl rfl rfl v s (T_X10_in p1 (0 : Int32) ((s.1 0 1) - (1 : Int32)) s v ho)) (fun q8 => ?_)
  exact ax_jz (fun v hz h => ax_zr2 hV rfl dX10_isThing_11 v hz (hP v h))
theorem lk_X10_122 : ax_lkV RX10 122 mu_X10_isThing RX10 1 := ax_lkV_of (ax_m5 89 rfl rfl) (ax_m5 91 rfl rfl) (ax_mp3 8 rfl rfl rfl) (ax_m1 10 rfl rfl) lc_X10_isThing rfl ⟨by decide +kernel, by decide +kernel, by decide +kernel⟩
def mu_X10_isBook : ax_Mu := (yX10_isBook, cX10_isBook, 2, some .boolean, 1, 22)
theorem lc_X10_isBook : Cond.code mu_X10_isBook.1 mu_X10_isBook.2.1 mu_X10_isBook.2.2.1 mu_X10_isBook.2.2.2.1 ∈ ax_tb := (ax_m5 80 rfl rfl)
noncomputable def f_X10_isBook (p1 : Int32) (s : ax_S) : Option (Int32) := (f_X10_in p1 (0 : Int32) ((s.1 0 2) - (1 : Int32))).bind (fun q8 => (ax_zb q8).bind (fun z => some (z)))
theorem T_X10_isBook (p1 : Int32) (s : ax_S) (r : Int32) (h : f_X10_isBook p1 s = some r) : ax_M cx_R mu_X10_isBook (fun ad => [.ref (ad 0), .int p1]) s (some (.int r)) s := by
  refine ax_enter (by decide +kernel) 0 (fun ad => [some (.ref (ad 0)), some (.int p1)]) (fun ad => rfl) (fun ad => Nat.le_of_ble_eq_true rfl) (fun X hV ho => ?_)
  refine ax_go (fun r : Int32 => (some (Value.int r), s)) (fun P hP => ?_) h ho
  unfold f_X10_isBook
  refine ax_j (ax_iload_n hV dX10_isBook_0 rfl) ?_
  refine ax_j (ax_iconst hV (0 : Int32) dX10_isBook_1 (by decide)) ?_
  refine ax_j (ax_aload_n hV dX10_isBook_2 rfl) ?_
  refine ax_j (ax_gfi hV lf_X10_101 dX10_isBook_3 rfl rfl) ?_
  refine ax_j (ax_iconst hV (1 : Int32) dX10_isBook_6 (by decide)) ?_
  refine ax_j (ax_isub hV dX10_isBook_7) ?_
  refine ax_jb (fun v ho => ax_cSi hV lk_X10_97 rfl dX10_isBook_8 [.int p1, .int (0 : Int32), .int ((s.1 0 2) - (1 : Int32))] [] (fun ad => [.int p1, .int (0 : Int32), .int ((s.1 0 2) - (1 : Int32))]) rfl rfl rfl rfl v s (T_X10_in p1 (0 : Int32) ((s.1 0 2) - (1 : Int32)) s v ho)) (fun q8 => ?_)
  exact ax_jz (fun v hz h => ax_zr2 hV rfl dX10_isBook_11 v hz (hP v h))
theorem lk_X10_118 : ax_lkV RX10 118 mu_X10_isBook RX10 1 := ax_lkV_of (ax_m5 77 rfl rfl) (ax_m5 79 rfl rfl) (ax_mp3 6 rfl rfl rfl) (ax_m1 10 rfl rfl) lc_X10_isBook rfl ⟨by decide +kernel, by decide +kernel, by decide +kernel⟩
def mu_X10_isKnownTo : ax_Mu := (yX10_isKnownTo, cX10_isKnownTo, 3, some .boolean, 0, 0)
theorem lc_X10_isKnownTo : Cond.code mu_X10_isKnownTo.1 mu_X10_isKnownTo.2.1 mu_X10_isKnownTo.2.2.1 mu_X10_isKnownTo.2.2.2.1 ∈ ax_tb := (ax_m5 139 rfl rfl)
noncomputable def f_X10_isKnownTo (p1 : Int32) (p2 : Int32) (s : ax_S) : Option (Int32) := (ax_ai cx_R s 9 p1).bind (fun v5 => (if p2 < v5 then some ((0 : Int32)) else (ax_ai cx_R s 10 p1).bind (fun v15 => (if v15 = (-1 : Int32) then some ((1 : Int32)) else (ax_ai cx_R s 10 p1).bind (fun v25 => (if v25 ≤ p2 then some ((0 : Int32)) else some ((1 : Int32))))))))
theorem T_X10_isKnownTo (p1 : Int32) (p2 : Int32) (s : ax_S) (r : Int32) (h : f_X10_isKnownTo p1 p2 s = some r) : ax_M cx_R mu_X10_isKnownTo (fun ad => [.ref (ad 0), .int p1, .int p2]) s (some (.int r)) s := by
  refine ax_enter (by decide +kernel) 0 (fun ad => [some (.ref (ad 0)), some (.int p1), some (.int p2)]) (fun ad => rfl) (fun ad => Nat.le_of_ble_eq_true rfl) (fun X hV ho => ?_)
  refine ax_go (fun r : Int32 => (some (Value.int r), s)) (fun P hP => ?_) h ho
  unfold f_X10_isKnownTo
  refine ax_j (ax_aload_n hV dX10_isKnownTo_0 rfl) ?_
  refine ax_j (ax_gfr hV lf_X10_34 dX10_isKnownTo_1 rfl rfl) ?_
  refine ax_j (ax_iload_n hV dX10_isKnownTo_4 rfl) ?_
  refine ax_jb (ax_iald hV dX10_isKnownTo_5) (fun v5 => ?_)
  refine ax_j (ax_iload_n hV dX10_isKnownTo_6 rfl) ?_
  refine ax_jif (ax_icmp_gt hV dX10_isKnownTo_7) ?_ ?_
  · refine ax_j (ax_iconst hV (0 : Int32) dX10_isKnownTo_34 (by decide)) ?_
    exact ax_jl (fun h => ax_zr hV rfl (by decide) dX10_isKnownTo_35 (hP (0 : Int32) h))
  · refine ax_j (ax_aload_n hV dX10_isKnownTo_10 rfl) ?_
    refine ax_j (ax_gfr hV lf_X10_37 dX10_isKnownTo_11 rfl rfl) ?_
    refine ax_j (ax_iload_n hV dX10_isKnownTo_14 rfl) ?_
    refine ax_jb (ax_iald hV dX10_isKnownTo_15) (fun v15 => ?_)
    refine ax_j (ax_iconst hV (-1 : Int32) dX10_isKnownTo_16 (by decide)) ?_
    refine ax_jif (ax_icmp_eq hV dX10_isKnownTo_17) ?_ ?_
    · refine ax_j (ax_iconst hV (1 : Int32) dX10_isKnownTo_30 (by decide)) ?_
      refine ax_j (ax_goto hV dX10_isKnownTo_31) ?_
      exact ax_jl (fun h => ax_zr hV rfl (by decide) dX10_isKnownTo_35 (hP (1 : Int32) h))
    · refine ax_j (ax_aload_n hV dX10_isKnownTo_20 rfl) ?_
      refine ax_j (ax_gfr hV lf_X10_37 dX10_isKnownTo_21 rfl rfl) ?_
      refine ax_j (ax_iload_n hV dX10_isKnownTo_24 rfl) ?_
      refine ax_jb (ax_iald hV dX10_isKnownTo_25) (fun v25 => ?_)
      refine ax_j (ax_iload_n hV dX10_isKnownTo_26 rfl) ?_
      refine ax_jif (ax_icmp_le hV dX10_isKnownTo_27) ?_ ?_
      · refine ax_j (ax_iconst hV (0 : Int32) dX10_isKnownTo_34 (by decide)) ?_
        exact ax_jl (fun h => ax_zr hV rfl (by decide) dX10_isKnownTo_35 (hP (0 : Int32) h))
      · refine ax_j (ax_iconst hV (1 : Int32) dX10_isKnownTo_30 (by decide)) ?_
        refine ax_j (ax_goto hV dX10_isKnownTo_31) ?_
        exact ax_jl (fun h => ax_zr hV rfl (by decide) dX10_isKnownTo_35 (hP (1 : Int32) h))
theorem lk_X10_107 : ax_lkV RX10 107 mu_X10_isKnownTo RX10 2 := ax_lkV_of (ax_m5 136 rfl rfl) (ax_m5 138 rfl rfl) (ax_mp3 14 rfl rfl rfl) (ax_m1 10 rfl rfl) lc_X10_isKnownTo rfl ⟨by decide +kernel, by decide +kernel, by decide +kernel⟩
def mu_X10_isKnown : ax_Mu := (yX10_isKnown, cX10_isKnown, 2, some .boolean, 1, 22)
theorem lc_X10_isKnown : Cond.code mu_X10_isKnown.1 mu_X10_isKnown.2.1 mu_X10_isKnown.2.2.1 mu_X10_isKnown.2.2.2.1 ∈ ax_tb := (ax_m5 135 rfl rfl)
noncomputable def f_X10_isKnown (p1 : Int32) (s : ax_S) : Option (Int32) := (if (s.1 0 14) = (-1 : Int32) then (f_X10_isKnownTo p1 (s.1 0 0) s).bind (fun q21 => (ax_zb q21).bind (fun z => some (z))) else (f_X10_isKnownTo p1 (s.1 0 14) s).bind (fun q21 => (ax_zb q21).bind (fun z => some (z))))
theorem T_X10_isKnown (p1 : Int32) (s : ax_S) (r : Int32) (h : f_X10_isKnown p1 s = some r) : ax_M cx_R mu_X10_isKnown (fun ad => [.ref (ad 0), .int p1]) s (some (.int r)) s := by
  refine ax_enter (by decide +kernel) 0 (fun ad => [some (.ref (ad 0)), some (.int p1)]) (fun ad => rfl) (fun ad => Nat.le_of_ble_eq_true rfl) (fun X hV ho => ?_)
  refine ax_go (fun r : Int32 => (some (Value.int r), s)) (fun P hP => ?_) h ho
  unfold f_X10_isKnown
  refine ax_j (ax_aload_n hV dX10_isKnown_0 rfl) ?_
  refine ax_j (ax_iload_n hV dX10_isKnown_1 rfl) ?_
  refine ax_j (ax_aload_n hV dX10_isKnown_2 rfl) ?_
  refine ax_j (ax_gfi hV lf_X10_40 dX10_isKnown_3 rfl rfl) ?_
  refine ax_j (ax_iconst hV (-1 : Int32) dX10_isKnown_6 (by decide)) ?_
  refine ax_jif (ax_icmp_ne hV dX10_isKnown_7) ?_ ?_
  · refine ax_j (ax_aload_n hV dX10_isKnown_10 rfl) ?_
    refine ax_j (ax_gfi hV lf_X10_104 dX10_isKnown_11 rfl rfl) ?_
    refine ax_j (ax_goto hV dX10_isKnown_14) ?_
    refine ax_jb (fun v ho => ax_cVi hV lk_X10_107 rfl dX10_isKnown_21 rfl rfl [.int p1, .int (s.1 0 0)] [] (fun ad => [.ref (ad 0), .int p1, .int (s.1 0 0)]) rfl rfl rfl rfl v s (T_X10_isKnownTo p1 (s.1 0 0) s v ho)) (fun q21 => ?_)
    exact ax_jz (fun v hz h => ax_zr2 hV rfl dX10_isKnown_24 v hz (hP v h))
  · refine ax_j (ax_aload_n hV dX10_isKnown_17 rfl) ?_
    refine ax_j (ax_gfi hV lf_X10_40 dX10_isKnown_18 rfl rfl) ?_
    refine ax_jb (fun v ho => ax_cVi hV lk_X10_107 rfl dX10_isKnown_21 rfl rfl [.int p1, .int (s.1 0 14)] [] (fun ad => [.ref (ad 0), .int p1, .int (s.1 0 14)]) rfl rfl rfl rfl v s (T_X10_isKnownTo p1 (s.1 0 14) s v ho)) (fun q21 => ?_)
    exact ax_jz (fun v hz h => ax_zr2 hV rfl dX10_isKnown_24 v hz (hP v h))
theorem lk_X10_147 : ax_lkV RX10 147 mu_X10_isKnown RX10 1 := ax_lkV_of (ax_m5 132 rfl rfl) (ax_m5 134 rfl rfl) (ax_mp3 13 rfl rfl rfl) (ax_m1 10 rfl rfl) lc_X10_isKnown rfl ⟨by decide +kernel, by decide +kernel, by decide +kernel⟩
def mu_X10_knownBits : ax_Mu := (yX10_knownBits, cX10_knownBits, 5, some .long, 1, 22)
theorem lc_X10_knownBits : Cond.code mu_X10_knownBits.1 mu_X10_knownBits.2.1 mu_X10_knownBits.2.2.1 mu_X10_knownBits.2.2.2.1 ∈ ax_tb := (ax_m5 156 rfl rfl)
noncomputable def b_X10_knownBits_5 (l1 : Int32) (s : ax_S) (a : Int64 × Int32) : Option ((Int64 × Int32) ⊕ (Int64)) := (if (s.1 0 6) ≤ a.2 then some (.inr a.1) else (f_X10_isKnownTo a.2 l1 s).bind (fun q19 => (if q19 = 0 then some (.inl ((a.1 ||| (0 : Int64)), (a.2 + 1))) else some (.inl ((a.1 ||| (ax_lshl (1 : Int64) a.2)), (a.2 + 1))))))
noncomputable def f_X10_knownBits (p1 : Int32) (s : ax_S) : Option (Int64) := (ax_lp (b_X10_knownBits_5 p1 s) ((0 : Int64), (0 : Int32))).bind (fun e5 => some (e5))
theorem B_X10_knownBits_5 (X : ax_G × ax_K × Option Value × ax_S) (hV : ax_ok (cx_R, X) mu_X10_knownBits) (l1 : Int32) (s : ax_S) (P : ((Int64 × Int32) ⊕ (Int64)) → Prop) (hI : ∀ a : Int64 × Int32, P (.inl a) → ax_At (cx_R, X) 5 [some (.ref (ax_ad (cx_R, X) 0)), some (.int l1), some (.long a.1), none, some (.int a.2)] [] s) (hO : ∀ e : Int64, P (.inr e) → ax_At (cx_R, X) 41 [none, none, some (.long e), none, none] [] s) (a : Int64 × Int32) : ax_J (cx_R, X) P 5 [some (.ref (ax_ad (cx_R, X) 0)), some (.int l1), some (.long a.1), none, some (.int a.2)] [] s (b_X10_knownBits_5 l1 s a) := by
  unfold b_X10_knownBits_5
  refine ax_j (ax_iload hV dX10_knownBits_5 rfl) ?_
  refine ax_j (ax_aload_n hV dX10_knownBits_7 rfl) ?_
  refine ax_j (ax_gfi hV lf_X10_111 dX10_knownBits_8 rfl rfl) ?_
  refine ax_jif (ax_icmp_ge hV dX10_knownBits_11) ?_ ?_
  · refine ax_jf (lv' := [none, none, some (.long a.1), none, none]) [false, false, true, false, false] rfl ?_
    exact ax_jl (fun h => hO a.1 h)
  · refine ax_j (ax_lload_n hV dX10_knownBits_14 rfl) ?_
    refine ax_j (ax_aload_n hV dX10_knownBits_15 rfl) ?_
    refine ax_j (ax_iload hV dX10_knownBits_16 rfl) ?_
    refine ax_j (ax_iload_n hV dX10_knownBits_18 rfl) ?_
    refine ax_jb (fun v ho => ax_cVi hV lk_X10_107 rfl dX10_knownBits_19 rfl rfl [.int a.2, .int l1] [.long a.1] (fun ad => [.ref (ad 0), .int a.2, .int l1]) rfl rfl rfl rfl v s (T_X10_isKnownTo a.2 l1 s v ho)) (fun q19 => ?_)
    refine ax_jif (ax_if_eq hV dX10_knownBits_22) ?_ ?_
    · refine ax_j (ax_lconst hV (0 : Int64) dX10_knownBits_32 (by decide)) ?_
      refine ax_j (ax_lor hV dX10_knownBits_33) ?_
      refine ax_j (ax_lstore_n hV [some (.ref (ax_ad (cx_R, X) 0)), some (.int l1), some (.long (a.1 ||| (0 : Int64))), none, some (.int a.2)] dX10_knownBits_34 rfl rfl) ?_
      refine ax_j (ax_iinc hV (a.2 + 1) [some (.ref (ax_ad (cx_R, X) 0)), some (.int l1), some (.long (a.1 ||| (0 : Int64))), none, some (.int (a.2 + 1))] dX10_knownBits_35 rfl rfl rfl rfl) ?_
      refine ax_j (ax_goto hV dX10_knownBits_38) ?_
      exact ax_jl (fun h => hI ((a.1 ||| (0 : Int64)), (a.2 + 1)) h)
    · refine ax_j (ax_lconst hV (1 : Int64) dX10_knownBits_25 (by decide)) ?_
      refine ax_j (ax_iload hV dX10_knownBits_26 rfl) ?_
      refine ax_j (ax_lshl_ hV dX10_knownBits_28) ?_
      refine ax_j (ax_goto hV dX10_knownBits_29) ?_
      refine ax_j (ax_lor hV dX10_knownBits_33) ?_
      refine ax_j (ax_lstore_n hV [some (.ref (ax_ad (cx_R, X) 0)), some (.int l1), some (.long (a.1 ||| (ax_lshl (1 : Int64) a.2))), none, some (.int a.2)] dX10_knownBits_34 rfl rfl) ?_
      refine ax_j (ax_iinc hV (a.2 + 1) [some (.ref (ax_ad (cx_R, X) 0)), some (.int l1), some (.long (a.1 ||| (ax_lshl (1 : Int64) a.2))), none, some (.int (a.2 + 1))] dX10_knownBits_35 rfl rfl rfl rfl) ?_
      refine ax_j (ax_goto hV dX10_knownBits_38) ?_
      exact ax_jl (fun h => hI ((a.1 ||| (ax_lshl (1 : Int64) a.2)), (a.2 + 1)) h)
theorem T_X10_knownBits (p1 : Int32) (s : ax_S) (r : Int64) (h : f_X10_knownBits p1 s = some r) : ax_M cx_R mu_X10_knownBits (fun ad => [.ref (ad 0), .int p1]) s (some (.long r)) s := by
  refine ax_enter (by decide +kernel) 3 (fun ad => [some (.ref (ad 0)), some (.int p1), none, none, none]) (fun ad => rfl) (fun ad => Nat.le_of_ble_eq_true rfl) (fun X hV ho => ?_)
  refine ax_go (fun r : Int64 => (some (Value.long r), s)) (fun P hP => ?_) h ho
  unfold f_X10_knownBits
  refine ax_j (ax_lconst hV (0 : Int64) dX10_knownBits_0 (by decide)) ?_
  refine ax_j (ax_lstore_n hV [some (.ref (ax_ad (cx_R, X) 0)), some (.int p1), some (.long (0 : Int64)), none, none] dX10_knownBits_1 rfl rfl) ?_
  refine ax_j (ax_iconst hV (0 : Int32) dX10_knownBits_2 (by decide)) ?_
  refine ax_j (ax_istore hV [some (.ref (ax_ad (cx_R, X) 0)), some (.int p1), some (.long (0 : Int64)), none, some (.int (0 : Int32))] dX10_knownBits_3 rfl rfl) ?_
  refine ax_jlp ((0 : Int64), (0 : Int32)) (fun x5 : Int64 × Int32 => [some (.ref (ax_ad (cx_R, X) 0)), some (.int p1), some (.long x5.1), none, some (.int x5.2)]) (fun x5 : Int64 × Int32 => s) (fun y5 : Int64 => [none, none, some (.long y5), none, none]) (fun y5 : Int64 => s) (fun P' h1 h2 w => B_X10_knownBits_5 X hV p1 s P' h1 h2 w) (fun e5 => ?_)
  refine ax_j (ax_lload_n hV dX10_knownBits_41 rfl) ?_
  exact ax_jl (fun h => ax_lr hV rfl dX10_knownBits_42 (hP e5 h))
theorem lk_X10_114 : ax_lkV RX10 114 mu_X10_knownBits RX10 1 := ax_lkV_of (ax_m5 153 rfl rfl) (ax_m5 155 rfl rfl) (ax_mp4 0 rfl rfl rfl) (ax_m1 10 rfl rfl) lc_X10_knownBits rfl ⟨by decide +kernel, by decide +kernel, by decide +kernel⟩
def mu_X10_knownNow : ax_Mu := (yX10_knownNow, cX10_knownNow, 1, some .long, 2, 46)
theorem lc_X10_knownNow : Cond.code mu_X10_knownNow.1 mu_X10_knownNow.2.1 mu_X10_knownNow.2.2.1 mu_X10_knownNow.2.2.2.1 ∈ ax_tb := (ax_m5 152 rfl rfl)
noncomputable def f_X10_knownNow  (s : ax_S) : Option (Int64) := (if (s.1 0 14) = (-1 : Int32) then (f_X10_knownBits (s.1 0 0) s).bind (fun q20 => some (q20)) else (f_X10_knownBits (s.1 0 14) s).bind (fun q20 => some (q20)))
theorem T_X10_knownNow  (s : ax_S) (r : Int64) (h : f_X10_knownNow s = some r) : ax_M cx_R mu_X10_knownNow (fun ad => [.ref (ad 0)]) s (some (.long r)) s := by
  refine ax_enter (by decide +kernel) 0 (fun ad => [some (.ref (ad 0))]) (fun ad => rfl) (fun ad => Nat.le_of_ble_eq_true rfl) (fun X hV ho => ?_)
  refine ax_go (fun r : Int64 => (some (Value.long r), s)) (fun P hP => ?_) h ho
  unfold f_X10_knownNow
  refine ax_j (ax_aload_n hV dX10_knownNow_0 rfl) ?_
  refine ax_j (ax_aload_n hV dX10_knownNow_1 rfl) ?_
  refine ax_j (ax_gfi hV lf_X10_40 dX10_knownNow_2 rfl rfl) ?_
  refine ax_j (ax_iconst hV (-1 : Int32) dX10_knownNow_5 (by decide)) ?_
  refine ax_jif (ax_icmp_ne hV dX10_knownNow_6) ?_ ?_
  · refine ax_j (ax_aload_n hV dX10_knownNow_9 rfl) ?_
    refine ax_j (ax_gfi hV lf_X10_104 dX10_knownNow_10 rfl rfl) ?_
    refine ax_j (ax_goto hV dX10_knownNow_13) ?_
    refine ax_jb (fun v ho => ax_cVl hV lk_X10_114 rfl dX10_knownNow_20 rfl rfl [.int (s.1 0 0)] [] (fun ad => [.ref (ad 0), .int (s.1 0 0)]) rfl rfl rfl rfl v s (T_X10_knownBits (s.1 0 0) s v ho)) (fun q20 => ?_)
    exact ax_jl (fun h => ax_lr hV rfl dX10_knownNow_23 (hP q20 h))
  · refine ax_j (ax_aload_n hV dX10_knownNow_16 rfl) ?_
    refine ax_j (ax_gfi hV lf_X10_40 dX10_knownNow_17 rfl rfl) ?_
    refine ax_jb (fun v ho => ax_cVl hV lk_X10_114 rfl dX10_knownNow_20 rfl rfl [.int (s.1 0 14)] [] (fun ad => [.ref (ad 0), .int (s.1 0 14)]) rfl rfl rfl rfl v s (T_X10_knownBits (s.1 0 14) s v ho)) (fun q20 => ?_)
    exact ax_jl (fun h => ax_lr hV rfl dX10_knownNow_23 (hP q20 h))
theorem lk_X10_163 : ax_lkV RX10 163 mu_X10_knownNow RX10 0 := ax_lkV_of (ax_m5 149 rfl rfl) (ax_m5 151 rfl rfl) (ax_mp3 15 rfl rfl rfl) (ax_m1 10 rfl rfl) lc_X10_knownNow rfl ⟨by decide +kernel, by decide +kernel, by decide +kernel⟩
def mu_X10_pass : ax_Mu := (yX10_pass, cX10_pass, 2, some .int, 1, 22)
theorem lc_X10_pass : Cond.code mu_X10_pass.1 mu_X10_pass.2.1 mu_X10_pass.2.2.1 mu_X10_pass.2.2.2.1 ∈ ax_tb := (ax_m5 61 rfl rfl)
noncomputable def f_X10_pass (p1 : Int32) (s : ax_S) : Option (Int32 × ax_S) := (f_X10_in p1 (1 : Int32) (100 : Int32)).bind (fun q4 => (if q4 = 0 then some (((-2 : Int32), s)) else (if ((s.1 0 0) + p1) ≤ (399 : Int32) then some ((((ax_ui s 0 0 ((s.1 0 0) + p1)).1 0 0), (ax_ui s 0 0 ((s.1 0 0) + p1)))) else some (((-2 : Int32), s)))))
theorem T_X10_pass (p1 : Int32) (s : ax_S) (r : Int32 × ax_S) (h : f_X10_pass p1 s = some r) : ax_M cx_R mu_X10_pass (fun ad => [.ref (ad 0), .int p1]) s (some (.int r.1)) r.2 := by
  refine ax_enter (by decide +kernel) 0 (fun ad => [some (.ref (ad 0)), some (.int p1)]) (fun ad => rfl) (fun ad => Nat.le_of_ble_eq_true rfl) (fun X hV ho => ?_)
  refine ax_go (fun r : Int32 × ax_S => (some (Value.int r.1), r.2)) (fun P hP => ?_) h ho
  unfold f_X10_pass
  refine ax_j (ax_iload_n hV dX10_pass_0 rfl) ?_
  refine ax_j (ax_iconst hV (1 : Int32) dX10_pass_1 (by decide)) ?_
  refine ax_j (ax_bipush hV (100 : Int32) dX10_pass_2 (by decide)) ?_
  refine ax_jb (fun v ho => ax_cSi hV lk_X10_97 rfl dX10_pass_4 [.int p1, .int (1 : Int32), .int (100 : Int32)] [] (fun ad => [.int p1, .int (1 : Int32), .int (100 : Int32)]) rfl rfl rfl rfl v s (T_X10_in p1 (1 : Int32) (100 : Int32) s v ho)) (fun q4 => ?_)
  refine ax_jif (ax_if_eq hV dX10_pass_7) ?_ ?_
  · refine ax_j (ax_bipush hV (-2 : Int32) dX10_pass_22 (by decide)) ?_
    exact ax_jl (fun h => ax_ir hV rfl dX10_pass_24 (hP ((-2 : Int32), s) h))
  · refine ax_j (ax_aload_n hV dX10_pass_10 rfl) ?_
    refine ax_j (ax_gfi hV lf_X10_104 dX10_pass_11 rfl rfl) ?_
    refine ax_j (ax_iload_n hV dX10_pass_14 rfl) ?_
    refine ax_j (ax_iadd hV dX10_pass_15) ?_
    refine ax_j (ax_sipush hV (399 : Int32) dX10_pass_16 (by decide)) ?_
    refine ax_jif (ax_icmp_le hV dX10_pass_19) ?_ ?_
    · refine ax_j (ax_aload_n hV dX10_pass_25 rfl) ?_
      refine ax_j (ax_dup hV dX10_pass_26 rfl) ?_
      refine ax_j (ax_gfi hV lf_X10_104 dX10_pass_27 rfl rfl) ?_
      refine ax_j (ax_iload_n hV dX10_pass_30 rfl) ?_
      refine ax_j (ax_iadd hV dX10_pass_31) ?_
      refine ax_j (ax_pfi hV lp_X10_104 dX10_pass_32 rfl rfl) ?_
      refine ax_j (ax_aload_n hV dX10_pass_35 rfl) ?_
      refine ax_j (ax_gfi hV lf_X10_104 dX10_pass_36 rfl rfl) ?_
      exact ax_jl (fun h => ax_ir hV rfl dX10_pass_39 (hP (((ax_ui s 0 0 ((s.1 0 0) + p1)).1 0 0), (ax_ui s 0 0 ((s.1 0 0) + p1))) h))
    · refine ax_j (ax_bipush hV (-2 : Int32) dX10_pass_22 (by decide)) ?_
      exact ax_jl (fun h => ax_ir hV rfl dX10_pass_24 (hP ((-2 : Int32), s) h))
def mu_X10_thing : ax_Mu := (yX10_thing, cX10_thing, 1, some .int, 0, 0)
theorem lc_X10_thing : Cond.code mu_X10_thing.1 mu_X10_thing.2.1 mu_X10_thing.2.2.1 mu_X10_thing.2.2.2.1 ∈ ax_tb := (ax_m5 68 rfl rfl)
noncomputable def f_X10_thing  (s : ax_S) : Option (Int32 × ax_S) := (if (s.1 0 1) = (12 : Int32) then some (((-4 : Int32), s)) else some (((((ax_ui s 0 1 ((s.1 0 1) + (1 : Int32))).1 0 1) - (1 : Int32)), (ax_ui s 0 1 ((s.1 0 1) + (1 : Int32))))))
theorem T_X10_thing  (s : ax_S) (r : Int32 × ax_S) (h : f_X10_thing s = some r) : ax_M cx_R mu_X10_thing (fun ad => [.ref (ad 0)]) s (some (.int r.1)) r.2 := by
  refine ax_enter (by decide +kernel) 0 (fun ad => [some (.ref (ad 0))]) (fun ad => rfl) (fun ad => Nat.le_of_ble_eq_true rfl) (fun X hV ho => ?_)
  refine ax_go (fun r : Int32 × ax_S => (some (Value.int r.1), r.2)) (fun P hP => ?_) h ho
  unfold f_X10_thing
  refine ax_j (ax_aload_n hV dX10_thing_0 rfl) ?_
  refine ax_j (ax_gfi hV lf_X10_94 dX10_thing_1 rfl rfl) ?_
  refine ax_j (ax_bipush hV (12 : Int32) dX10_thing_4 (by decide)) ?_
  refine ax_jif (ax_icmp_ne hV dX10_thing_6) ?_ ?_
  · refine ax_j (ax_bipush hV (-4 : Int32) dX10_thing_9 (by decide)) ?_
    exact ax_jl (fun h => ax_ir hV rfl dX10_thing_11 (hP ((-4 : Int32), s) h))
  · refine ax_j (ax_aload_n hV dX10_thing_12 rfl) ?_
    refine ax_j (ax_dup hV dX10_thing_13 rfl) ?_
    refine ax_j (ax_gfi hV lf_X10_94 dX10_thing_14 rfl rfl) ?_
    refine ax_j (ax_iconst hV (1 : Int32) dX10_thing_17 (by decide)) ?_
    refine ax_j (ax_iadd hV dX10_thing_18) ?_
    refine ax_j (ax_pfi hV lp_X10_94 dX10_thing_19 rfl rfl) ?_
    refine ax_j (ax_aload_n hV dX10_thing_22 rfl) ?_
    refine ax_j (ax_gfi hV lf_X10_94 dX10_thing_23 rfl rfl) ?_
    refine ax_j (ax_iconst hV (1 : Int32) dX10_thing_26 (by decide)) ?_
    refine ax_j (ax_isub hV dX10_thing_27) ?_
    exact ax_jl (fun h => ax_ir hV rfl dX10_thing_28 (hP ((((ax_ui s 0 1 ((s.1 0 1) + (1 : Int32))).1 0 1) - (1 : Int32)), (ax_ui s 0 1 ((s.1 0 1) + (1 : Int32)))) h))
def mu_X10_book : ax_Mu := (yX10_book, cX10_book, 3, some .int, 1, 22)
theorem lc_X10_book : Cond.code mu_X10_book.1 mu_X10_book.2.1 mu_X10_book.2.2.1 mu_X10_book.2.2.2.1 ∈ ax_tb := (ax_m5 72 rfl rfl)
noncomputable def f_X10_book (p1 : Int32) (p2 : Int32) (s : ax_S) : Option (Int32 × ax_S) := (f_X10_in p1 (-1000 : Int32) p2).bind (fun q5 => (if q5 = 0 then some (((-2 : Int32), s)) else (f_X10_in p2 p1 (1000 : Int32)).bind (fun q16 => (if q16 = 0 then some (((-2 : Int32), s)) else (if (s.1 0 2) = (6 : Int32) then some (((-4 : Int32), s)) else (ax_si cx_R s 1 (s.1 0 2) p1).bind (fun s46 => (ax_si cx_R s46 2 (s46.1 0 2) p2).bind (fun s56 => (ax_si cx_R s56 3 (s56.1 0 2) (5 : Int32)).bind (fun s66 => some (((((ax_ui s66 0 2 ((s66.1 0 2) + (1 : Int32))).1 0 2) - (1 : Int32)), (ax_ui s66 0 2 ((s66.1 0 2) + (1 : Int32)))))))))))))
theorem T_X10_book (p1 : Int32) (p2 : Int32) (s : ax_S) (r : Int32 × ax_S) (h : f_X10_book p1 p2 s = some r) : ax_M cx_R mu_X10_book (fun ad => [.ref (ad 0), .int p1, .int p2]) s (some (.int r.1)) r.2 := by
  refine ax_enter (by decide +kernel) 0 (fun ad => [some (.ref (ad 0)), some (.int p1), some (.int p2)]) (fun ad => rfl) (fun ad => Nat.le_of_ble_eq_true rfl) (fun X hV ho => ?_)
  refine ax_go (fun r : Int32 × ax_S => (some (Value.int r.1), r.2)) (fun P hP => ?_) h ho
  unfold f_X10_book
  refine ax_j (ax_iload_n hV dX10_book_0 rfl) ?_
  refine ax_j (ax_sipush hV (-1000 : Int32) dX10_book_1 (by decide)) ?_
  refine ax_j (ax_iload_n hV dX10_book_4 rfl) ?_
  refine ax_jb (fun v ho => ax_cSi hV lk_X10_97 rfl dX10_book_5 [.int p1, .int (-1000 : Int32), .int p2] [] (fun ad => [.int p1, .int (-1000 : Int32), .int p2]) rfl rfl rfl rfl v s (T_X10_in p1 (-1000 : Int32) p2 s v ho)) (fun q5 => ?_)
  refine ax_jif (ax_if_eq hV dX10_book_8) ?_ ?_
  · refine ax_j (ax_bipush hV (-2 : Int32) dX10_book_22 (by decide)) ?_
    exact ax_jl (fun h => ax_ir hV rfl dX10_book_24 (hP ((-2 : Int32), s) h))
  · refine ax_j (ax_iload_n hV dX10_book_11 rfl) ?_
    refine ax_j (ax_iload_n hV dX10_book_12 rfl) ?_
    refine ax_j (ax_sipush hV (1000 : Int32) dX10_book_13 (by decide)) ?_
    refine ax_jb (fun v ho => ax_cSi hV lk_X10_97 rfl dX10_book_16 [.int p2, .int p1, .int (1000 : Int32)] [] (fun ad => [.int p2, .int p1, .int (1000 : Int32)]) rfl rfl rfl rfl v s (T_X10_in p2 p1 (1000 : Int32) s v ho)) (fun q16 => ?_)
    refine ax_jif (ax_if_ne hV dX10_book_19) ?_ ?_
    · refine ax_j (ax_bipush hV (-2 : Int32) dX10_book_22 (by decide)) ?_
      exact ax_jl (fun h => ax_ir hV rfl dX10_book_24 (hP ((-2 : Int32), s) h))
    · refine ax_j (ax_aload_n hV dX10_book_25 rfl) ?_
      refine ax_j (ax_gfi hV lf_X10_101 dX10_book_26 rfl rfl) ?_
      refine ax_j (ax_bipush hV (6 : Int32) dX10_book_29 (by decide)) ?_
      refine ax_jif (ax_icmp_ne hV dX10_book_31) ?_ ?_
      · refine ax_j (ax_bipush hV (-4 : Int32) dX10_book_34 (by decide)) ?_
        exact ax_jl (fun h => ax_ir hV rfl dX10_book_36 (hP ((-4 : Int32), s) h))
      · refine ax_j (ax_aload_n hV dX10_book_37 rfl) ?_
        refine ax_j (ax_gfr hV lf_X10_9 dX10_book_38 rfl rfl) ?_
        refine ax_j (ax_aload_n hV dX10_book_41 rfl) ?_
        refine ax_j (ax_gfi hV lf_X10_101 dX10_book_42 rfl rfl) ?_
        refine ax_j (ax_iload_n hV dX10_book_45 rfl) ?_
        refine ax_jb (ax_iast hV dX10_book_46) (fun s46 => ?_)
        refine ax_j (ax_aload_n hV dX10_book_47 rfl) ?_
        refine ax_j (ax_gfr hV lf_X10_13 dX10_book_48 rfl rfl) ?_
        refine ax_j (ax_aload_n hV dX10_book_51 rfl) ?_
        refine ax_j (ax_gfi hV lf_X10_101 dX10_book_52 rfl rfl) ?_
        refine ax_j (ax_iload_n hV dX10_book_55 rfl) ?_
        refine ax_jb (ax_iast hV dX10_book_56) (fun s56 => ?_)
        refine ax_j (ax_aload_n hV dX10_book_57 rfl) ?_
        refine ax_j (ax_gfr hV lf_X10_16 dX10_book_58 rfl rfl) ?_
        refine ax_j (ax_aload_n hV dX10_book_61 rfl) ?_
        refine ax_j (ax_gfi hV lf_X10_101 dX10_book_62 rfl rfl) ?_
        refine ax_j (ax_iconst hV (5 : Int32) dX10_book_65 (by decide)) ?_
        refine ax_jb (ax_iast hV dX10_book_66) (fun s66 => ?_)
        refine ax_j (ax_aload_n hV dX10_book_67 rfl) ?_
        refine ax_j (ax_dup hV dX10_book_68 rfl) ?_
        refine ax_j (ax_gfi hV lf_X10_101 dX10_book_69 rfl rfl) ?_
        refine ax_j (ax_iconst hV (1 : Int32) dX10_book_72 (by decide)) ?_
        refine ax_j (ax_iadd hV dX10_book_73) ?_
        refine ax_j (ax_pfi hV lp_X10_101 dX10_book_74 rfl rfl) ?_
        refine ax_j (ax_aload_n hV dX10_book_77 rfl) ?_
        refine ax_j (ax_gfi hV lf_X10_101 dX10_book_78 rfl rfl) ?_
        refine ax_j (ax_iconst hV (1 : Int32) dX10_book_81 (by decide)) ?_
        refine ax_j (ax_isub hV dX10_book_82) ?_
        exact ax_jl (fun h => ax_ir hV rfl dX10_book_83 (hP ((((ax_ui s66 0 2 ((s66.1 0 2) + (1 : Int32))).1 0 2) - (1 : Int32)), (ax_ui s66 0 2 ((s66.1 0 2) + (1 : Int32)))) h))
def mu_X10_trust : ax_Mu := (yX10_trust, cX10_trust, 4, some .int, 2, 43)
theorem lc_X10_trust : Cond.code mu_X10_trust.1 mu_X10_trust.2.1 mu_X10_trust.2.2.1 mu_X10_trust.2.2.2.1 ∈ ax_tb := (ax_m5 76 rfl rfl)
noncomputable def f_X10_trust (p1 : Int32) (p2 : Int32) (s : ax_S) : Option (Int32 × ax_S) := (f_X10_isBook p1 s).bind (fun q2 => (if q2 = 0 then some (((-2 : Int32), s)) else (f_X10_in p2 (1 : Int32) (9 : Int32)).bind (fun q12 => (if q12 = 0 then some (((-2 : Int32), s)) else (ax_ai cx_R s 3 p1).bind (fun v26 => (ax_si cx_R s 3 p1 p2).bind (fun s34 => some ((v26, s34))))))))
theorem T_X10_trust (p1 : Int32) (p2 : Int32) (s : ax_S) (r : Int32 × ax_S) (h : f_X10_trust p1 p2 s = some r) : ax_M cx_R mu_X10_trust (fun ad => [.ref (ad 0), .int p1, .int p2]) s (some (.int r.1)) r.2 := by
  refine ax_enter (by decide +kernel) 1 (fun ad => [some (.ref (ad 0)), some (.int p1), some (.int p2), none]) (fun ad => rfl) (fun ad => Nat.le_of_ble_eq_true rfl) (fun X hV ho => ?_)
  refine ax_go (fun r : Int32 × ax_S => (some (Value.int r.1), r.2)) (fun P hP => ?_) h ho
  unfold f_X10_trust
  refine ax_j (ax_aload_n hV dX10_trust_0 rfl) ?_
  refine ax_j (ax_iload_n hV dX10_trust_1 rfl) ?_
  refine ax_jb (fun v ho => ax_cVi hV lk_X10_118 rfl dX10_trust_2 rfl rfl [.int p1] [] (fun ad => [.ref (ad 0), .int p1]) rfl rfl rfl rfl v s (T_X10_isBook p1 s v ho)) (fun q2 => ?_)
  refine ax_jif (ax_if_eq hV dX10_trust_5) ?_ ?_
  · refine ax_j (ax_bipush hV (-2 : Int32) dX10_trust_18 (by decide)) ?_
    exact ax_jl (fun h => ax_ir hV rfl dX10_trust_20 (hP ((-2 : Int32), s) h))
  · refine ax_j (ax_iload_n hV dX10_trust_8 rfl) ?_
    refine ax_j (ax_iconst hV (1 : Int32) dX10_trust_9 (by decide)) ?_
    refine ax_j (ax_bipush hV (9 : Int32) dX10_trust_10 (by decide)) ?_
    refine ax_jb (fun v ho => ax_cSi hV lk_X10_97 rfl dX10_trust_12 [.int p2, .int (1 : Int32), .int (9 : Int32)] [] (fun ad => [.int p2, .int (1 : Int32), .int (9 : Int32)]) rfl rfl rfl rfl v s (T_X10_in p2 (1 : Int32) (9 : Int32) s v ho)) (fun q12 => ?_)
    refine ax_jif (ax_if_ne hV dX10_trust_15) ?_ ?_
    · refine ax_j (ax_bipush hV (-2 : Int32) dX10_trust_18 (by decide)) ?_
      exact ax_jl (fun h => ax_ir hV rfl dX10_trust_20 (hP ((-2 : Int32), s) h))
    · refine ax_j (ax_aload_n hV dX10_trust_21 rfl) ?_
      refine ax_j (ax_gfr hV lf_X10_16 dX10_trust_22 rfl rfl) ?_
      refine ax_j (ax_iload_n hV dX10_trust_25 rfl) ?_
      refine ax_jb (ax_iald hV dX10_trust_26) (fun v26 => ?_)
      refine ax_j (ax_istore_n hV [some (.ref (ax_ad (cx_R, X) 0)), some (.int p1), some (.int p2), some (.int v26)] dX10_trust_27 rfl rfl) ?_
      refine ax_j (ax_aload_n hV dX10_trust_28 rfl) ?_
      refine ax_j (ax_gfr hV lf_X10_16 dX10_trust_29 rfl rfl) ?_
      refine ax_j (ax_iload_n hV dX10_trust_32 rfl) ?_
      refine ax_j (ax_iload_n hV dX10_trust_33 rfl) ?_
      refine ax_jb (ax_iast hV dX10_trust_34) (fun s34 => ?_)
      refine ax_j (ax_iload_n hV dX10_trust_35 rfl) ?_
      exact ax_jl (fun h => ax_ir hV rfl dX10_trust_36 (hP (v26, s34) h))
def mu_X10_rowMore : ax_Mu := (yX10_rowMore, cX10_rowMore, 6, some .int, 0, 0)
theorem lc_X10_rowMore : Cond.code mu_X10_rowMore.1 mu_X10_rowMore.2.1 mu_X10_rowMore.2.2.1 mu_X10_rowMore.2.2.2.1 ∈ ax_tb := (ax_m5 98 rfl rfl)
noncomputable def f_X10_rowMore (p1 : Int32) (p2 : Int32) (p3 : Int32) (p4 : Int32) (p5 : Int32) (s : ax_S) : Option (Int32 × ax_S) := (if (s.1 0 6) = (40 : Int32) then some (((-4 : Int32), s)) else (ax_si cx_R s 4 (s.1 0 6) p1).bind (fun s21 => (ax_si cx_R s21 5 (s21.1 0 6) p2).bind (fun s31 => (ax_si cx_R s31 6 (s31.1 0 6) p3).bind (fun s41 => (ax_si cx_R s41 7 (s41.1 0 6) p4).bind (fun s52 => (ax_si cx_R s52 8 (s52.1 0 6) p5).bind (fun s63 => (ax_si cx_R s63 9 (s63.1 0 6) (s63.1 0 0)).bind (fun s76 => (ax_si cx_R s76 10 (s76.1 0 6) (-1 : Int32)).bind (fun s86 => some (((((ax_ui s86 0 6 ((s86.1 0 6) + (1 : Int32))).1 0 6) - (1 : Int32)), (ax_ui s86 0 6 ((s86.1 0 6) + (1 : Int32)))))))))))))
theorem T_X10_rowMore (p1 : Int32) (p2 : Int32) (p3 : Int32) (p4 : Int32) (p5 : Int32) (s : ax_S) (r : Int32 × ax_S) (h : f_X10_rowMore p1 p2 p3 p4 p5 s = some r) : ax_M cx_R mu_X10_rowMore (fun ad => [.ref (ad 0), .int p1, .int p2, .int p3, .int p4, .int p5]) s (some (.int r.1)) r.2 := by
  refine ax_enter (by decide +kernel) 0 (fun ad => [some (.ref (ad 0)), some (.int p1), some (.int p2), some (.int p3), some (.int p4), some (.int p5)]) (fun ad => rfl) (fun ad => Nat.le_of_ble_eq_true rfl) (fun X hV ho => ?_)
  refine ax_go (fun r : Int32 × ax_S => (some (Value.int r.1), r.2)) (fun P hP => ?_) h ho
  unfold f_X10_rowMore
  refine ax_j (ax_aload_n hV dX10_rowMore_0 rfl) ?_
  refine ax_j (ax_gfi hV lf_X10_111 dX10_rowMore_1 rfl rfl) ?_
  refine ax_j (ax_bipush hV (40 : Int32) dX10_rowMore_4 (by decide)) ?_
  refine ax_jif (ax_icmp_ne hV dX10_rowMore_6) ?_ ?_
  · refine ax_j (ax_bipush hV (-4 : Int32) dX10_rowMore_9 (by decide)) ?_
    exact ax_jl (fun h => ax_ir hV rfl dX10_rowMore_11 (hP ((-4 : Int32), s) h))
  · refine ax_j (ax_aload_n hV dX10_rowMore_12 rfl) ?_
    refine ax_j (ax_gfr hV lf_X10_19 dX10_rowMore_13 rfl rfl) ?_
    refine ax_j (ax_aload_n hV dX10_rowMore_16 rfl) ?_
    refine ax_j (ax_gfi hV lf_X10_111 dX10_rowMore_17 rfl rfl) ?_
    refine ax_j (ax_iload_n hV dX10_rowMore_20 rfl) ?_
    refine ax_jb (ax_iast hV dX10_rowMore_21) (fun s21 => ?_)
    refine ax_j (ax_aload_n hV dX10_rowMore_22 rfl) ?_
    refine ax_j (ax_gfr hV lf_X10_22 dX10_rowMore_23 rfl rfl) ?_
    refine ax_j (ax_aload_n hV dX10_rowMore_26 rfl) ?_
    refine ax_j (ax_gfi hV lf_X10_111 dX10_rowMore_27 rfl rfl) ?_
    refine ax_j (ax_iload_n hV dX10_rowMore_30 rfl) ?_
    refine ax_jb (ax_iast hV dX10_rowMore_31) (fun s31 => ?_)
    refine ax_j (ax_aload_n hV dX10_rowMore_32 rfl) ?_
    refine ax_j (ax_gfr hV lf_X10_25 dX10_rowMore_33 rfl rfl) ?_
    refine ax_j (ax_aload_n hV dX10_rowMore_36 rfl) ?_
    refine ax_j (ax_gfi hV lf_X10_111 dX10_rowMore_37 rfl rfl) ?_
    refine ax_j (ax_iload_n hV dX10_rowMore_40 rfl) ?_
    refine ax_jb (ax_iast hV dX10_rowMore_41) (fun s41 => ?_)
    refine ax_j (ax_aload_n hV dX10_rowMore_42 rfl) ?_
    refine ax_j (ax_gfr hV lf_X10_28 dX10_rowMore_43 rfl rfl) ?_
    refine ax_j (ax_aload_n hV dX10_rowMore_46 rfl) ?_
    refine ax_j (ax_gfi hV lf_X10_111 dX10_rowMore_47 rfl rfl) ?_
    refine ax_j (ax_iload hV dX10_rowMore_50 rfl) ?_
    refine ax_jb (ax_iast hV dX10_rowMore_52) (fun s52 => ?_)
    refine ax_j (ax_aload_n hV dX10_rowMore_53 rfl) ?_
    refine ax_j (ax_gfr hV lf_X10_31 dX10_rowMore_54 rfl rfl) ?_
    refine ax_j (ax_aload_n hV dX10_rowMore_57 rfl) ?_
    refine ax_j (ax_gfi hV lf_X10_111 dX10_rowMore_58 rfl rfl) ?_
    refine ax_j (ax_iload hV dX10_rowMore_61 rfl) ?_
    refine ax_jb (ax_iast hV dX10_rowMore_63) (fun s63 => ?_)
    refine ax_j (ax_aload_n hV dX10_rowMore_64 rfl) ?_
    refine ax_j (ax_gfr hV lf_X10_34 dX10_rowMore_65 rfl rfl) ?_
    refine ax_j (ax_aload_n hV dX10_rowMore_68 rfl) ?_
    refine ax_j (ax_gfi hV lf_X10_111 dX10_rowMore_69 rfl rfl) ?_
    refine ax_j (ax_aload_n hV dX10_rowMore_72 rfl) ?_
    refine ax_j (ax_gfi hV lf_X10_104 dX10_rowMore_73 rfl rfl) ?_
    refine ax_jb (ax_iast hV dX10_rowMore_76) (fun s76 => ?_)
    refine ax_j (ax_aload_n hV dX10_rowMore_77 rfl) ?_
    refine ax_j (ax_gfr hV lf_X10_37 dX10_rowMore_78 rfl rfl) ?_
    refine ax_j (ax_aload_n hV dX10_rowMore_81 rfl) ?_
    refine ax_j (ax_gfi hV lf_X10_111 dX10_rowMore_82 rfl rfl) ?_
    refine ax_j (ax_iconst hV (-1 : Int32) dX10_rowMore_85 (by decide)) ?_
    refine ax_jb (ax_iast hV dX10_rowMore_86) (fun s86 => ?_)
    refine ax_j (ax_aload_n hV dX10_rowMore_87 rfl) ?_
    refine ax_j (ax_dup hV dX10_rowMore_88 rfl) ?_
    refine ax_j (ax_gfi hV lf_X10_111 dX10_rowMore_89 rfl rfl) ?_
    refine ax_j (ax_iconst hV (1 : Int32) dX10_rowMore_92 (by decide)) ?_
    refine ax_j (ax_iadd hV dX10_rowMore_93) ?_
    refine ax_j (ax_pfi hV lp_X10_111 dX10_rowMore_94 rfl rfl) ?_
    refine ax_j (ax_aload_n hV dX10_rowMore_97 rfl) ?_
    refine ax_j (ax_gfi hV lf_X10_111 dX10_rowMore_98 rfl rfl) ?_
    refine ax_j (ax_iconst hV (1 : Int32) dX10_rowMore_101 (by decide)) ?_
    refine ax_j (ax_isub hV dX10_rowMore_102) ?_
    exact ax_jl (fun h => ax_ir hV rfl dX10_rowMore_103 (hP ((((ax_ui s86 0 6 ((s86.1 0 6) + (1 : Int32))).1 0 6) - (1 : Int32)), (ax_ui s86 0 6 ((s86.1 0 6) + (1 : Int32)))) h))
theorem lk_X10_127 : ax_lkV RX10 127 mu_X10_rowMore RX10 5 := ax_lkV_of (ax_m5 95 rfl rfl) (ax_m5 97 rfl rfl) (ax_mp3 9 rfl rfl rfl) (ax_m1 10 rfl rfl) lc_X10_rowMore rfl ⟨by decide +kernel, by decide +kernel, by decide +kernel⟩
def mu_X10_onMore : ax_Mu := (yX10_onMore, cX10_onMore, 5, some .int, 2, 43)
theorem lc_X10_onMore : Cond.code mu_X10_onMore.1 mu_X10_onMore.2.1 mu_X10_onMore.2.2.1 mu_X10_onMore.2.2.2.1 ∈ ax_tb := (ax_m5 88 rfl rfl)
noncomputable def f_X10_onMore (p1 : Int32) (p2 : Int32) (p3 : Int32) (p4 : Int32) (s : ax_S) : Option (Int32 × ax_S) := (f_X10_isBook p1 s).bind (fun q2 => (if q2 = 0 then some (((-2 : Int32), s)) else (f_X10_isThing p2 s).bind (fun q10 => (if q10 = 0 then some (((-2 : Int32), s)) else (f_X10_in p3 (-200000 : Int32) p4).bind (fun q21 => (if q21 = 0 then some (((-2 : Int32), s)) else (f_X10_in p4 p3 (200000 : Int32)).bind (fun q32 => (if q32 = 0 then some (((-2 : Int32), s)) else (f_X10_rowMore p1 p2 (-1 : Int32) p3 p4 s).bind (fun q48 => some ((q48.1, q48.2)))))))))))
theorem T_X10_onMore (p1 : Int32) (p2 : Int32) (p3 : Int32) (p4 : Int32) (s : ax_S) (r : Int32 × ax_S) (h : f_X10_onMore p1 p2 p3 p4 s = some r) : ax_M cx_R mu_X10_onMore (fun ad => [.ref (ad 0), .int p1, .int p2, .int p3, .int p4]) s (some (.int r.1)) r.2 := by
  refine ax_enter (by decide +kernel) 0 (fun ad => [some (.ref (ad 0)), some (.int p1), some (.int p2), some (.int p3), some (.int p4)]) (fun ad => rfl) (fun ad => Nat.le_of_ble_eq_true rfl) (fun X hV ho => ?_)
  refine ax_go (fun r : Int32 × ax_S => (some (Value.int r.1), r.2)) (fun P hP => ?_) h ho
  unfold f_X10_onMore
  refine ax_j (ax_aload_n hV dX10_onMore_0 rfl) ?_
  refine ax_j (ax_iload_n hV dX10_onMore_1 rfl) ?_
  refine ax_jb (fun v ho => ax_cVi hV lk_X10_118 rfl dX10_onMore_2 rfl rfl [.int p1] [] (fun ad => [.ref (ad 0), .int p1]) rfl rfl rfl rfl v s (T_X10_isBook p1 s v ho)) (fun q2 => ?_)
  refine ax_jif (ax_if_eq hV dX10_onMore_5) ?_ ?_
  · refine ax_j (ax_bipush hV (-2 : Int32) dX10_onMore_38 (by decide)) ?_
    exact ax_jl (fun h => ax_ir hV rfl dX10_onMore_40 (hP ((-2 : Int32), s) h))
  · refine ax_j (ax_aload_n hV dX10_onMore_8 rfl) ?_
    refine ax_j (ax_iload_n hV dX10_onMore_9 rfl) ?_
    refine ax_jb (fun v ho => ax_cVi hV lk_X10_122 rfl dX10_onMore_10 rfl rfl [.int p2] [] (fun ad => [.ref (ad 0), .int p2]) rfl rfl rfl rfl v s (T_X10_isThing p2 s v ho)) (fun q10 => ?_)
    refine ax_jif (ax_if_eq hV dX10_onMore_13) ?_ ?_
    · refine ax_j (ax_bipush hV (-2 : Int32) dX10_onMore_38 (by decide)) ?_
      exact ax_jl (fun h => ax_ir hV rfl dX10_onMore_40 (hP ((-2 : Int32), s) h))
    · refine ax_j (ax_iload_n hV dX10_onMore_16 rfl) ?_
      refine ax_j (ax_ldc hV kc_X10_125 dX10_onMore_17) ?_
      refine ax_j (ax_iload hV dX10_onMore_19 rfl) ?_
      refine ax_jb (fun v ho => ax_cSi hV lk_X10_97 rfl dX10_onMore_21 [.int p3, .int (-200000 : Int32), .int p4] [] (fun ad => [.int p3, .int (-200000 : Int32), .int p4]) rfl rfl rfl rfl v s (T_X10_in p3 (-200000 : Int32) p4 s v ho)) (fun q21 => ?_)
      refine ax_jif (ax_if_eq hV dX10_onMore_24) ?_ ?_
      · refine ax_j (ax_bipush hV (-2 : Int32) dX10_onMore_38 (by decide)) ?_
        exact ax_jl (fun h => ax_ir hV rfl dX10_onMore_40 (hP ((-2 : Int32), s) h))
      · refine ax_j (ax_iload hV dX10_onMore_27 rfl) ?_
        refine ax_j (ax_iload_n hV dX10_onMore_29 rfl) ?_
        refine ax_j (ax_ldc hV kc_X10_126 dX10_onMore_30) ?_
        refine ax_jb (fun v ho => ax_cSi hV lk_X10_97 rfl dX10_onMore_32 [.int p4, .int p3, .int (200000 : Int32)] [] (fun ad => [.int p4, .int p3, .int (200000 : Int32)]) rfl rfl rfl rfl v s (T_X10_in p4 p3 (200000 : Int32) s v ho)) (fun q32 => ?_)
        refine ax_jif (ax_if_ne hV dX10_onMore_35) ?_ ?_
        · refine ax_j (ax_bipush hV (-2 : Int32) dX10_onMore_38 (by decide)) ?_
          exact ax_jl (fun h => ax_ir hV rfl dX10_onMore_40 (hP ((-2 : Int32), s) h))
        · refine ax_j (ax_aload_n hV dX10_onMore_41 rfl) ?_
          refine ax_j (ax_iload_n hV dX10_onMore_42 rfl) ?_
          refine ax_j (ax_iload_n hV dX10_onMore_43 rfl) ?_
          refine ax_j (ax_iconst hV (-1 : Int32) dX10_onMore_44 (by decide)) ?_
          refine ax_j (ax_iload_n hV dX10_onMore_45 rfl) ?_
          refine ax_j (ax_iload hV dX10_onMore_46 rfl) ?_
          refine ax_jb (fun v ho => ax_cVi hV lk_X10_127 rfl dX10_onMore_48 rfl rfl [.int p1, .int p2, .int (-1 : Int32), .int p3, .int p4] [] (fun ad => [.ref (ad 0), .int p1, .int p2, .int (-1 : Int32), .int p3, .int p4]) rfl rfl rfl rfl v.1 v.2 (T_X10_rowMore p1 p2 (-1 : Int32) p3 p4 s v ho)) (fun q48 => ?_)
          exact ax_jl (fun h => ax_ir hV rfl dX10_onMore_51 (hP (q48.1, q48.2) h))
theorem lk_X10_133 : ax_lkV RX10 133 mu_X10_onMore RX10 4 := ax_lkV_of (ax_m5 85 rfl rfl) (ax_m5 87 rfl rfl) (ax_mp3 7 rfl rfl rfl) (ax_m1 10 rfl rfl) lc_X10_onMore rfl ⟨by decide +kernel, by decide +kernel, by decide +kernel⟩
def mu_X10_apartMore : ax_Mu := (yX10_apartMore, cX10_apartMore, 6, some .int, 2, 43)
theorem lc_X10_apartMore : Cond.code mu_X10_apartMore.1 mu_X10_apartMore.2.1 mu_X10_apartMore.2.2.1 mu_X10_apartMore.2.2.2.1 ∈ ax_tb := (ax_m5 106 rfl rfl)
noncomputable def f_X10_apartMore (p1 : Int32) (p2 : Int32) (p3 : Int32) (p4 : Int32) (p5 : Int32) (s : ax_S) : Option (Int32 × ax_S) := (f_X10_isBook p1 s).bind (fun q2 => (if q2 = 0 then some (((-2 : Int32), s)) else (f_X10_isThing p2 s).bind (fun q10 => (if q10 = 0 then some (((-2 : Int32), s)) else (f_X10_isThing p3 s).bind (fun q18 => (if q18 = 0 then some (((-2 : Int32), s)) else (if p2 = p3 then some (((-2 : Int32), s)) else (f_X10_in p4 (-100000 : Int32) p5).bind (fun q35 => (if q35 = 0 then some (((-2 : Int32), s)) else (f_X10_in p5 p4 (100000 : Int32)).bind (fun q47 => (if q47 = 0 then some (((-2 : Int32), s)) else (f_X10_rowMore p1 p2 p3 p4 p5 s).bind (fun q64 => some ((q64.1, q64.2))))))))))))))
theorem T_X10_apartMore (p1 : Int32) (p2 : Int32) (p3 : Int32) (p4 : Int32) (p5 : Int32) (s : ax_S) (r : Int32 × ax_S) (h : f_X10_apartMore p1 p2 p3 p4 p5 s = some r) : ax_M cx_R mu_X10_apartMore (fun ad => [.ref (ad 0), .int p1, .int p2, .int p3, .int p4, .int p5]) s (some (.int r.1)) r.2 := by
  refine ax_enter (by decide +kernel) 0 (fun ad => [some (.ref (ad 0)), some (.int p1), some (.int p2), some (.int p3), some (.int p4), some (.int p5)]) (fun ad => rfl) (fun ad => Nat.le_of_ble_eq_true rfl) (fun X hV ho => ?_)
  refine ax_go (fun r : Int32 × ax_S => (some (Value.int r.1), r.2)) (fun P hP => ?_) h ho
  unfold f_X10_apartMore
  refine ax_j (ax_aload_n hV dX10_apartMore_0 rfl) ?_
  refine ax_j (ax_iload_n hV dX10_apartMore_1 rfl) ?_
  refine ax_jb (fun v ho => ax_cVi hV lk_X10_118 rfl dX10_apartMore_2 rfl rfl [.int p1] [] (fun ad => [.ref (ad 0), .int p1]) rfl rfl rfl rfl v s (T_X10_isBook p1 s v ho)) (fun q2 => ?_)
  refine ax_jif (ax_if_eq hV dX10_apartMore_5) ?_ ?_
  · refine ax_j (ax_bipush hV (-2 : Int32) dX10_apartMore_53 (by decide)) ?_
    exact ax_jl (fun h => ax_ir hV rfl dX10_apartMore_55 (hP ((-2 : Int32), s) h))
  · refine ax_j (ax_aload_n hV dX10_apartMore_8 rfl) ?_
    refine ax_j (ax_iload_n hV dX10_apartMore_9 rfl) ?_
    refine ax_jb (fun v ho => ax_cVi hV lk_X10_122 rfl dX10_apartMore_10 rfl rfl [.int p2] [] (fun ad => [.ref (ad 0), .int p2]) rfl rfl rfl rfl v s (T_X10_isThing p2 s v ho)) (fun q10 => ?_)
    refine ax_jif (ax_if_eq hV dX10_apartMore_13) ?_ ?_
    · refine ax_j (ax_bipush hV (-2 : Int32) dX10_apartMore_53 (by decide)) ?_
      exact ax_jl (fun h => ax_ir hV rfl dX10_apartMore_55 (hP ((-2 : Int32), s) h))
    · refine ax_j (ax_aload_n hV dX10_apartMore_16 rfl) ?_
      refine ax_j (ax_iload_n hV dX10_apartMore_17 rfl) ?_
      refine ax_jb (fun v ho => ax_cVi hV lk_X10_122 rfl dX10_apartMore_18 rfl rfl [.int p3] [] (fun ad => [.ref (ad 0), .int p3]) rfl rfl rfl rfl v s (T_X10_isThing p3 s v ho)) (fun q18 => ?_)
      refine ax_jif (ax_if_eq hV dX10_apartMore_21) ?_ ?_
      · refine ax_j (ax_bipush hV (-2 : Int32) dX10_apartMore_53 (by decide)) ?_
        exact ax_jl (fun h => ax_ir hV rfl dX10_apartMore_55 (hP ((-2 : Int32), s) h))
      · refine ax_j (ax_iload_n hV dX10_apartMore_24 rfl) ?_
        refine ax_j (ax_iload_n hV dX10_apartMore_25 rfl) ?_
        refine ax_jif (ax_icmp_eq hV dX10_apartMore_26) ?_ ?_
        · refine ax_j (ax_bipush hV (-2 : Int32) dX10_apartMore_53 (by decide)) ?_
          exact ax_jl (fun h => ax_ir hV rfl dX10_apartMore_55 (hP ((-2 : Int32), s) h))
        · refine ax_j (ax_iload hV dX10_apartMore_29 rfl) ?_
          refine ax_j (ax_ldc hV kc_X10_131 dX10_apartMore_31) ?_
          refine ax_j (ax_iload hV dX10_apartMore_33 rfl) ?_
          refine ax_jb (fun v ho => ax_cSi hV lk_X10_97 rfl dX10_apartMore_35 [.int p4, .int (-100000 : Int32), .int p5] [] (fun ad => [.int p4, .int (-100000 : Int32), .int p5]) rfl rfl rfl rfl v s (T_X10_in p4 (-100000 : Int32) p5 s v ho)) (fun q35 => ?_)
          refine ax_jif (ax_if_eq hV dX10_apartMore_38) ?_ ?_
          · refine ax_j (ax_bipush hV (-2 : Int32) dX10_apartMore_53 (by decide)) ?_
            exact ax_jl (fun h => ax_ir hV rfl dX10_apartMore_55 (hP ((-2 : Int32), s) h))
          · refine ax_j (ax_iload hV dX10_apartMore_41 rfl) ?_
            refine ax_j (ax_iload hV dX10_apartMore_43 rfl) ?_
            refine ax_j (ax_ldc hV kc_X10_132 dX10_apartMore_45) ?_
            refine ax_jb (fun v ho => ax_cSi hV lk_X10_97 rfl dX10_apartMore_47 [.int p5, .int p4, .int (100000 : Int32)] [] (fun ad => [.int p5, .int p4, .int (100000 : Int32)]) rfl rfl rfl rfl v s (T_X10_in p5 p4 (100000 : Int32) s v ho)) (fun q47 => ?_)
            refine ax_jif (ax_if_ne hV dX10_apartMore_50) ?_ ?_
            · refine ax_j (ax_bipush hV (-2 : Int32) dX10_apartMore_53 (by decide)) ?_
              exact ax_jl (fun h => ax_ir hV rfl dX10_apartMore_55 (hP ((-2 : Int32), s) h))
            · refine ax_j (ax_aload_n hV dX10_apartMore_56 rfl) ?_
              refine ax_j (ax_iload_n hV dX10_apartMore_57 rfl) ?_
              refine ax_j (ax_iload_n hV dX10_apartMore_58 rfl) ?_
              refine ax_j (ax_iload_n hV dX10_apartMore_59 rfl) ?_
              refine ax_j (ax_iload hV dX10_apartMore_60 rfl) ?_
              refine ax_j (ax_iload hV dX10_apartMore_62 rfl) ?_
              refine ax_jb (fun v ho => ax_cVi hV lk_X10_127 rfl dX10_apartMore_64 rfl rfl [.int p1, .int p2, .int p3, .int p4, .int p5] [] (fun ad => [.ref (ad 0), .int p1, .int p2, .int p3, .int p4, .int p5]) rfl rfl rfl rfl v.1 v.2 (T_X10_rowMore p1 p2 p3 p4 p5 s v ho)) (fun q64 => ?_)
              exact ax_jl (fun h => ax_ir hV rfl dX10_apartMore_67 (hP (q64.1, q64.2) h))
theorem lk_X10_137 : ax_lkV RX10 137 mu_X10_apartMore RX10 5 := ax_lkV_of (ax_m5 103 rfl rfl) (ax_m5 105 rfl rfl) (ax_mp3 10 rfl rfl rfl) (ax_m1 10 rfl rfl) lc_X10_apartMore rfl ⟨by decide +kernel, by decide +kernel, by decide +kernel⟩
def mu_X10_on : ax_Mu := (yX10_on, cX10_on, 5, some .int, 3, 67)
theorem lc_X10_on : Cond.code mu_X10_on.1 mu_X10_on.2.1 mu_X10_on.2.2.1 mu_X10_on.2.2.2.1 ∈ ax_tb := (ax_m5 84 rfl rfl)
noncomputable def f_X10_on (p1 : Int32) (p2 : Int32) (p3 : Int32) (p4 : Int32) (s : ax_S) : Option (Int32 × ax_S) := (f_X10_onMore p1 p2 p3 p4 s).bind (fun q6 => some ((q6.1, q6.2)))
theorem T_X10_on (p1 : Int32) (p2 : Int32) (p3 : Int32) (p4 : Int32) (s : ax_S) (r : Int32 × ax_S) (h : f_X10_on p1 p2 p3 p4 s = some r) : ax_M cx_R mu_X10_on (fun ad => [.ref (ad 0), .int p1, .int p2, .int p3, .int p4]) s (some (.int r.1)) r.2 := by
  refine ax_enter (by decide +kernel) 0 (fun ad => [some (.ref (ad 0)), some (.int p1), some (.int p2), some (.int p3), some (.int p4)]) (fun ad => rfl) (fun ad => Nat.le_of_ble_eq_true rfl) (fun X hV ho => ?_)
  refine ax_go (fun r : Int32 × ax_S => (some (Value.int r.1), r.2)) (fun P hP => ?_) h ho
  unfold f_X10_on
  refine ax_j (ax_aload_n hV dX10_on_0 rfl) ?_
  refine ax_j (ax_iload_n hV dX10_on_1 rfl) ?_
  refine ax_j (ax_iload_n hV dX10_on_2 rfl) ?_
  refine ax_j (ax_iload_n hV dX10_on_3 rfl) ?_
  refine ax_j (ax_iload hV dX10_on_4 rfl) ?_
  refine ax_jb (fun v ho => ax_cVi hV lk_X10_133 rfl dX10_on_6 rfl rfl [.int p1, .int p2, .int p3, .int p4] [] (fun ad => [.ref (ad 0), .int p1, .int p2, .int p3, .int p4]) rfl rfl rfl rfl v.1 v.2 (T_X10_onMore p1 p2 p3 p4 s v ho)) (fun q6 => ?_)
  exact ax_jl (fun h => ax_ir hV rfl dX10_on_9 (hP (q6.1, q6.2) h))
def mu_X10_apart : ax_Mu := (yX10_apart, cX10_apart, 6, some .int, 3, 68)
theorem lc_X10_apart : Cond.code mu_X10_apart.1 mu_X10_apart.2.1 mu_X10_apart.2.2.1 mu_X10_apart.2.2.2.1 ∈ ax_tb := (ax_m5 102 rfl rfl)
noncomputable def f_X10_apart (p1 : Int32) (p2 : Int32) (p3 : Int32) (p4 : Int32) (p5 : Int32) (s : ax_S) : Option (Int32 × ax_S) := (f_X10_apartMore p1 p2 p3 p4 p5 s).bind (fun q8 => some ((q8.1, q8.2)))
theorem T_X10_apart (p1 : Int32) (p2 : Int32) (p3 : Int32) (p4 : Int32) (p5 : Int32) (s : ax_S) (r : Int32 × ax_S) (h : f_X10_apart p1 p2 p3 p4 p5 s = some r) : ax_M cx_R mu_X10_apart (fun ad => [.ref (ad 0), .int p1, .int p2, .int p3, .int p4, .int p5]) s (some (.int r.1)) r.2 := by
  refine ax_enter (by decide +kernel) 0 (fun ad => [some (.ref (ad 0)), some (.int p1), some (.int p2), some (.int p3), some (.int p4), some (.int p5)]) (fun ad => rfl) (fun ad => Nat.le_of_ble_eq_true rfl) (fun X hV ho => ?_)
  refine ax_go (fun r : Int32 × ax_S => (some (Value.int r.1), r.2)) (fun P hP => ?_) h ho
  unfold f_X10_apart
  refine ax_j (ax_aload_n hV dX10_apart_0 rfl) ?_
  refine ax_j (ax_iload_n hV dX10_apart_1 rfl) ?_
  refine ax_j (ax_iload_n hV dX10_apart_2 rfl) ?_
  refine ax_j (ax_iload_n hV dX10_apart_3 rfl) ?_
  refine ax_j (ax_iload hV dX10_apart_4 rfl) ?_
  refine ax_j (ax_iload hV dX10_apart_6 rfl) ?_
  refine ax_jb (fun v ho => ax_cVi hV lk_X10_137 rfl dX10_apart_8 rfl rfl [.int p1, .int p2, .int p3, .int p4, .int p5] [] (fun ad => [.ref (ad 0), .int p1, .int p2, .int p3, .int p4, .int p5]) rfl rfl rfl rfl v.1 v.2 (T_X10_apartMore p1 p2 p3 p4 p5 s v ho)) (fun q8 => ?_)
  exact ax_jl (fun h => ax_ir hV rfl dX10_apart_11 (hP (q8.1, q8.2) h))
def mu_X10_isSheet : ax_Mu := (yX10_isSheet, cX10_isSheet, 1, some .boolean, 1, 22)
theorem lc_X10_isSheet : Cond.code mu_X10_isSheet.1 mu_X10_isSheet.2.1 mu_X10_isSheet.2.2.1 mu_X10_isSheet.2.2.2.1 ∈ ax_tb := (ax_m5 115 rfl rfl)
noncomputable def f_X10_isSheet (p1 : Int32) : Option (Int32) := (f_X10_in p1 (0 : Int32) (3 : Int32)).bind (fun q3 => (ax_zb q3).bind (fun z => some (z)))
theorem T_X10_isSheet (p1 : Int32) (s : ax_S) (r : Int32) (h : f_X10_isSheet p1 = some r) : ax_M cx_R mu_X10_isSheet (fun ad => [.int p1]) s (some (.int r)) s := by
  refine ax_enter (by decide +kernel) 0 (fun ad => [some (.int p1)]) (fun ad => rfl) (fun ad => Nat.le_of_ble_eq_true rfl) (fun X hV ho => ?_)
  refine ax_go (fun r : Int32 => (some (Value.int r), s)) (fun P hP => ?_) h ho
  unfold f_X10_isSheet
  refine ax_j (ax_iload_n hV dX10_isSheet_0 rfl) ?_
  refine ax_j (ax_iconst hV (0 : Int32) dX10_isSheet_1 (by decide)) ?_
  refine ax_j (ax_iconst hV (3 : Int32) dX10_isSheet_2 (by decide)) ?_
  refine ax_jb (fun v ho => ax_cSi hV lk_X10_97 rfl dX10_isSheet_3 [.int p1, .int (0 : Int32), .int (3 : Int32)] [] (fun ad => [.int p1, .int (0 : Int32), .int (3 : Int32)]) rfl rfl rfl rfl v s (T_X10_in p1 (0 : Int32) (3 : Int32) s v ho)) (fun q3 => ?_)
  exact ax_jz (fun v hz h => ax_zr2 hV rfl dX10_isSheet_6 v hz (hP v h))
theorem lk_X10_140 : ax_lkS RX10 140 mu_X10_isSheet 1 := ax_lkS_of (ax_m5 113 rfl rfl) (ax_m5 114 rfl rfl) (ax_m1 10 rfl rfl) lc_X10_isSheet ⟨by decide +kernel, by decide +kernel, by decide +kernel⟩
def mu_X10_meets : ax_Mu := (yX10_meets, cX10_meets, 2, some .int, 0, 0)
theorem lc_X10_meets : Cond.code mu_X10_meets.1 mu_X10_meets.2.1 mu_X10_meets.2.2.1 mu_X10_meets.2.2.2.1 ∈ ax_tb := (ax_m5 119 rfl rfl)
noncomputable def f_X10_meets (p1 : Int32) (s : ax_S) : Option (Int32 × ax_S) := some ((((-10 : Int32) - p1), (ax_ui s 0 41 p1)))
theorem T_X10_meets (p1 : Int32) (s : ax_S) (r : Int32 × ax_S) (h : f_X10_meets p1 s = some r) : ax_M cx_R mu_X10_meets (fun ad => [.ref (ad 0), .int p1]) s (some (.int r.1)) r.2 := by
  refine ax_enter (by decide +kernel) 0 (fun ad => [some (.ref (ad 0)), some (.int p1)]) (fun ad => rfl) (fun ad => Nat.le_of_ble_eq_true rfl) (fun X hV ho => ?_)
  refine ax_go (fun r : Int32 × ax_S => (some (Value.int r.1), r.2)) (fun P hP => ?_) h ho
  unfold f_X10_meets
  refine ax_j (ax_aload_n hV dX10_meets_0 rfl) ?_
  refine ax_j (ax_iload_n hV dX10_meets_1 rfl) ?_
  refine ax_j (ax_pfi hV lp_X10_297 dX10_meets_2 rfl rfl) ?_
  refine ax_j (ax_bipush hV (-10 : Int32) dX10_meets_5 (by decide)) ?_
  refine ax_j (ax_iload_n hV dX10_meets_7 rfl) ?_
  refine ax_j (ax_isub hV dX10_meets_8) ?_
  exact ax_jl (fun h => ax_ir hV rfl dX10_meets_9 (hP (((-10 : Int32) - p1), (ax_ui s 0 41 p1)) h))
theorem lk_X10_143 : ax_lkV RX10 143 mu_X10_meets RX10 1 := ax_lkV_of (ax_m5 116 rfl rfl) (ax_m5 118 rfl rfl) (ax_mp3 11 rfl rfl rfl) (ax_m1 10 rfl rfl) lc_X10_meets rfl ⟨by decide +kernel, by decide +kernel, by decide +kernel⟩
def mu_X10_read : ax_Mu := (yX10_read, cX10_read, 5, some .int, 3, 68)
theorem lc_X10_read : Cond.code mu_X10_read.1 mu_X10_read.2.1 mu_X10_read.2.2.1 mu_X10_read.2.2.2.1 ∈ ax_tb := (ax_m5 112 rfl rfl)
noncomputable def j_X10_read_32_140 (l1 : Int32) (l2 : Int32) (l3 : Int32) (k0 : Int32) (s : ax_S) : Option ((Int32 × Int32 × ax_S) ⊕ ((Int32 × ax_S) ⊕ (Int32 × ax_S))) := (if 0 ≤ k0 then some (.inl ((l2 + 1), (l3 + 5), s)) else some (.inr (.inr (l2, s))))
noncomputable def b_X10_read_32 (l1 : Int32) (a : Int32 × Int32 × ax_S) : Option ((Int32 × Int32 × ax_S) ⊕ ((Int32 × ax_S) ⊕ (Int32 × ax_S))) := (ax_ai cx_R a.2.2 24 l1).bind (fun v44 => (if (((40 : Int32) * l1) + v44) ≤ (a.2.1 + (4 : Int32)) then some (.inr (.inl (a.1, a.2.2))) else (ax_ai cx_R a.2.2 25 (a.2.1 + (2 : Int32))).bind (fun v56 => (if v56 = (-1 : Int32) then (ax_ai cx_R a.2.2 25 a.2.1).bind (fun v67 => (ax_ai cx_R a.2.2 25 (a.2.1 + (1 : Int32))).bind (fun v75 => (ax_ai cx_R a.2.2 25 (a.2.1 + (3 : Int32))).bind (fun v83 => (ax_ai cx_R a.2.2 25 (a.2.1 + (4 : Int32))).bind (fun v91 => (f_X10_onMore v67 v75 v83 v91 a.2.2).bind (fun q92 => j_X10_read_32_140 l1 a.1 a.2.1 q92.1 q92.2))))) else (ax_ai cx_R a.2.2 25 a.2.1).bind (fun v104 => (ax_ai cx_R a.2.2 25 (a.2.1 + (1 : Int32))).bind (fun v112 => (ax_ai cx_R a.2.2 25 (a.2.1 + (2 : Int32))).bind (fun v120 => (ax_ai cx_R a.2.2 25 (a.2.1 + (3 : Int32))).bind (fun v128 => (ax_ai cx_R a.2.2 25 (a.2.1 + (4 : Int32))).bind (fun v136 => (f_X10_apartMore v104 v112 v120 v128 v136 a.2.2).bind (fun q137 => j_X10_read_32_140 l1 a.1 a.2.1 q137.1 q137.2))))))))))
noncomputable def f_X10_read (p1 : Int32) (s : ax_S) : Option (Int32 × ax_S) := (f_X10_isSheet p1).bind (fun q1 => (if q1 = 0 then some (((-2 : Int32), s)) else (ax_ab cx_R s 22 p1).bind (fun v15 => (if v15 = 0 then (f_X10_meets (1 : Int32) s).bind (fun q21 => some ((q21.1, q21.2))) else (ax_lp (b_X10_read_32 p1) ((0 : Int32), ((40 : Int32) * p1), s)).bind (Sum.elim (fun e32 => some ((e32.1, e32.2))) (fun r => some (r)))))))
theorem N_X10_read_32_140 (X : ax_G × ax_K × Option Value × ax_S) (hV : ax_ok (cx_R, X) mu_X10_read) (l1 : Int32) (P : ((Int32 × Int32 × ax_S) ⊕ ((Int32 × ax_S) ⊕ (Int32 × ax_S))) → Prop) (hI : ∀ a : Int32 × Int32 × ax_S, P (.inl a) → ax_At (cx_R, X) 32 [some (.ref (ax_ad (cx_R, X) 0)), some (.int l1), some (.int a.1), some (.int a.2.1), none] [] a.2.2) (hO : ∀ e : Int32 × ax_S, P (.inr (.inl e)) → ax_At (cx_R, X) 158 [none, none, some (.int e.1), none, none] [] e.2) (hR : ∀ r : Int32 × ax_S, P (.inr (.inr r)) → X.2.2 = (fun r : Int32 × ax_S => (some (Value.int r.1), r.2)) r) (l2 : Int32) (l3 : Int32) (k0 : Int32) (s : ax_S) : ax_J (cx_R, X) P 140 [some (.ref (ax_ad (cx_R, X) 0)), some (.int l1), some (.int l2), some (.int l3), none] [.int k0] s (j_X10_read_32_140 l1 l2 l3 k0 s) := by
  unfold j_X10_read_32_140
  refine ax_j (ax_istore hV [some (.ref (ax_ad (cx_R, X) 0)), some (.int l1), some (.int l2), some (.int l3), some (.int k0)] dX10_read_140 rfl rfl) ?_
  refine ax_j (ax_iload hV dX10_read_142 rfl) ?_
  refine ax_jif (ax_if_ge hV dX10_read_144) ?_ ?_
  · refine ax_j (ax_iinc hV (l2 + 1) [some (.ref (ax_ad (cx_R, X) 0)), some (.int l1), some (.int (l2 + 1)), some (.int l3), some (.int k0)] dX10_read_149 rfl rfl rfl rfl) ?_
    refine ax_j (ax_iinc hV (l3 + 5) [some (.ref (ax_ad (cx_R, X) 0)), some (.int l1), some (.int (l2 + 1)), some (.int (l3 + 5)), some (.int k0)] dX10_read_152 rfl rfl rfl rfl) ?_
    refine ax_j (ax_goto hV dX10_read_155) ?_
    refine ax_jf (lv' := [some (.ref (ax_ad (cx_R, X) 0)), some (.int l1), some (.int (l2 + 1)), some (.int (l3 + 5)), none]) [true, true, true, true, false] rfl ?_
    exact ax_jl (fun h => hI ((l2 + 1), (l3 + 5), s) h)
  · refine ax_j (ax_iload_n hV dX10_read_147 rfl) ?_
    exact ax_jl (fun h => ax_ir hV rfl dX10_read_148 (hR (l2, s) h))
theorem B_X10_read_32 (X : ax_G × ax_K × Option Value × ax_S) (hV : ax_ok (cx_R, X) mu_X10_read) (l1 : Int32) (P : ((Int32 × Int32 × ax_S) ⊕ ((Int32 × ax_S) ⊕ (Int32 × ax_S))) → Prop) (hI : ∀ a : Int32 × Int32 × ax_S, P (.inl a) → ax_At (cx_R, X) 32 [some (.ref (ax_ad (cx_R, X) 0)), some (.int l1), some (.int a.1), some (.int a.2.1), none] [] a.2.2) (hO : ∀ e : Int32 × ax_S, P (.inr (.inl e)) → ax_At (cx_R, X) 158 [none, none, some (.int e.1), none, none] [] e.2) (hR : ∀ r : Int32 × ax_S, P (.inr (.inr r)) → X.2.2 = (fun r : Int32 × ax_S => (some (Value.int r.1), r.2)) r) (a : Int32 × Int32 × ax_S) : ax_J (cx_R, X) P 32 [some (.ref (ax_ad (cx_R, X) 0)), some (.int l1), some (.int a.1), some (.int a.2.1), none] [] a.2.2 (b_X10_read_32 l1 a) := by
  unfold b_X10_read_32
  refine ax_j (ax_iload_n hV dX10_read_32 rfl) ?_
  refine ax_j (ax_iconst hV (4 : Int32) dX10_read_33 (by decide)) ?_
  refine ax_j (ax_iadd hV dX10_read_34) ?_
  refine ax_j (ax_bipush hV (40 : Int32) dX10_read_35 (by decide)) ?_
  refine ax_j (ax_iload_n hV dX10_read_37 rfl) ?_
  refine ax_j (ax_imul hV dX10_read_38) ?_
  refine ax_j (ax_aload_n hV dX10_read_39 rfl) ?_
  refine ax_j (ax_gfr hV lf_X10_85 dX10_read_40 rfl rfl) ?_
  refine ax_j (ax_iload_n hV dX10_read_43 rfl) ?_
  refine ax_jb (ax_iald hV dX10_read_44) (fun v44 => ?_)
  refine ax_j (ax_iadd hV dX10_read_45) ?_
  refine ax_jif (ax_icmp_ge hV dX10_read_46) ?_ ?_
  · refine ax_jf (lv' := [none, none, some (.int a.1), none, none]) [false, false, true, false, false] rfl ?_
    exact ax_jl (fun h => hO (a.1, a.2.2) h)
  · refine ax_j (ax_aload_n hV dX10_read_49 rfl) ?_
    refine ax_j (ax_gfr hV lf_X10_88 dX10_read_50 rfl rfl) ?_
    refine ax_j (ax_iload_n hV dX10_read_53 rfl) ?_
    refine ax_j (ax_iconst hV (2 : Int32) dX10_read_54 (by decide)) ?_
    refine ax_j (ax_iadd hV dX10_read_55) ?_
    refine ax_jb (ax_iald hV dX10_read_56) (fun v56 => ?_)
    refine ax_j (ax_iconst hV (-1 : Int32) dX10_read_57 (by decide)) ?_
    refine ax_jif (ax_icmp_ne hV dX10_read_58) ?_ ?_
    · refine ax_j (ax_aload_n hV dX10_read_61 rfl) ?_
      refine ax_j (ax_aload_n hV dX10_read_62 rfl) ?_
      refine ax_j (ax_gfr hV lf_X10_88 dX10_read_63 rfl rfl) ?_
      refine ax_j (ax_iload_n hV dX10_read_66 rfl) ?_
      refine ax_jb (ax_iald hV dX10_read_67) (fun v67 => ?_)
      refine ax_j (ax_aload_n hV dX10_read_68 rfl) ?_
      refine ax_j (ax_gfr hV lf_X10_88 dX10_read_69 rfl rfl) ?_
      refine ax_j (ax_iload_n hV dX10_read_72 rfl) ?_
      refine ax_j (ax_iconst hV (1 : Int32) dX10_read_73 (by decide)) ?_
      refine ax_j (ax_iadd hV dX10_read_74) ?_
      refine ax_jb (ax_iald hV dX10_read_75) (fun v75 => ?_)
      refine ax_j (ax_aload_n hV dX10_read_76 rfl) ?_
      refine ax_j (ax_gfr hV lf_X10_88 dX10_read_77 rfl rfl) ?_
      refine ax_j (ax_iload_n hV dX10_read_80 rfl) ?_
      refine ax_j (ax_iconst hV (3 : Int32) dX10_read_81 (by decide)) ?_
      refine ax_j (ax_iadd hV dX10_read_82) ?_
      refine ax_jb (ax_iald hV dX10_read_83) (fun v83 => ?_)
      refine ax_j (ax_aload_n hV dX10_read_84 rfl) ?_
      refine ax_j (ax_gfr hV lf_X10_88 dX10_read_85 rfl rfl) ?_
      refine ax_j (ax_iload_n hV dX10_read_88 rfl) ?_
      refine ax_j (ax_iconst hV (4 : Int32) dX10_read_89 (by decide)) ?_
      refine ax_j (ax_iadd hV dX10_read_90) ?_
      refine ax_jb (ax_iald hV dX10_read_91) (fun v91 => ?_)
      refine ax_jb (fun v ho => ax_cVi hV lk_X10_133 rfl dX10_read_92 rfl rfl [.int v67, .int v75, .int v83, .int v91] [] (fun ad => [.ref (ad 0), .int v67, .int v75, .int v83, .int v91]) rfl rfl rfl rfl v.1 v.2 (T_X10_onMore v67 v75 v83 v91 a.2.2 v ho)) (fun q92 => ?_)
      refine ax_j (ax_goto hV dX10_read_95) ?_
      exact N_X10_read_32_140 X hV l1 P hI hO hR a.1 a.2.1 q92.1 q92.2
    · refine ax_j (ax_aload_n hV dX10_read_98 rfl) ?_
      refine ax_j (ax_aload_n hV dX10_read_99 rfl) ?_
      refine ax_j (ax_gfr hV lf_X10_88 dX10_read_100 rfl rfl) ?_
      refine ax_j (ax_iload_n hV dX10_read_103 rfl) ?_
      refine ax_jb (ax_iald hV dX10_read_104) (fun v104 => ?_)
      refine ax_j (ax_aload_n hV dX10_read_105 rfl) ?_
      refine ax_j (ax_gfr hV lf_X10_88 dX10_read_106 rfl rfl) ?_
      refine ax_j (ax_iload_n hV dX10_read_109 rfl) ?_
      refine ax_j (ax_iconst hV (1 : Int32) dX10_read_110 (by decide)) ?_
      refine ax_j (ax_iadd hV dX10_read_111) ?_
      refine ax_jb (ax_iald hV dX10_read_112) (fun v112 => ?_)
      refine ax_j (ax_aload_n hV dX10_read_113 rfl) ?_
      refine ax_j (ax_gfr hV lf_X10_88 dX10_read_114 rfl rfl) ?_
      refine ax_j (ax_iload_n hV dX10_read_117 rfl) ?_
      refine ax_j (ax_iconst hV (2 : Int32) dX10_read_118 (by decide)) ?_
      refine ax_j (ax_iadd hV dX10_read_119) ?_
      refine ax_jb (ax_iald hV dX10_read_120) (fun v120 => ?_)
      refine ax_j (ax_aload_n hV dX10_read_121 rfl) ?_
      refine ax_j (ax_gfr hV lf_X10_88 dX10_read_122 rfl rfl) ?_
      refine ax_j (ax_iload_n hV dX10_read_125 rfl) ?_
      refine ax_j (ax_iconst hV (3 : Int32) dX10_read_126 (by decide)) ?_
      refine ax_j (ax_iadd hV dX10_read_127) ?_
      refine ax_jb (ax_iald hV dX10_read_128) (fun v128 => ?_)
      refine ax_j (ax_aload_n hV dX10_read_129 rfl) ?_
      refine ax_j (ax_gfr hV lf_X10_88 dX10_read_130 rfl rfl) ?_
      refine ax_j (ax_iload_n hV dX10_read_133 rfl) ?_
      refine ax_j (ax_iconst hV (4 : Int32) dX10_read_134 (by decide)) ?_
      refine ax_j (ax_iadd hV dX10_read_135) ?_
      refine ax_jb (ax_iald hV dX10_read_136) (fun v136 => ?_)
      refine ax_jb (fun v ho => ax_cVi hV lk_X10_137 rfl dX10_read_137 rfl rfl [.int v104, .int v112, .int v120, .int v128, .int v136] [] (fun ad => [.ref (ad 0), .int v104, .int v112, .int v120, .int v128, .int v136]) rfl rfl rfl rfl v.1 v.2 (T_X10_apartMore v104 v112 v120 v128 v136 a.2.2 v ho)) (fun q137 => ?_)
      exact N_X10_read_32_140 X hV l1 P hI hO hR a.1 a.2.1 q137.1 q137.2
theorem T_X10_read (p1 : Int32) (s : ax_S) (r : Int32 × ax_S) (h : f_X10_read p1 s = some r) : ax_M cx_R mu_X10_read (fun ad => [.ref (ad 0), .int p1]) s (some (.int r.1)) r.2 := by
  refine ax_enter (by decide +kernel) 3 (fun ad => [some (.ref (ad 0)), some (.int p1), none, none, none]) (fun ad => rfl) (fun ad => Nat.le_of_ble_eq_true rfl) (fun X hV ho => ?_)
  refine ax_go (fun r : Int32 × ax_S => (some (Value.int r.1), r.2)) (fun P hP => ?_) h ho
  unfold f_X10_read
  refine ax_j (ax_iload_n hV dX10_read_0 rfl) ?_
  refine ax_jb (fun v ho => ax_cSi hV lk_X10_140 rfl dX10_read_1 [.int p1] [] (fun ad => [.int p1]) rfl rfl rfl rfl v s (T_X10_isSheet p1 s v ho)) (fun q1 => ?_)
  refine ax_jif (ax_if_ne hV dX10_read_4) ?_ ?_
  · refine ax_j (ax_bipush hV (-2 : Int32) dX10_read_7 (by decide)) ?_
    exact ax_jl (fun h => ax_ir hV rfl dX10_read_9 (hP ((-2 : Int32), s) h))
  · refine ax_j (ax_aload_n hV dX10_read_10 rfl) ?_
    refine ax_j (ax_gfr hV lf_X10_78 dX10_read_11 rfl rfl) ?_
    refine ax_j (ax_iload_n hV dX10_read_14 rfl) ?_
    refine ax_jb (ax_bald hV dX10_read_15) (fun v15 => ?_)
    refine ax_jif (ax_if_ne hV dX10_read_16) ?_ ?_
    · refine ax_j (ax_aload_n hV dX10_read_19 rfl) ?_
      refine ax_j (ax_iconst hV (1 : Int32) dX10_read_20 (by decide)) ?_
      refine ax_jb (fun v ho => ax_cVi hV lk_X10_143 rfl dX10_read_21 rfl rfl [.int (1 : Int32)] [] (fun ad => [.ref (ad 0), .int (1 : Int32)]) rfl rfl rfl rfl v.1 v.2 (T_X10_meets (1 : Int32) s v ho)) (fun q21 => ?_)
      exact ax_jl (fun h => ax_ir hV rfl dX10_read_24 (hP (q21.1, q21.2) h))
    · refine ax_j (ax_iconst hV (0 : Int32) dX10_read_25 (by decide)) ?_
      refine ax_j (ax_istore_n hV [some (.ref (ax_ad (cx_R, X) 0)), some (.int p1), some (.int (0 : Int32)), none, none] dX10_read_26 rfl rfl) ?_
      refine ax_j (ax_bipush hV (40 : Int32) dX10_read_27 (by decide)) ?_
      refine ax_j (ax_iload_n hV dX10_read_29 rfl) ?_
      refine ax_j (ax_imul hV dX10_read_30) ?_
      refine ax_j (ax_istore_n hV [some (.ref (ax_ad (cx_R, X) 0)), some (.int p1), some (.int (0 : Int32)), some (.int ((40 : Int32) * p1)), none] dX10_read_31 rfl rfl) ?_
      refine ax_jlr ((0 : Int32), ((40 : Int32) * p1), s) (fun x32 : Int32 × Int32 × ax_S => [some (.ref (ax_ad (cx_R, X) 0)), some (.int p1), some (.int x32.1), some (.int x32.2.1), none]) (fun x32 : Int32 × Int32 × ax_S => x32.2.2) (fun y32 : Int32 × ax_S => [none, none, some (.int y32.1), none, none]) (fun y32 : Int32 × ax_S => y32.2) (fun P' h1 h2 h3 w => B_X10_read_32 X hV p1 P' h1 h2 (fun r h => hP r (h3 r h)) w) (fun e32 => ?_)
      refine ax_j (ax_iload_n hV dX10_read_158 rfl) ?_
      exact ax_jl (fun h => ax_ir hV rfl dX10_read_159 (hP (e32.1, e32.2) h))

def mu_X6_addRow : ax_Mu := (yX6_addRow, cX6_addRow, 3, none, 0, 0)
theorem lc_X6_addRow : Cond.code mu_X6_addRow.1 mu_X6_addRow.2.1 mu_X6_addRow.2.2.1 mu_X6_addRow.2.2.2.1 ∈ ax_tb := (ax_m2 196 rfl rfl)
noncomputable def j_X6_addRow_39 (l1 : Int32) (k0 : Int32) (k1 : Int32) (s : ax_S) : Option (ax_S) := (ax_si cx_C s 9 k1 k0).bind (fun s39 => (ax_ai cx_C s39 20 l1).bind (fun v56 => (ax_si cx_C s39 10 (s39.1 1 6) v56).bind (fun s57 => (ax_ai cx_C s57 22 l1).bind (fun v74 => (ax_si cx_C s57 11 (s57.1 1 6) v74).bind (fun s75 => (ax_ai cx_C s75 23 l1).bind (fun v92 => (ax_si cx_C s75 12 (s75.1 1 6) v92).bind (fun s93 => some ((ax_ui s93 1 6 ((s93.1 1 6) + (1 : Int32)))))))))))
noncomputable def f_X6_addRow (p1 : Int32) (s : ax_S) : Option (ax_S) := (ax_ai cx_C s 21 p1).bind (fun v8 => (if v8 = (-1 : Int32) then (ax_ai cx_C s 19 p1).bind (fun v33 => j_X6_addRow_39 p1 ((12 : Int32) + v33) (s.1 1 6) s) else j_X6_addRow_39 p1 v8 (s.1 1 6) s))
theorem N_X6_addRow_39 (X : ax_G × ax_K × Option Value × ax_S) (hV : ax_ok (cx_C, X) mu_X6_addRow)  (P : (ax_S) → Prop) (hP : ∀ r : ax_S, P r → X.2.2 = (fun r : ax_S => ((none : Option Value), r)) r) (l1 : Int32) (k0 : Int32) (k1 : Int32) (s : ax_S) : ax_J (cx_C, X) P 39 [some (.ref (ax_ad (cx_C, X) 1)), some (.int l1), none] [.int k0, .int k1, .ref (ax_ad (cx_C, X) 9)] s (j_X6_addRow_39 l1 k0 k1 s) := by
  unfold j_X6_addRow_39
  refine ax_jb (ax_iast hV dX6_addRow_39) (fun s39 => ?_)
  refine ax_j (ax_aload_n hV dX6_addRow_40 rfl) ?_
  refine ax_j (ax_gfr hV lf_X6_29 dX6_addRow_41 rfl rfl) ?_
  refine ax_j (ax_aload_n hV dX6_addRow_44 rfl) ?_
  refine ax_j (ax_gfi hV lf_X6_38 dX6_addRow_45 rfl rfl) ?_
  refine ax_j (ax_aload_n hV dX6_addRow_48 rfl) ?_
  refine ax_j (ax_gfr hV lf_X6_12 dX6_addRow_49 rfl rfl) ?_
  refine ax_j (ax_gfr hV lf_X6_129 dX6_addRow_52 rfl rfl) ?_
  refine ax_j (ax_iload_n hV dX6_addRow_55 rfl) ?_
  refine ax_jb (ax_iald hV dX6_addRow_56) (fun v56 => ?_)
  refine ax_jb (ax_iast hV dX6_addRow_57) (fun s57 => ?_)
  refine ax_j (ax_aload_n hV dX6_addRow_58 rfl) ?_
  refine ax_j (ax_gfr hV lf_X6_32 dX6_addRow_59 rfl rfl) ?_
  refine ax_j (ax_aload_n hV dX6_addRow_62 rfl) ?_
  refine ax_j (ax_gfi hV lf_X6_38 dX6_addRow_63 rfl rfl) ?_
  refine ax_j (ax_aload_n hV dX6_addRow_66 rfl) ?_
  refine ax_j (ax_gfr hV lf_X6_12 dX6_addRow_67 rfl rfl) ?_
  refine ax_j (ax_gfr hV lf_X6_132 dX6_addRow_70 rfl rfl) ?_
  refine ax_j (ax_iload_n hV dX6_addRow_73 rfl) ?_
  refine ax_jb (ax_iald hV dX6_addRow_74) (fun v74 => ?_)
  refine ax_jb (ax_iast hV dX6_addRow_75) (fun s75 => ?_)
  refine ax_j (ax_aload_n hV dX6_addRow_76 rfl) ?_
  refine ax_j (ax_gfr hV lf_X6_35 dX6_addRow_77 rfl rfl) ?_
  refine ax_j (ax_aload_n hV dX6_addRow_80 rfl) ?_
  refine ax_j (ax_gfi hV lf_X6_38 dX6_addRow_81 rfl rfl) ?_
  refine ax_j (ax_aload_n hV dX6_addRow_84 rfl) ?_
  refine ax_j (ax_gfr hV lf_X6_12 dX6_addRow_85 rfl rfl) ?_
  refine ax_j (ax_gfr hV lf_X6_133 dX6_addRow_88 rfl rfl) ?_
  refine ax_j (ax_iload_n hV dX6_addRow_91 rfl) ?_
  refine ax_jb (ax_iald hV dX6_addRow_92) (fun v92 => ?_)
  refine ax_jb (ax_iast hV dX6_addRow_93) (fun s93 => ?_)
  refine ax_j (ax_aload_n hV dX6_addRow_94 rfl) ?_
  refine ax_j (ax_dup hV dX6_addRow_95 rfl) ?_
  refine ax_j (ax_gfi hV lf_X6_38 dX6_addRow_96 rfl rfl) ?_
  refine ax_j (ax_iconst hV (1 : Int32) dX6_addRow_99 (by decide)) ?_
  refine ax_j (ax_iadd hV dX6_addRow_100) ?_
  refine ax_j (ax_pfi hV lp_X6_38 dX6_addRow_101 rfl rfl) ?_
  exact ax_jl (fun h => ax_vr hV rfl dX6_addRow_104 (hP (ax_ui s93 1 6 ((s93.1 1 6) + (1 : Int32))) h))
theorem T_X6_addRow (p1 : Int32) (s : ax_S) (r : ax_S) (h : f_X6_addRow p1 s = some r) : ax_M cx_C mu_X6_addRow (fun ad => [.ref (ad 1), .int p1]) s none r := by
  refine ax_enter (by decide +kernel) 1 (fun ad => [some (.ref (ad 1)), some (.int p1), none]) (fun ad => rfl) (fun ad => Nat.le_of_ble_eq_true rfl) (fun X hV ho => ?_)
  refine ax_go (fun r : ax_S => ((none : Option Value), r)) (fun P hP => ?_) h ho
  unfold f_X6_addRow
  refine ax_j (ax_aload_n hV dX6_addRow_0 rfl) ?_
  refine ax_j (ax_gfr hV lf_X6_12 dX6_addRow_1 rfl rfl) ?_
  refine ax_j (ax_gfr hV lf_X6_123 dX6_addRow_4 rfl rfl) ?_
  refine ax_j (ax_iload_n hV dX6_addRow_7 rfl) ?_
  refine ax_jb (ax_iald hV dX6_addRow_8) (fun v8 => ?_)
  refine ax_j (ax_istore_n hV [some (.ref (ax_ad (cx_C, X) 1)), some (.int p1), some (.int v8)] dX6_addRow_9 rfl rfl) ?_
  refine ax_j (ax_aload_n hV dX6_addRow_10 rfl) ?_
  refine ax_j (ax_gfr hV lf_X6_25 dX6_addRow_11 rfl rfl) ?_
  refine ax_j (ax_aload_n hV dX6_addRow_14 rfl) ?_
  refine ax_j (ax_gfi hV lf_X6_38 dX6_addRow_15 rfl rfl) ?_
  refine ax_j (ax_iload_n hV dX6_addRow_18 rfl) ?_
  refine ax_j (ax_iconst hV (-1 : Int32) dX6_addRow_19 (by decide)) ?_
  refine ax_jif (ax_icmp_ne hV dX6_addRow_20) ?_ ?_
  · refine ax_j (ax_bipush hV (12 : Int32) dX6_addRow_23 (by decide)) ?_
    refine ax_j (ax_aload_n hV dX6_addRow_25 rfl) ?_
    refine ax_j (ax_gfr hV lf_X6_12 dX6_addRow_26 rfl rfl) ?_
    refine ax_j (ax_gfr hV lf_X6_126 dX6_addRow_29 rfl rfl) ?_
    refine ax_j (ax_iload_n hV dX6_addRow_32 rfl) ?_
    refine ax_jb (ax_iald hV dX6_addRow_33) (fun v33 => ?_)
    refine ax_j (ax_iadd hV dX6_addRow_34) ?_
    refine ax_j (ax_goto hV dX6_addRow_35) ?_
    refine ax_jf (lv' := [some (.ref (ax_ad (cx_C, X) 1)), some (.int p1), none]) [true, true, false] rfl ?_
    exact N_X6_addRow_39 X hV  P hP p1 ((12 : Int32) + v33) (s.1 1 6) s
  · refine ax_j (ax_iload_n hV dX6_addRow_38 rfl) ?_
    refine ax_jf (lv' := [some (.ref (ax_ad (cx_C, X) 1)), some (.int p1), none]) [true, true, false] rfl ?_
    exact N_X6_addRow_39 X hV  P hP p1 v8 (s.1 1 6) s
theorem lk_X6_119 : ax_lkV RX6 119 mu_X6_addRow RX6 1 := ax_lkV_of (ax_m2 193 rfl rfl) (ax_m2 195 rfl rfl) (ax_mp1 9 rfl rfl rfl) (ax_m1 2 rfl rfl) lc_X6_addRow rfl ⟨by decide +kernel, by decide +kernel, by decide +kernel⟩
def mu_X6_load : ax_Mu := (yX6_load, cX6_load, 4, none, 1, 23)
theorem lc_X6_load : Cond.code mu_X6_load.1 mu_X6_load.2.1 mu_X6_load.2.2.1 mu_X6_load.2.2.2.1 ∈ ax_tb := (ax_m2 187 rfl rfl)
noncomputable def b_X6_load_20 (l1 : Int64) (a : Int32 × ax_S) : Option ((Int32 × ax_S) ⊕ (ax_S)) := (if (a.2.1 3 3) ≤ a.1 then some (.inr a.2) else (ax_ai cx_C a.2 27 a.1).bind (fun v47 => (ax_si cx_C a.2 13 ((12 : Int32) + a.1) (-v47)).bind (fun s49 => (ax_ai cx_C s49 26 a.1).bind (fun v66 => (ax_si cx_C s49 14 ((12 : Int32) + a.1) (-v66)).bind (fun s68 => some (.inl ((a.1 + 1), s68)))))))
noncomputable def b_X6_load_82 (l1 : Int64) (a : Int32 × ax_S) : Option ((Int32 × ax_S) ⊕ (ax_S)) := (if (a.2.1 2 7) ≤ a.1 then some (.inr a.2) else (if (lg_cmp ((ax_lushr l1 a.1) &&& (1 : Int64)) (0 : Int64)) = 0 then some (.inl ((a.1 + 1), a.2)) else (f_X6_addRow a.1 a.2).bind (fun q105 => some (.inl ((a.1 + 1), q105)))))
noncomputable def f_X6_load (p1 : Int64) (s : ax_S) : Option (ax_S) := (f_J7_fill_53178 13 (-200000 : Int32) s).bind (fun q6 => (f_J7_fill_53178 14 (200000 : Int32) q6).bind (fun q15 => (ax_lp (b_X6_load_20 p1) ((0 : Int32), q15)).bind (fun e20 => (ax_lp (b_X6_load_82 p1) ((0 : Int32), (ax_ui e20 1 6 (0 : Int32)))).bind (fun e82 => some (e82)))))
theorem B_X6_load_20 (X : ax_G × ax_K × Option Value × ax_S) (hV : ax_ok (cx_C, X) mu_X6_load) (l1 : Int64) (P : ((Int32 × ax_S) ⊕ (ax_S)) → Prop) (hI : ∀ a : Int32 × ax_S, P (.inl a) → ax_At (cx_C, X) 20 [some (.ref (ax_ad (cx_C, X) 1)), some (.long l1), none, some (.int a.1)] [] a.2) (hO : ∀ e : ax_S, P (.inr e) → ax_At (cx_C, X) 75 [some (.ref (ax_ad (cx_C, X) 1)), some (.long l1), none, none] [] e) (a : Int32 × ax_S) : ax_J (cx_C, X) P 20 [some (.ref (ax_ad (cx_C, X) 1)), some (.long l1), none, some (.int a.1)] [] a.2 (b_X6_load_20 l1 a) := by
  unfold b_X6_load_20
  refine ax_j (ax_iload_n hV dX6_load_20 rfl) ?_
  refine ax_j (ax_aload_n hV dX6_load_21 rfl) ?_
  refine ax_j (ax_gfr hV lf_X6_21 dX6_load_22 rfl rfl) ?_
  refine ax_j (ax_gfi hV lf_X6_111 dX6_load_25 rfl rfl) ?_
  refine ax_jif (ax_icmp_ge hV dX6_load_28) ?_ ?_
  · refine ax_jf (lv' := [some (.ref (ax_ad (cx_C, X) 1)), some (.long l1), none, none]) [true, true, false, false] rfl ?_
    exact ax_jl (fun h => hO a.2 h)
  · refine ax_j (ax_aload_n hV dX6_load_31 rfl) ?_
    refine ax_j (ax_gfr hV lf_X6_42 dX6_load_32 rfl rfl) ?_
    refine ax_j (ax_bipush hV (12 : Int32) dX6_load_35 (by decide)) ?_
    refine ax_j (ax_iload_n hV dX6_load_37 rfl) ?_
    refine ax_j (ax_iadd hV dX6_load_38) ?_
    refine ax_j (ax_aload_n hV dX6_load_39 rfl) ?_
    refine ax_j (ax_gfr hV lf_X6_21 dX6_load_40 rfl rfl) ?_
    refine ax_j (ax_gfr hV lf_X6_112 dX6_load_43 rfl rfl) ?_
    refine ax_j (ax_iload_n hV dX6_load_46 rfl) ?_
    refine ax_jb (ax_iald hV dX6_load_47) (fun v47 => ?_)
    refine ax_j (ax_ineg hV dX6_load_48) ?_
    refine ax_jb (ax_iast hV dX6_load_49) (fun s49 => ?_)
    refine ax_j (ax_aload_n hV dX6_load_50 rfl) ?_
    refine ax_j (ax_gfr hV lf_X6_45 dX6_load_51 rfl rfl) ?_
    refine ax_j (ax_bipush hV (12 : Int32) dX6_load_54 (by decide)) ?_
    refine ax_j (ax_iload_n hV dX6_load_56 rfl) ?_
    refine ax_j (ax_iadd hV dX6_load_57) ?_
    refine ax_j (ax_aload_n hV dX6_load_58 rfl) ?_
    refine ax_j (ax_gfr hV lf_X6_21 dX6_load_59 rfl rfl) ?_
    refine ax_j (ax_gfr hV lf_X6_115 dX6_load_62 rfl rfl) ?_
    refine ax_j (ax_iload_n hV dX6_load_65 rfl) ?_
    refine ax_jb (ax_iald hV dX6_load_66) (fun v66 => ?_)
    refine ax_j (ax_ineg hV dX6_load_67) ?_
    refine ax_jb (ax_iast hV dX6_load_68) (fun s68 => ?_)
    refine ax_j (ax_iinc hV (a.1 + 1) [some (.ref (ax_ad (cx_C, X) 1)), some (.long l1), none, some (.int (a.1 + 1))] dX6_load_69 rfl rfl rfl rfl) ?_
    refine ax_j (ax_goto hV dX6_load_72) ?_
    exact ax_jl (fun h => hI ((a.1 + 1), s68) h)
theorem B_X6_load_82 (X : ax_G × ax_K × Option Value × ax_S) (hV : ax_ok (cx_C, X) mu_X6_load) (l1 : Int64) (P : ((Int32 × ax_S) ⊕ (ax_S)) → Prop) (hI : ∀ a : Int32 × ax_S, P (.inl a) → ax_At (cx_C, X) 82 [some (.ref (ax_ad (cx_C, X) 1)), some (.long l1), none, some (.int a.1)] [] a.2) (hO : ∀ e : ax_S, P (.inr e) → ax_At (cx_C, X) 114 [none, none, none, none] [] e) (a : Int32 × ax_S) : ax_J (cx_C, X) P 82 [some (.ref (ax_ad (cx_C, X) 1)), some (.long l1), none, some (.int a.1)] [] a.2 (b_X6_load_82 l1 a) := by
  unfold b_X6_load_82
  refine ax_j (ax_iload_n hV dX6_load_82 rfl) ?_
  refine ax_j (ax_aload_n hV dX6_load_83 rfl) ?_
  refine ax_j (ax_gfr hV lf_X6_12 dX6_load_84 rfl rfl) ?_
  refine ax_j (ax_gfi hV lf_X6_118 dX6_load_87 rfl rfl) ?_
  refine ax_jif (ax_icmp_ge hV dX6_load_90) ?_ ?_
  · refine ax_jf (lv' := [none, none, none, none]) [false, false, false, false] rfl ?_
    exact ax_jl (fun h => hO a.2 h)
  · refine ax_j (ax_lload_n hV dX6_load_93 rfl) ?_
    refine ax_j (ax_iload_n hV dX6_load_94 rfl) ?_
    refine ax_j (ax_lushr_ hV dX6_load_95) ?_
    refine ax_j (ax_lconst hV (1 : Int64) dX6_load_96 (by decide)) ?_
    refine ax_j (ax_land hV dX6_load_97) ?_
    refine ax_j (ax_lconst hV (0 : Int64) dX6_load_98 (by decide)) ?_
    refine ax_j (ax_lcmp hV dX6_load_99) ?_
    refine ax_jif (ax_if_eq hV dX6_load_100) ?_ ?_
    · refine ax_j (ax_iinc hV (a.1 + 1) [some (.ref (ax_ad (cx_C, X) 1)), some (.long l1), none, some (.int (a.1 + 1))] dX6_load_108 rfl rfl rfl rfl) ?_
      refine ax_j (ax_goto hV dX6_load_111) ?_
      exact ax_jl (fun h => hI ((a.1 + 1), a.2) h)
    · refine ax_j (ax_aload_n hV dX6_load_103 rfl) ?_
      refine ax_j (ax_iload_n hV dX6_load_104 rfl) ?_
      refine ax_jb (fun v ho => ax_cVv hV lk_X6_119 rfl dX6_load_105 rfl rfl [.int a.1] [] (fun ad => [.ref (ad 1), .int a.1]) rfl rfl rfl rfl v (T_X6_addRow a.1 a.2 v ho)) (fun q105 => ?_)
      refine ax_j (ax_iinc hV (a.1 + 1) [some (.ref (ax_ad (cx_C, X) 1)), some (.long l1), none, some (.int (a.1 + 1))] dX6_load_108 rfl rfl rfl rfl) ?_
      refine ax_j (ax_goto hV dX6_load_111) ?_
      exact ax_jl (fun h => hI ((a.1 + 1), q105) h)
theorem T_X6_load (p1 : Int64) (s : ax_S) (r : ax_S) (h : f_X6_load p1 s = some r) : ax_M cx_C mu_X6_load (fun ad => [.ref (ad 1), .long p1]) s none r := by
  refine ax_enter (by decide +kernel) 1 (fun ad => [some (.ref (ad 1)), some (.long p1), none, none]) (fun ad => rfl) (fun ad => Nat.le_of_ble_eq_true rfl) (fun X hV ho => ?_)
  refine ax_go (fun r : ax_S => ((none : Option Value), r)) (fun P hP => ?_) h ho
  unfold f_X6_load
  refine ax_j (ax_aload_n hV dX6_load_0 rfl) ?_
  refine ax_j (ax_gfr hV lf_X6_42 dX6_load_1 rfl rfl) ?_
  refine ax_j (ax_ldc hV kc_X6_109 dX6_load_4) ?_
  refine ax_jb (fun v ho => ax_cSv hV lk_X6_94 rfl dX6_load_6 [.ref (ax_ad (cx_C, X) 13), .int (-200000 : Int32)] [] (fun ad => [.ref (ad 13), .int (-200000 : Int32)]) rfl rfl rfl rfl v (T_J7_fill_53178 13 (-200000 : Int32) s v ho)) (fun q6 => ?_)
  refine ax_j (ax_aload_n hV dX6_load_9 rfl) ?_
  refine ax_j (ax_gfr hV lf_X6_45 dX6_load_10 rfl rfl) ?_
  refine ax_j (ax_ldc hV kc_X6_110 dX6_load_13) ?_
  refine ax_jb (fun v ho => ax_cSv hV lk_X6_94 rfl dX6_load_15 [.ref (ax_ad (cx_C, X) 14), .int (200000 : Int32)] [] (fun ad => [.ref (ad 14), .int (200000 : Int32)]) rfl rfl rfl rfl v (T_J7_fill_53178 14 (200000 : Int32) q6 v ho)) (fun q15 => ?_)
  refine ax_j (ax_iconst hV (0 : Int32) dX6_load_18 (by decide)) ?_
  refine ax_j (ax_istore_n hV [some (.ref (ax_ad (cx_C, X) 1)), some (.long p1), none, some (.int (0 : Int32))] dX6_load_19 rfl rfl) ?_
  refine ax_jlp ((0 : Int32), q15) (fun x20 : Int32 × ax_S => [some (.ref (ax_ad (cx_C, X) 1)), some (.long p1), none, some (.int x20.1)]) (fun x20 : Int32 × ax_S => x20.2) (fun y20 : ax_S => [some (.ref (ax_ad (cx_C, X) 1)), some (.long p1), none, none]) (fun y20 : ax_S => y20) (fun P' h1 h2 w => B_X6_load_20 X hV p1 P' h1 h2 w) (fun e20 => ?_)
  refine ax_j (ax_aload_n hV dX6_load_75 rfl) ?_
  refine ax_j (ax_iconst hV (0 : Int32) dX6_load_76 (by decide)) ?_
  refine ax_j (ax_pfi hV lp_X6_38 dX6_load_77 rfl rfl) ?_
  refine ax_j (ax_iconst hV (0 : Int32) dX6_load_80 (by decide)) ?_
  refine ax_j (ax_istore_n hV [some (.ref (ax_ad (cx_C, X) 1)), some (.long p1), none, some (.int (0 : Int32))] dX6_load_81 rfl rfl) ?_
  refine ax_jlp ((0 : Int32), (ax_ui e20 1 6 (0 : Int32))) (fun x82 : Int32 × ax_S => [some (.ref (ax_ad (cx_C, X) 1)), some (.long p1), none, some (.int x82.1)]) (fun x82 : Int32 × ax_S => x82.2) (fun y82 : ax_S => [none, none, none, none]) (fun y82 : ax_S => y82) (fun P' h1 h2 w => B_X6_load_82 X hV p1 P' h1 h2 w) (fun e82 => ?_)
  exact ax_jl (fun h => ax_vr hV rfl dX6_load_114 (hP e82 h))
theorem lk_X6_60 : ax_lkV RX6 60 mu_X6_load RX6 1 := ax_lkV_of (ax_m2 184 rfl rfl) (ax_m2 186 rfl rfl) (ax_mp1 8 rfl rfl rfl) (ax_m1 2 rfl rfl) lc_X6_load rfl ⟨by decide +kernel, by decide +kernel, by decide +kernel⟩
def mu_X6_sweep : ax_Mu := (yX6_sweep, cX6_sweep, 9, some .boolean, 0, 0)
theorem lc_X6_sweep : Cond.code mu_X6_sweep.1 mu_X6_sweep.2.1 mu_X6_sweep.2.2.1 mu_X6_sweep.2.2.2.1 ∈ ax_tb := (ax_m2 210 rfl rfl)
noncomputable def j_X6_sweep_5_116 (p1 : Nat) (l2 : Int32) (l3 : Int32) (l4 : Int32) (l5 : Int32) (l6 : Int32) (l8 : Int32) (s : ax_S) : Option ((Int32 × Int32 × ax_S) ⊕ (Int32 × ax_S)) := (ax_ai cx_C s p1 l6).bind (fun v119 => (if v119 = (1000000000 : Int32) then some (.inl (l3, (l4 + 1), s)) else (ax_ai cx_C s p1 l6).bind (fun v128 => (ax_ai cx_C s p1 l5).bind (fun v135 => (if v135 ≤ (v128 + l8) then some (.inl (l3, (l4 + 1), s)) else (ax_ai cx_C s p1 l6).bind (fun v145 => (ax_si cx_C s p1 l5 (v145 + l8)).bind (fun s149 => some (.inl ((1 : Int32), (l4 + 1), s149)))))))))
noncomputable def j_X6_sweep_5_78 (p1 : Nat) (l2 : Int32) (l3 : Int32) (l4 : Int32) (l5 : Int32) (l6 : Int32) (l7 : Int32) (k0 : Int32) (s : ax_S) : Option ((Int32 × Int32 × ax_S) ⊕ (Int32 × ax_S)) := (ax_ai cx_C s p1 l5).bind (fun v83 => (if v83 = (1000000000 : Int32) then j_X6_sweep_5_116 p1 l2 l3 l4 l5 l6 k0 s else (ax_ai cx_C s p1 l5).bind (fun v92 => (ax_ai cx_C s p1 l6).bind (fun v99 => (if v99 ≤ (v92 + l7) then j_X6_sweep_5_116 p1 l2 l3 l4 l5 l6 k0 s else (ax_ai cx_C s p1 l5).bind (fun v109 => (ax_si cx_C s p1 l6 (v109 + l7)).bind (fun s113 => j_X6_sweep_5_116 p1 l2 (1 : Int32) l4 l5 l6 k0 s113)))))))
noncomputable def j_X6_sweep_5_54 (p1 : Nat) (l2 : Int32) (l3 : Int32) (l4 : Int32) (l5 : Int32) (l6 : Int32) (k0 : Int32) (s : ax_S) : Option ((Int32 × Int32 × ax_S) ⊕ (Int32 × ax_S)) := (if l2 = 0 then (ax_ai cx_C s 12 l4).bind (fun v77 => j_X6_sweep_5_78 p1 l2 l3 l4 l5 l6 k0 v77 s) else (ax_ai cx_C s 11 l4).bind (fun v66 => j_X6_sweep_5_78 p1 l2 l3 l4 l5 l6 k0 (-v66) s))
noncomputable def b_X6_sweep_5 (p1 : Nat) (l2 : Int32) (a : Int32 × Int32 × ax_S) : Option ((Int32 × Int32 × ax_S) ⊕ (Int32 × ax_S)) := (if (a.2.2.1 1 6) ≤ a.2.1 then some (.inr (a.1, a.2.2)) else (ax_ai cx_C a.2.2 9 a.2.1).bind (fun v20 => (ax_ai cx_C a.2.2 10 a.2.1).bind (fun v29 => (if l2 = 0 then (ax_ai cx_C a.2.2 11 a.2.1).bind (fun v52 => j_X6_sweep_5_54 p1 l2 a.1 a.2.1 v20 v29 (-v52) a.2.2) else (ax_ai cx_C a.2.2 12 a.2.1).bind (fun v42 => j_X6_sweep_5_54 p1 l2 a.1 a.2.1 v20 v29 v42 a.2.2)))))
noncomputable def f_X6_sweep (p1 : Nat) (p2 : Int32) (s : ax_S) : Option (Int32 × ax_S) := (ax_lp (b_X6_sweep_5 p1 p2) ((0 : Int32), (0 : Int32), s)).bind (fun e5 => (ax_zb e5.1).bind (fun z => some ((z, e5.2))))
theorem N_X6_sweep_5_116 (X : ax_G × ax_K × Option Value × ax_S) (hV : ax_ok (cx_C, X) mu_X6_sweep) (p1 : Nat) (l2 : Int32) (P : ((Int32 × Int32 × ax_S) ⊕ (Int32 × ax_S)) → Prop) (hI : ∀ a : Int32 × Int32 × ax_S, P (.inl a) → ax_At (cx_C, X) 5 [some (.ref (ax_ad (cx_C, X) 1)), some (.ref (ax_ad (cx_C, X) p1)), some (.int l2), some (.int a.1), some (.int a.2.1), none, none, none, none] [] a.2.2) (hO : ∀ e : Int32 × ax_S, P (.inr e) → ax_At (cx_C, X) 158 [none, none, none, some (.int e.1), none, none, none, none, none] [] e.2) (l3 : Int32) (l4 : Int32) (l5 : Int32) (l6 : Int32) (l8 : Int32) (s : ax_S) : ax_J (cx_C, X) P 116 [some (.ref (ax_ad (cx_C, X) 1)), some (.ref (ax_ad (cx_C, X) p1)), some (.int l2), some (.int l3), some (.int l4), some (.int l5), some (.int l6), none, some (.int l8)] [] s (j_X6_sweep_5_116 p1 l2 l3 l4 l5 l6 l8 s) := by
  unfold j_X6_sweep_5_116
  refine ax_j (ax_aload_n hV dX6_sweep_116 rfl) ?_
  refine ax_j (ax_iload hV dX6_sweep_117 rfl) ?_
  refine ax_jb (ax_iald hV dX6_sweep_119) (fun v119 => ?_)
  refine ax_j (ax_ldc hV kc_X6_93 dX6_sweep_120) ?_
  refine ax_jif (ax_icmp_eq hV dX6_sweep_122) ?_ ?_
  · refine ax_j (ax_iinc hV (l4 + 1) [some (.ref (ax_ad (cx_C, X) 1)), some (.ref (ax_ad (cx_C, X) p1)), some (.int l2), some (.int l3), some (.int (l4 + 1)), some (.int l5), some (.int l6), none, some (.int l8)] dX6_sweep_152 rfl rfl rfl rfl) ?_
    refine ax_j (ax_goto hV dX6_sweep_155) ?_
    refine ax_jf (lv' := [some (.ref (ax_ad (cx_C, X) 1)), some (.ref (ax_ad (cx_C, X) p1)), some (.int l2), some (.int l3), some (.int (l4 + 1)), none, none, none, none]) [true, true, true, true, true, false, false, false, false] rfl ?_
    exact ax_jl (fun h => hI (l3, (l4 + 1), s) h)
  · refine ax_j (ax_aload_n hV dX6_sweep_125 rfl) ?_
    refine ax_j (ax_iload hV dX6_sweep_126 rfl) ?_
    refine ax_jb (ax_iald hV dX6_sweep_128) (fun v128 => ?_)
    refine ax_j (ax_iload hV dX6_sweep_129 rfl) ?_
    refine ax_j (ax_iadd hV dX6_sweep_131) ?_
    refine ax_j (ax_aload_n hV dX6_sweep_132 rfl) ?_
    refine ax_j (ax_iload hV dX6_sweep_133 rfl) ?_
    refine ax_jb (ax_iald hV dX6_sweep_135) (fun v135 => ?_)
    refine ax_jif (ax_icmp_ge hV dX6_sweep_136) ?_ ?_
    · refine ax_j (ax_iinc hV (l4 + 1) [some (.ref (ax_ad (cx_C, X) 1)), some (.ref (ax_ad (cx_C, X) p1)), some (.int l2), some (.int l3), some (.int (l4 + 1)), some (.int l5), some (.int l6), none, some (.int l8)] dX6_sweep_152 rfl rfl rfl rfl) ?_
      refine ax_j (ax_goto hV dX6_sweep_155) ?_
      refine ax_jf (lv' := [some (.ref (ax_ad (cx_C, X) 1)), some (.ref (ax_ad (cx_C, X) p1)), some (.int l2), some (.int l3), some (.int (l4 + 1)), none, none, none, none]) [true, true, true, true, true, false, false, false, false] rfl ?_
      exact ax_jl (fun h => hI (l3, (l4 + 1), s) h)
    · refine ax_j (ax_aload_n hV dX6_sweep_139 rfl) ?_
      refine ax_j (ax_iload hV dX6_sweep_140 rfl) ?_
      refine ax_j (ax_aload_n hV dX6_sweep_142 rfl) ?_
      refine ax_j (ax_iload hV dX6_sweep_143 rfl) ?_
      refine ax_jb (ax_iald hV dX6_sweep_145) (fun v145 => ?_)
      refine ax_j (ax_iload hV dX6_sweep_146 rfl) ?_
      refine ax_j (ax_iadd hV dX6_sweep_148) ?_
      refine ax_jb (ax_iast hV dX6_sweep_149) (fun s149 => ?_)
      refine ax_j (ax_iconst hV (1 : Int32) dX6_sweep_150 (by decide)) ?_
      refine ax_j (ax_istore_n hV [some (.ref (ax_ad (cx_C, X) 1)), some (.ref (ax_ad (cx_C, X) p1)), some (.int l2), some (.int (1 : Int32)), some (.int l4), some (.int l5), some (.int l6), none, some (.int l8)] dX6_sweep_151 rfl rfl) ?_
      refine ax_j (ax_iinc hV (l4 + 1) [some (.ref (ax_ad (cx_C, X) 1)), some (.ref (ax_ad (cx_C, X) p1)), some (.int l2), some (.int (1 : Int32)), some (.int (l4 + 1)), some (.int l5), some (.int l6), none, some (.int l8)] dX6_sweep_152 rfl rfl rfl rfl) ?_
      refine ax_j (ax_goto hV dX6_sweep_155) ?_
      refine ax_jf (lv' := [some (.ref (ax_ad (cx_C, X) 1)), some (.ref (ax_ad (cx_C, X) p1)), some (.int l2), some (.int (1 : Int32)), some (.int (l4 + 1)), none, none, none, none]) [true, true, true, true, true, false, false, false, false] rfl ?_
      exact ax_jl (fun h => hI ((1 : Int32), (l4 + 1), s149) h)
theorem N_X6_sweep_5_78 (X : ax_G × ax_K × Option Value × ax_S) (hV : ax_ok (cx_C, X) mu_X6_sweep) (p1 : Nat) (l2 : Int32) (P : ((Int32 × Int32 × ax_S) ⊕ (Int32 × ax_S)) → Prop) (hI : ∀ a : Int32 × Int32 × ax_S, P (.inl a) → ax_At (cx_C, X) 5 [some (.ref (ax_ad (cx_C, X) 1)), some (.ref (ax_ad (cx_C, X) p1)), some (.int l2), some (.int a.1), some (.int a.2.1), none, none, none, none] [] a.2.2) (hO : ∀ e : Int32 × ax_S, P (.inr e) → ax_At (cx_C, X) 158 [none, none, none, some (.int e.1), none, none, none, none, none] [] e.2) (l3 : Int32) (l4 : Int32) (l5 : Int32) (l6 : Int32) (l7 : Int32) (k0 : Int32) (s : ax_S) : ax_J (cx_C, X) P 78 [some (.ref (ax_ad (cx_C, X) 1)), some (.ref (ax_ad (cx_C, X) p1)), some (.int l2), some (.int l3), some (.int l4), some (.int l5), some (.int l6), some (.int l7), none] [.int k0] s (j_X6_sweep_5_78 p1 l2 l3 l4 l5 l6 l7 k0 s) := by
  unfold j_X6_sweep_5_78
  refine ax_j (ax_istore hV [some (.ref (ax_ad (cx_C, X) 1)), some (.ref (ax_ad (cx_C, X) p1)), some (.int l2), some (.int l3), some (.int l4), some (.int l5), some (.int l6), some (.int l7), some (.int k0)] dX6_sweep_78 rfl rfl) ?_
  refine ax_j (ax_aload_n hV dX6_sweep_80 rfl) ?_
  refine ax_j (ax_iload hV dX6_sweep_81 rfl) ?_
  refine ax_jb (ax_iald hV dX6_sweep_83) (fun v83 => ?_)
  refine ax_j (ax_ldc hV kc_X6_93 dX6_sweep_84) ?_
  refine ax_jif (ax_icmp_eq hV dX6_sweep_86) ?_ ?_
  · refine ax_jf (lv' := [some (.ref (ax_ad (cx_C, X) 1)), some (.ref (ax_ad (cx_C, X) p1)), some (.int l2), some (.int l3), some (.int l4), some (.int l5), some (.int l6), none, some (.int k0)]) [true, true, true, true, true, true, true, false, true] rfl ?_
    exact N_X6_sweep_5_116 X hV p1 l2 P hI hO l3 l4 l5 l6 k0 s
  · refine ax_j (ax_aload_n hV dX6_sweep_89 rfl) ?_
    refine ax_j (ax_iload hV dX6_sweep_90 rfl) ?_
    refine ax_jb (ax_iald hV dX6_sweep_92) (fun v92 => ?_)
    refine ax_j (ax_iload hV dX6_sweep_93 rfl) ?_
    refine ax_j (ax_iadd hV dX6_sweep_95) ?_
    refine ax_j (ax_aload_n hV dX6_sweep_96 rfl) ?_
    refine ax_j (ax_iload hV dX6_sweep_97 rfl) ?_
    refine ax_jb (ax_iald hV dX6_sweep_99) (fun v99 => ?_)
    refine ax_jif (ax_icmp_ge hV dX6_sweep_100) ?_ ?_
    · refine ax_jf (lv' := [some (.ref (ax_ad (cx_C, X) 1)), some (.ref (ax_ad (cx_C, X) p1)), some (.int l2), some (.int l3), some (.int l4), some (.int l5), some (.int l6), none, some (.int k0)]) [true, true, true, true, true, true, true, false, true] rfl ?_
      exact N_X6_sweep_5_116 X hV p1 l2 P hI hO l3 l4 l5 l6 k0 s
    · refine ax_j (ax_aload_n hV dX6_sweep_103 rfl) ?_
      refine ax_j (ax_iload hV dX6_sweep_104 rfl) ?_
      refine ax_j (ax_aload_n hV dX6_sweep_106 rfl) ?_
      refine ax_j (ax_iload hV dX6_sweep_107 rfl) ?_
      refine ax_jb (ax_iald hV dX6_sweep_109) (fun v109 => ?_)
      refine ax_j (ax_iload hV dX6_sweep_110 rfl) ?_
      refine ax_j (ax_iadd hV dX6_sweep_112) ?_
      refine ax_jb (ax_iast hV dX6_sweep_113) (fun s113 => ?_)
      refine ax_j (ax_iconst hV (1 : Int32) dX6_sweep_114 (by decide)) ?_
      refine ax_j (ax_istore_n hV [some (.ref (ax_ad (cx_C, X) 1)), some (.ref (ax_ad (cx_C, X) p1)), some (.int l2), some (.int (1 : Int32)), some (.int l4), some (.int l5), some (.int l6), some (.int l7), some (.int k0)] dX6_sweep_115 rfl rfl) ?_
      refine ax_jf (lv' := [some (.ref (ax_ad (cx_C, X) 1)), some (.ref (ax_ad (cx_C, X) p1)), some (.int l2), some (.int (1 : Int32)), some (.int l4), some (.int l5), some (.int l6), none, some (.int k0)]) [true, true, true, true, true, true, true, false, true] rfl ?_
      exact N_X6_sweep_5_116 X hV p1 l2 P hI hO (1 : Int32) l4 l5 l6 k0 s113
theorem N_X6_sweep_5_54 (X : ax_G × ax_K × Option Value × ax_S) (hV : ax_ok (cx_C, X) mu_X6_sweep) (p1 : Nat) (l2 : Int32) (P : ((Int32 × Int32 × ax_S) ⊕ (Int32 × ax_S)) → Prop) (hI : ∀ a : Int32 × Int32 × ax_S, P (.inl a) → ax_At (cx_C, X) 5 [some (.ref (ax_ad (cx_C, X) 1)), some (.ref (ax_ad (cx_C, X) p1)), some (.int l2), some (.int a.1), some (.int a.2.1), none, none, none, none] [] a.2.2) (hO : ∀ e : Int32 × ax_S, P (.inr e) → ax_At (cx_C, X) 158 [none, none, none, some (.int e.1), none, none, none, none, none] [] e.2) (l3 : Int32) (l4 : Int32) (l5 : Int32) (l6 : Int32) (k0 : Int32) (s : ax_S) : ax_J (cx_C, X) P 54 [some (.ref (ax_ad (cx_C, X) 1)), some (.ref (ax_ad (cx_C, X) p1)), some (.int l2), some (.int l3), some (.int l4), some (.int l5), some (.int l6), none, none] [.int k0] s (j_X6_sweep_5_54 p1 l2 l3 l4 l5 l6 k0 s) := by
  unfold j_X6_sweep_5_54
  refine ax_j (ax_istore hV [some (.ref (ax_ad (cx_C, X) 1)), some (.ref (ax_ad (cx_C, X) p1)), some (.int l2), some (.int l3), some (.int l4), some (.int l5), some (.int l6), some (.int k0), none] dX6_sweep_54 rfl rfl) ?_
  refine ax_j (ax_iload_n hV dX6_sweep_56 rfl) ?_
  refine ax_jif (ax_if_eq hV dX6_sweep_57) ?_ ?_
  · refine ax_j (ax_aload_n hV dX6_sweep_71 rfl) ?_
    refine ax_j (ax_gfr hV lf_X6_35 dX6_sweep_72 rfl rfl) ?_
    refine ax_j (ax_iload hV dX6_sweep_75 rfl) ?_
    refine ax_jb (ax_iald hV dX6_sweep_77) (fun v77 => ?_)
    exact N_X6_sweep_5_78 X hV p1 l2 P hI hO l3 l4 l5 l6 k0 v77 s
  · refine ax_j (ax_aload_n hV dX6_sweep_60 rfl) ?_
    refine ax_j (ax_gfr hV lf_X6_32 dX6_sweep_61 rfl rfl) ?_
    refine ax_j (ax_iload hV dX6_sweep_64 rfl) ?_
    refine ax_jb (ax_iald hV dX6_sweep_66) (fun v66 => ?_)
    refine ax_j (ax_ineg hV dX6_sweep_67) ?_
    refine ax_j (ax_goto hV dX6_sweep_68) ?_
    exact N_X6_sweep_5_78 X hV p1 l2 P hI hO l3 l4 l5 l6 k0 (-v66) s
theorem B_X6_sweep_5 (X : ax_G × ax_K × Option Value × ax_S) (hV : ax_ok (cx_C, X) mu_X6_sweep) (p1 : Nat) (l2 : Int32) (P : ((Int32 × Int32 × ax_S) ⊕ (Int32 × ax_S)) → Prop) (hI : ∀ a : Int32 × Int32 × ax_S, P (.inl a) → ax_At (cx_C, X) 5 [some (.ref (ax_ad (cx_C, X) 1)), some (.ref (ax_ad (cx_C, X) p1)), some (.int l2), some (.int a.1), some (.int a.2.1), none, none, none, none] [] a.2.2) (hO : ∀ e : Int32 × ax_S, P (.inr e) → ax_At (cx_C, X) 158 [none, none, none, some (.int e.1), none, none, none, none, none] [] e.2) (a : Int32 × Int32 × ax_S) : ax_J (cx_C, X) P 5 [some (.ref (ax_ad (cx_C, X) 1)), some (.ref (ax_ad (cx_C, X) p1)), some (.int l2), some (.int a.1), some (.int a.2.1), none, none, none, none] [] a.2.2 (b_X6_sweep_5 p1 l2 a) := by
  unfold b_X6_sweep_5
  refine ax_j (ax_iload hV dX6_sweep_5 rfl) ?_
  refine ax_j (ax_aload_n hV dX6_sweep_7 rfl) ?_
  refine ax_j (ax_gfi hV lf_X6_38 dX6_sweep_8 rfl rfl) ?_
  refine ax_jif (ax_icmp_ge hV dX6_sweep_11) ?_ ?_
  · refine ax_jf (lv' := [none, none, none, some (.int a.1), none, none, none, none, none]) [false, false, false, true, false, false, false, false, false] rfl ?_
    exact ax_jl (fun h => hO (a.1, a.2.2) h)
  · refine ax_j (ax_aload_n hV dX6_sweep_14 rfl) ?_
    refine ax_j (ax_gfr hV lf_X6_25 dX6_sweep_15 rfl rfl) ?_
    refine ax_j (ax_iload hV dX6_sweep_18 rfl) ?_
    refine ax_jb (ax_iald hV dX6_sweep_20) (fun v20 => ?_)
    refine ax_j (ax_istore hV [some (.ref (ax_ad (cx_C, X) 1)), some (.ref (ax_ad (cx_C, X) p1)), some (.int l2), some (.int a.1), some (.int a.2.1), some (.int v20), none, none, none] dX6_sweep_21 rfl rfl) ?_
    refine ax_j (ax_aload_n hV dX6_sweep_23 rfl) ?_
    refine ax_j (ax_gfr hV lf_X6_29 dX6_sweep_24 rfl rfl) ?_
    refine ax_j (ax_iload hV dX6_sweep_27 rfl) ?_
    refine ax_jb (ax_iald hV dX6_sweep_29) (fun v29 => ?_)
    refine ax_j (ax_istore hV [some (.ref (ax_ad (cx_C, X) 1)), some (.ref (ax_ad (cx_C, X) p1)), some (.int l2), some (.int a.1), some (.int a.2.1), some (.int v20), some (.int v29), none, none] dX6_sweep_30 rfl rfl) ?_
    refine ax_j (ax_iload_n hV dX6_sweep_32 rfl) ?_
    refine ax_jif (ax_if_eq hV dX6_sweep_33) ?_ ?_
    · refine ax_j (ax_aload_n hV dX6_sweep_46 rfl) ?_
      refine ax_j (ax_gfr hV lf_X6_32 dX6_sweep_47 rfl rfl) ?_
      refine ax_j (ax_iload hV dX6_sweep_50 rfl) ?_
      refine ax_jb (ax_iald hV dX6_sweep_52) (fun v52 => ?_)
      refine ax_j (ax_ineg hV dX6_sweep_53) ?_
      exact N_X6_sweep_5_54 X hV p1 l2 P hI hO a.1 a.2.1 v20 v29 (-v52) a.2.2
    · refine ax_j (ax_aload_n hV dX6_sweep_36 rfl) ?_
      refine ax_j (ax_gfr hV lf_X6_35 dX6_sweep_37 rfl rfl) ?_
      refine ax_j (ax_iload hV dX6_sweep_40 rfl) ?_
      refine ax_jb (ax_iald hV dX6_sweep_42) (fun v42 => ?_)
      refine ax_j (ax_goto hV dX6_sweep_43) ?_
      exact N_X6_sweep_5_54 X hV p1 l2 P hI hO a.1 a.2.1 v20 v29 v42 a.2.2
theorem T_X6_sweep (p1 : Nat) (p2 : Int32) (s : ax_S) (r : Int32 × ax_S) (h : f_X6_sweep p1 p2 s = some r) : ax_M cx_C mu_X6_sweep (fun ad => [.ref (ad 1), .ref (ad p1), .int p2]) s (some (.int r.1)) r.2 := by
  refine ax_enter (by decide +kernel) 6 (fun ad => [some (.ref (ad 1)), some (.ref (ad p1)), some (.int p2), none, none, none, none, none, none]) (fun ad => rfl) (fun ad => Nat.le_of_ble_eq_true rfl) (fun X hV ho => ?_)
  refine ax_go (fun r : Int32 × ax_S => (some (Value.int r.1), r.2)) (fun P hP => ?_) h ho
  unfold f_X6_sweep
  refine ax_j (ax_iconst hV (0 : Int32) dX6_sweep_0 (by decide)) ?_
  refine ax_j (ax_istore_n hV [some (.ref (ax_ad (cx_C, X) 1)), some (.ref (ax_ad (cx_C, X) p1)), some (.int p2), some (.int (0 : Int32)), none, none, none, none, none] dX6_sweep_1 rfl rfl) ?_
  refine ax_j (ax_iconst hV (0 : Int32) dX6_sweep_2 (by decide)) ?_
  refine ax_j (ax_istore hV [some (.ref (ax_ad (cx_C, X) 1)), some (.ref (ax_ad (cx_C, X) p1)), some (.int p2), some (.int (0 : Int32)), some (.int (0 : Int32)), none, none, none, none] dX6_sweep_3 rfl rfl) ?_
  refine ax_jlp ((0 : Int32), (0 : Int32), s) (fun x5 : Int32 × Int32 × ax_S => [some (.ref (ax_ad (cx_C, X) 1)), some (.ref (ax_ad (cx_C, X) p1)), some (.int p2), some (.int x5.1), some (.int x5.2.1), none, none, none, none]) (fun x5 : Int32 × Int32 × ax_S => x5.2.2) (fun y5 : Int32 × ax_S => [none, none, none, some (.int y5.1), none, none, none, none, none]) (fun y5 : Int32 × ax_S => y5.2) (fun P' h1 h2 w => B_X6_sweep_5 X hV p1 p2 P' h1 h2 w) (fun e5 => ?_)
  refine ax_j (ax_iload_n hV dX6_sweep_158 rfl) ?_
  exact ax_jz (fun v hz h => ax_zr2 hV rfl dX6_sweep_159 v hz (hP (v, e5.2) h))
theorem lk_X6_134 : ax_lkV RX6 134 mu_X6_sweep RX6 2 := ax_lkV_of (ax_m2 207 rfl rfl) (ax_m2 209 rfl rfl) (ax_mp1 11 rfl rfl rfl) (ax_m1 2 rfl rfl) lc_X6_sweep rfl ⟨by decide +kernel, by decide +kernel, by decide +kernel⟩
def mu_X6_settle : ax_Mu := (yX6_settle, cX6_settle, 5, some .boolean, 1, 28)
theorem lc_X6_settle : Cond.code mu_X6_settle.1 mu_X6_settle.2.1 mu_X6_settle.2.2.1 mu_X6_settle.2.2.2.1 ∈ ax_tb := (ax_m2 203 rfl rfl)
noncomputable def b_X6_settle_15 (p1 : Nat) (l2 : Int32) (l3 : Int32) (a : Int32 × ax_S) : Option ((Int32 × ax_S) ⊕ ((ax_S) ⊕ (Int32 × ax_S))) := (if l3 ≤ a.1 then some (.inr (.inl a.2)) else (f_X6_sweep p1 l2 a.2).bind (fun q24 => (if q24.1 = 0 then some (.inr (.inr ((1 : Int32), q24.2))) else some (.inl ((a.1 + 1), q24.2)))))
noncomputable def f_X6_settle (p1 : Nat) (p2 : Int32) (s : ax_S) : Option (Int32 × ax_S) := (ax_lp (b_X6_settle_15 p1 p2 ((ax_min (s.1 1 6) (17 : Int32)) + (1 : Int32))) ((0 : Int32), s)).bind (Sum.elim (fun e15 => some (((0 : Int32), e15))) (fun r => some (r)))
theorem B_X6_settle_15 (X : ax_G × ax_K × Option Value × ax_S) (hV : ax_ok (cx_C, X) mu_X6_settle) (p1 : Nat) (l2 : Int32) (l3 : Int32) (P : ((Int32 × ax_S) ⊕ ((ax_S) ⊕ (Int32 × ax_S))) → Prop) (hI : ∀ a : Int32 × ax_S, P (.inl a) → ax_At (cx_C, X) 15 [some (.ref (ax_ad (cx_C, X) 1)), some (.ref (ax_ad (cx_C, X) p1)), some (.int l2), some (.int l3), some (.int a.1)] [] a.2) (hO : ∀ e : ax_S, P (.inr (.inl e)) → ax_At (cx_C, X) 38 [none, none, none, none, none] [] e) (hR : ∀ r : Int32 × ax_S, P (.inr (.inr r)) → X.2.2 = (fun r : Int32 × ax_S => (some (Value.int r.1), r.2)) r) (a : Int32 × ax_S) : ax_J (cx_C, X) P 15 [some (.ref (ax_ad (cx_C, X) 1)), some (.ref (ax_ad (cx_C, X) p1)), some (.int l2), some (.int l3), some (.int a.1)] [] a.2 (b_X6_settle_15 p1 l2 l3 a) := by
  unfold b_X6_settle_15
  refine ax_j (ax_iload hV dX6_settle_15 rfl) ?_
  refine ax_j (ax_iload_n hV dX6_settle_17 rfl) ?_
  refine ax_jif (ax_icmp_ge hV dX6_settle_18) ?_ ?_
  · refine ax_jf (lv' := [none, none, none, none, none]) [false, false, false, false, false] rfl ?_
    exact ax_jl (fun h => hO a.2 h)
  · refine ax_j (ax_aload_n hV dX6_settle_21 rfl) ?_
    refine ax_j (ax_aload_n hV dX6_settle_22 rfl) ?_
    refine ax_j (ax_iload_n hV dX6_settle_23 rfl) ?_
    refine ax_jb (fun v ho => ax_cVi hV lk_X6_134 rfl dX6_settle_24 rfl rfl [.ref (ax_ad (cx_C, X) p1), .int l2] [] (fun ad => [.ref (ad 1), .ref (ad p1), .int l2]) rfl rfl rfl rfl v.1 v.2 (T_X6_sweep p1 l2 a.2 v ho)) (fun q24 => ?_)
    refine ax_jif (ax_if_ne hV dX6_settle_27) ?_ ?_
    · refine ax_j (ax_iconst hV (1 : Int32) dX6_settle_30 (by decide)) ?_
      exact ax_jl (fun h => ax_zr hV rfl (by decide) dX6_settle_31 (hR ((1 : Int32), q24.2) h))
    · refine ax_j (ax_iinc hV (a.1 + 1) [some (.ref (ax_ad (cx_C, X) 1)), some (.ref (ax_ad (cx_C, X) p1)), some (.int l2), some (.int l3), some (.int (a.1 + 1))] dX6_settle_32 rfl rfl rfl rfl) ?_
      refine ax_j (ax_goto hV dX6_settle_35) ?_
      exact ax_jl (fun h => hI ((a.1 + 1), q24.2) h)
theorem T_X6_settle (p1 : Nat) (p2 : Int32) (s : ax_S) (r : Int32 × ax_S) (h : f_X6_settle p1 p2 s = some r) : ax_M cx_C mu_X6_settle (fun ad => [.ref (ad 1), .ref (ad p1), .int p2]) s (some (.int r.1)) r.2 := by
  refine ax_enter (by decide +kernel) 2 (fun ad => [some (.ref (ad 1)), some (.ref (ad p1)), some (.int p2), none, none]) (fun ad => rfl) (fun ad => Nat.le_of_ble_eq_true rfl) (fun X hV ho => ?_)
  refine ax_go (fun r : Int32 × ax_S => (some (Value.int r.1), r.2)) (fun P hP => ?_) h ho
  unfold f_X6_settle
  refine ax_j (ax_aload_n hV dX6_settle_0 rfl) ?_
  refine ax_j (ax_gfi hV lf_X6_38 dX6_settle_1 rfl rfl) ?_
  refine ax_j (ax_bipush hV (17 : Int32) dX6_settle_4 (by decide)) ?_
  refine ax_j (ax_mmin hV lm_X6_100 rfl dX6_settle_6) ?_
  refine ax_j (ax_iconst hV (1 : Int32) dX6_settle_9 (by decide)) ?_
  refine ax_j (ax_iadd hV dX6_settle_10) ?_
  refine ax_j (ax_istore_n hV [some (.ref (ax_ad (cx_C, X) 1)), some (.ref (ax_ad (cx_C, X) p1)), some (.int p2), some (.int ((ax_min (s.1 1 6) (17 : Int32)) + (1 : Int32))), none] dX6_settle_11 rfl rfl) ?_
  refine ax_j (ax_iconst hV (0 : Int32) dX6_settle_12 (by decide)) ?_
  refine ax_j (ax_istore hV [some (.ref (ax_ad (cx_C, X) 1)), some (.ref (ax_ad (cx_C, X) p1)), some (.int p2), some (.int ((ax_min (s.1 1 6) (17 : Int32)) + (1 : Int32))), some (.int (0 : Int32))] dX6_settle_13 rfl rfl) ?_
  refine ax_jlr ((0 : Int32), s) (fun x15 : Int32 × ax_S => [some (.ref (ax_ad (cx_C, X) 1)), some (.ref (ax_ad (cx_C, X) p1)), some (.int p2), some (.int ((ax_min (s.1 1 6) (17 : Int32)) + (1 : Int32))), some (.int x15.1)]) (fun x15 : Int32 × ax_S => x15.2) (fun y15 : ax_S => [none, none, none, none, none]) (fun y15 : ax_S => y15) (fun P' h1 h2 h3 w => B_X6_settle_15 X hV p1 p2 ((ax_min (s.1 1 6) (17 : Int32)) + (1 : Int32)) P' h1 h2 (fun r h => hP r (h3 r h)) w) (fun e15 => ?_)
  refine ax_j (ax_iconst hV (0 : Int32) dX6_settle_38 (by decide)) ?_
  exact ax_jl (fun h => ax_zr hV rfl (by decide) dX6_settle_39 (hP ((0 : Int32), e15) h))
theorem lk_X6_70 : ax_lkV RX6 70 mu_X6_settle RX6 2 := ax_lkV_of (ax_m2 200 rfl rfl) (ax_m2 202 rfl rfl) (ax_mp1 10 rfl rfl rfl) (ax_m1 2 rfl rfl) lc_X6_settle rfl ⟨by decide +kernel, by decide +kernel, by decide +kernel⟩
def mu_X6_canHold : ax_Mu := (yX6_canHold, cX6_canHold, 4, some .boolean, 2, 52)
theorem lc_X6_canHold : Cond.code mu_X6_canHold.1 mu_X6_canHold.2.1 mu_X6_canHold.2.2.1 mu_X6_canHold.2.2.2.1 ∈ ax_tb := (ax_m2 183 rfl rfl)
noncomputable def b_X6_canHold_36 (s : ax_S) (a : Int32) : Option ((Int32) ⊕ ((Unit) ⊕ (Int32 × ax_S))) := (if (18 : Int32) ≤ a then some (.inr (.inl ())) else (ax_ai cx_C s 15 a).bind (fun v47 => (ax_ai cx_C s 13 a).bind (fun v53 => (if v53 ≤ v47 then some (.inl (a + 1)) else some (.inr (.inr ((0 : Int32), s)))))))
noncomputable def f_X6_canHold (p1 : Int64) (s : ax_S) : Option (Int32 × ax_S) := (f_X6_load p1 s).bind (fun q2 => (ax_cp cx_C q2 14 (0 : Int32) 15 (0 : Int32) (18 : Int32)).bind (fun s17 => (f_X6_settle 15 (1 : Int32) s17).bind (fun q26 => (if q26.1 = 0 then some (((0 : Int32), q26.2)) else (ax_lp (b_X6_canHold_36 q26.2) (0 : Int32)).bind (Sum.elim (fun e36 => some (((1 : Int32), q26.2))) (fun r => some (r)))))))
theorem B_X6_canHold_36 (X : ax_G × ax_K × Option Value × ax_S) (hV : ax_ok (cx_C, X) mu_X6_canHold) (s : ax_S) (P : ((Int32) ⊕ ((Unit) ⊕ (Int32 × ax_S))) → Prop) (hI : ∀ a : Int32, P (.inl a) → ax_At (cx_C, X) 36 [some (.ref (ax_ad (cx_C, X) 1)), none, none, some (.int a)] [] s) (hO : ∀ e : Unit, P (.inr (.inl e)) → ax_At (cx_C, X) 65 [none, none, none, none] [] s) (hR : ∀ r : Int32 × ax_S, P (.inr (.inr r)) → X.2.2 = (fun r : Int32 × ax_S => (some (Value.int r.1), r.2)) r) (a : Int32) : ax_J (cx_C, X) P 36 [some (.ref (ax_ad (cx_C, X) 1)), none, none, some (.int a)] [] s (b_X6_canHold_36 s a) := by
  unfold b_X6_canHold_36
  refine ax_j (ax_iload_n hV dX6_canHold_36 rfl) ?_
  refine ax_j (ax_bipush hV (18 : Int32) dX6_canHold_37 (by decide)) ?_
  refine ax_jif (ax_icmp_ge hV dX6_canHold_39) ?_ ?_
  · refine ax_jf (lv' := [none, none, none, none]) [false, false, false, false] rfl ?_
    exact ax_jl (fun h => hO () h)
  · refine ax_j (ax_aload_n hV dX6_canHold_42 rfl) ?_
    refine ax_j (ax_gfr hV lf_X6_48 dX6_canHold_43 rfl rfl) ?_
    refine ax_j (ax_iload_n hV dX6_canHold_46 rfl) ?_
    refine ax_jb (ax_iald hV dX6_canHold_47) (fun v47 => ?_)
    refine ax_j (ax_aload_n hV dX6_canHold_48 rfl) ?_
    refine ax_j (ax_gfr hV lf_X6_42 dX6_canHold_49 rfl rfl) ?_
    refine ax_j (ax_iload_n hV dX6_canHold_52 rfl) ?_
    refine ax_jb (ax_iald hV dX6_canHold_53) (fun v53 => ?_)
    refine ax_jif (ax_icmp_ge hV dX6_canHold_54) ?_ ?_
    · refine ax_j (ax_iinc hV (a + 1) [some (.ref (ax_ad (cx_C, X) 1)), none, none, some (.int (a + 1))] dX6_canHold_59 rfl rfl rfl rfl) ?_
      refine ax_j (ax_goto hV dX6_canHold_62) ?_
      exact ax_jl (fun h => hI (a + 1) h)
    · refine ax_j (ax_iconst hV (0 : Int32) dX6_canHold_57 (by decide)) ?_
      exact ax_jl (fun h => ax_zr hV rfl (by decide) dX6_canHold_58 (hR ((0 : Int32), s) h))
theorem T_X6_canHold (p1 : Int64) (s : ax_S) (r : Int32 × ax_S) (h : f_X6_canHold p1 s = some r) : ax_M cx_C mu_X6_canHold (fun ad => [.ref (ad 1), .long p1]) s (some (.int r.1)) r.2 := by
  refine ax_enter (by decide +kernel) 1 (fun ad => [some (.ref (ad 1)), some (.long p1), none, none]) (fun ad => rfl) (fun ad => Nat.le_of_ble_eq_true rfl) (fun X hV ho => ?_)
  refine ax_go (fun r : Int32 × ax_S => (some (Value.int r.1), r.2)) (fun P hP => ?_) h ho
  unfold f_X6_canHold
  refine ax_j (ax_aload_n hV dX6_canHold_0 rfl) ?_
  refine ax_j (ax_lload_n hV dX6_canHold_1 rfl) ?_
  refine ax_jb (fun v ho => ax_cVv hV lk_X6_60 rfl dX6_canHold_2 rfl rfl [.long p1] [] (fun ad => [.ref (ad 1), .long p1]) rfl rfl rfl rfl v (T_X6_load p1 s v ho)) (fun q2 => ?_)
  refine ax_j (ax_aload_n hV dX6_canHold_5 rfl) ?_
  refine ax_j (ax_gfr hV lf_X6_45 dX6_canHold_6 rfl rfl) ?_
  refine ax_j (ax_iconst hV (0 : Int32) dX6_canHold_9 (by decide)) ?_
  refine ax_j (ax_aload_n hV dX6_canHold_10 rfl) ?_
  refine ax_j (ax_gfr hV lf_X6_48 dX6_canHold_11 rfl rfl) ?_
  refine ax_j (ax_iconst hV (0 : Int32) dX6_canHold_14 (by decide)) ?_
  refine ax_j (ax_bipush hV (18 : Int32) dX6_canHold_15 (by decide)) ?_
  refine ax_jb (ax_copy hV lm_X6_64 rfl dX6_canHold_17) (fun s17 => ?_)
  refine ax_j (ax_aload_n hV dX6_canHold_20 rfl) ?_
  refine ax_j (ax_aload_n hV dX6_canHold_21 rfl) ?_
  refine ax_j (ax_gfr hV lf_X6_48 dX6_canHold_22 rfl rfl) ?_
  refine ax_j (ax_iconst hV (1 : Int32) dX6_canHold_25 (by decide)) ?_
  refine ax_jb (fun v ho => ax_cVi hV lk_X6_70 rfl dX6_canHold_26 rfl rfl [.ref (ax_ad (cx_C, X) 15), .int (1 : Int32)] [] (fun ad => [.ref (ad 1), .ref (ad 15), .int (1 : Int32)]) rfl rfl rfl rfl v.1 v.2 (T_X6_settle 15 (1 : Int32) s17 v ho)) (fun q26 => ?_)
  refine ax_jif (ax_if_ne hV dX6_canHold_29) ?_ ?_
  · refine ax_j (ax_iconst hV (0 : Int32) dX6_canHold_32 (by decide)) ?_
    exact ax_jl (fun h => ax_zr hV rfl (by decide) dX6_canHold_33 (hP ((0 : Int32), q26.2) h))
  · refine ax_j (ax_iconst hV (0 : Int32) dX6_canHold_34 (by decide)) ?_
    refine ax_j (ax_istore_n hV [some (.ref (ax_ad (cx_C, X) 1)), some (.long p1), none, some (.int (0 : Int32))] dX6_canHold_35 rfl rfl) ?_
    refine ax_jf (lv' := [some (.ref (ax_ad (cx_C, X) 1)), none, none, some (.int (0 : Int32))]) [true, false, false, true] rfl ?_
    refine ax_jlr (0 : Int32) (fun x36 : Int32 => [some (.ref (ax_ad (cx_C, X) 1)), none, none, some (.int x36)]) (fun x36 : Int32 => q26.2) (fun y36 : Unit => [none, none, none, none]) (fun y36 : Unit => q26.2) (fun P' h1 h2 h3 w => B_X6_canHold_36 X hV q26.2 P' h1 h2 (fun r h => hP r (h3 r h)) w) (fun e36 => ?_)
    refine ax_j (ax_iconst hV (1 : Int32) dX6_canHold_65 (by decide)) ?_
    exact ax_jl (fun h => ax_zr hV rfl (by decide) dX6_canHold_66 (hP ((1 : Int32), q26.2) h))
theorem lk_X3_51 : ax_lkV RX3 51 mu_X6_canHold RX6 1 := ax_lkV_of (ax_m3 149 rfl rfl) (ax_m2 181 rfl rfl) (ax_m2 182 rfl rfl) (ax_m1 2 rfl rfl) lc_X6_canHold rfl ⟨by decide +kernel, by decide +kernel, by decide +kernel⟩
theorem lk_X6_74 : ax_lkV RX6 74 mu_X6_canHold RX6 1 := ax_lkV_of (ax_m2 227 rfl rfl) (ax_m2 181 rfl rfl) (ax_m2 182 rfl rfl) (ax_m1 2 rfl rfl) lc_X6_canHold rfl ⟨by decide +kernel, by decide +kernel, by decide +kernel⟩
theorem lk_X9_167 : ax_lkV RX9 167 mu_X6_canHold RX6 1 := ax_lkV_of (ax_m2 180 rfl rfl) (ax_m2 181 rfl rfl) (ax_m2 182 rfl rfl) (ax_m1 2 rfl rfl) lc_X6_canHold rfl ⟨by decide +kernel, by decide +kernel, by decide +kernel⟩
def mu_X3_trustOf : ax_Mu := (yX3_trustOf, cX3_trustOf, 5, some .int, 0, 0)
theorem lc_X3_trustOf : Cond.code mu_X3_trustOf.1 mu_X3_trustOf.2.1 mu_X3_trustOf.2.2.1 mu_X3_trustOf.2.2.2.1 ∈ ax_tb := (ax_m3 153 rfl rfl)
noncomputable def b_X3_trustOf_5 (l2 : Int32) (s : ax_S) (a : Int32 × Int32) : Option ((Int32 × Int32) ⊕ (Int32)) := (if (s.1 4 1) ≤ a.2 then some (.inr a.1) else (if ((ax_iushr l2 a.2) &&& (1 : Int32)) = 0 then some (.inl (a.1, (a.2 + 1))) else (ax_ai cx_C s 29 a.2).bind (fun v44 => (ax_ai cx_C s 19 v44).bind (fun v45 => (ax_ai cx_C s 28 v45).bind (fun v46 => some (.inl ((a.1 + v46), (a.2 + 1))))))))
noncomputable def f_X3_trustOf (p2 : Int32) (s : ax_S) : Option (Int32) := (ax_lp (b_X3_trustOf_5 p2 s) ((0 : Int32), (0 : Int32))).bind (fun e5 => some (e5))
theorem B_X3_trustOf_5 (X : ax_G × ax_K × Option Value × ax_S) (hV : ax_ok (cx_C, X) mu_X3_trustOf) (l2 : Int32) (s : ax_S) (P : ((Int32 × Int32) ⊕ (Int32)) → Prop) (hI : ∀ a : Int32 × Int32, P (.inl a) → ax_At (cx_C, X) 5 [some (.ref (ax_ad (cx_C, X) 4)), some (.ref (ax_ad (cx_C, X) 1)), some (.int l2), some (.int a.1), some (.int a.2)] [] s) (hO : ∀ e : Int32, P (.inr e) → ax_At (cx_C, X) 55 [none, none, none, some (.int e), none] [] s) (a : Int32 × Int32) : ax_J (cx_C, X) P 5 [some (.ref (ax_ad (cx_C, X) 4)), some (.ref (ax_ad (cx_C, X) 1)), some (.int l2), some (.int a.1), some (.int a.2)] [] s (b_X3_trustOf_5 l2 s a) := by
  unfold b_X3_trustOf_5
  refine ax_j (ax_iload hV dX3_trustOf_5 rfl) ?_
  refine ax_j (ax_aload_n hV dX3_trustOf_7 rfl) ?_
  refine ax_j (ax_gfi hV lf_X3_15 dX3_trustOf_8 rfl rfl) ?_
  refine ax_jif (ax_icmp_ge hV dX3_trustOf_11) ?_ ?_
  · refine ax_jf (lv' := [none, none, none, some (.int a.1), none]) [false, false, false, true, false] rfl ?_
    exact ax_jl (fun h => hO a.1 h)
  · refine ax_j (ax_iload_n hV dX3_trustOf_14 rfl) ?_
    refine ax_j (ax_iload hV dX3_trustOf_15 rfl) ?_
    refine ax_j (ax_iushr_ hV dX3_trustOf_17) ?_
    refine ax_j (ax_iconst hV (1 : Int32) dX3_trustOf_18 (by decide)) ?_
    refine ax_j (ax_iand hV dX3_trustOf_19) ?_
    refine ax_jif (ax_if_eq hV dX3_trustOf_20) ?_ ?_
    · refine ax_j (ax_iinc hV (a.2 + 1) [some (.ref (ax_ad (cx_C, X) 4)), some (.ref (ax_ad (cx_C, X) 1)), some (.int l2), some (.int a.1), some (.int (a.2 + 1))] dX3_trustOf_49 rfl rfl rfl rfl) ?_
      refine ax_j (ax_goto hV dX3_trustOf_52) ?_
      exact ax_jl (fun h => hI (a.1, (a.2 + 1)) h)
    · refine ax_j (ax_iload_n hV dX3_trustOf_23 rfl) ?_
      refine ax_j (ax_aload_n hV dX3_trustOf_24 rfl) ?_
      refine ax_j (ax_gfr hV lf_X3_69 dX3_trustOf_25 rfl rfl) ?_
      refine ax_j (ax_gfr hV lf_X3_73 dX3_trustOf_28 rfl rfl) ?_
      refine ax_j (ax_aload_n hV dX3_trustOf_31 rfl) ?_
      refine ax_j (ax_gfr hV lf_X3_78 dX3_trustOf_32 rfl rfl) ?_
      refine ax_j (ax_gfr hV lf_X3_82 dX3_trustOf_35 rfl rfl) ?_
      refine ax_j (ax_aload_n hV dX3_trustOf_38 rfl) ?_
      refine ax_j (ax_gfr hV lf_X3_9 dX3_trustOf_39 rfl rfl) ?_
      refine ax_j (ax_iload hV dX3_trustOf_42 rfl) ?_
      refine ax_jb (ax_iald hV dX3_trustOf_44) (fun v44 => ?_)
      refine ax_jb (ax_iald hV dX3_trustOf_45) (fun v45 => ?_)
      refine ax_jb (ax_iald hV dX3_trustOf_46) (fun v46 => ?_)
      refine ax_j (ax_iadd hV dX3_trustOf_47) ?_
      refine ax_j (ax_istore_n hV [some (.ref (ax_ad (cx_C, X) 4)), some (.ref (ax_ad (cx_C, X) 1)), some (.int l2), some (.int (a.1 + v46)), some (.int a.2)] dX3_trustOf_48 rfl rfl) ?_
      refine ax_j (ax_iinc hV (a.2 + 1) [some (.ref (ax_ad (cx_C, X) 4)), some (.ref (ax_ad (cx_C, X) 1)), some (.int l2), some (.int (a.1 + v46)), some (.int (a.2 + 1))] dX3_trustOf_49 rfl rfl rfl rfl) ?_
      refine ax_j (ax_goto hV dX3_trustOf_52) ?_
      exact ax_jl (fun h => hI ((a.1 + v46), (a.2 + 1)) h)
theorem T_X3_trustOf (p2 : Int32) (s : ax_S) (r : Int32) (h : f_X3_trustOf p2 s = some r) : ax_M cx_C mu_X3_trustOf (fun ad => [.ref (ad 4), .ref (ad 1), .int p2]) s (some (.int r)) s := by
  refine ax_enter (by decide +kernel) 2 (fun ad => [some (.ref (ad 4)), some (.ref (ad 1)), some (.int p2), none, none]) (fun ad => rfl) (fun ad => Nat.le_of_ble_eq_true rfl) (fun X hV ho => ?_)
  refine ax_go (fun r : Int32 => (some (Value.int r), s)) (fun P hP => ?_) h ho
  unfold f_X3_trustOf
  refine ax_j (ax_iconst hV (0 : Int32) dX3_trustOf_0 (by decide)) ?_
  refine ax_j (ax_istore_n hV [some (.ref (ax_ad (cx_C, X) 4)), some (.ref (ax_ad (cx_C, X) 1)), some (.int p2), some (.int (0 : Int32)), none] dX3_trustOf_1 rfl rfl) ?_
  refine ax_j (ax_iconst hV (0 : Int32) dX3_trustOf_2 (by decide)) ?_
  refine ax_j (ax_istore hV [some (.ref (ax_ad (cx_C, X) 4)), some (.ref (ax_ad (cx_C, X) 1)), some (.int p2), some (.int (0 : Int32)), some (.int (0 : Int32))] dX3_trustOf_3 rfl rfl) ?_
  refine ax_jlp ((0 : Int32), (0 : Int32)) (fun x5 : Int32 × Int32 => [some (.ref (ax_ad (cx_C, X) 4)), some (.ref (ax_ad (cx_C, X) 1)), some (.int p2), some (.int x5.1), some (.int x5.2)]) (fun x5 : Int32 × Int32 => s) (fun y5 : Int32 => [none, none, none, some (.int y5), none]) (fun y5 : Int32 => s) (fun P' h1 h2 w => B_X3_trustOf_5 X hV p2 s P' h1 h2 w) (fun e5 => ?_)
  refine ax_j (ax_iload_n hV dX3_trustOf_55 rfl) ?_
  exact ax_jl (fun h => ax_ir hV rfl dX3_trustOf_56 (hP e5 h))
theorem lk_X3_57 : ax_lkV RX3 57 mu_X3_trustOf RX3 2 := ax_lkV_of (ax_m3 150 rfl rfl) (ax_m3 152 rfl rfl) (ax_mp2 6 rfl rfl rfl) (ax_m1 5 rfl rfl) lc_X3_trustOf rfl ⟨by decide +kernel, by decide +kernel, by decide +kernel⟩
def mu_X3_keep : ax_Mu := (yX3_keep, cX3_keep, 4, none, 0, 0)
theorem lc_X3_keep : Cond.code mu_X3_keep.1 mu_X3_keep.2.1 mu_X3_keep.2.2.1 mu_X3_keep.2.2.2.1 ∈ ax_tb := (ax_m3 157 rfl rfl)
noncomputable def f_X3_keep (p1 : Int64) (p2 : Int32) (s : ax_S) : Option (ax_S) := (if (lg_cmp (s.2 4 3) (0 : Int64)) = 0 then some ((ax_ui (ax_ul s 4 3 p1) 4 4 p2)) else (if (s.1 4 4) ≤ p2 then some (s) else some ((ax_ui (ax_ul s 4 3 p1) 4 4 p2))))
theorem T_X3_keep (p1 : Int64) (p2 : Int32) (s : ax_S) (r : ax_S) (h : f_X3_keep p1 p2 s = some r) : ax_M cx_C mu_X3_keep (fun ad => [.ref (ad 4), .long p1, .int p2]) s none r := by
  refine ax_enter (by decide +kernel) 0 (fun ad => [some (.ref (ad 4)), some (.long p1), none, some (.int p2)]) (fun ad => rfl) (fun ad => Nat.le_of_ble_eq_true rfl) (fun X hV ho => ?_)
  refine ax_go (fun r : ax_S => ((none : Option Value), r)) (fun P hP => ?_) h ho
  unfold f_X3_keep
  refine ax_j (ax_aload_n hV dX3_keep_0 rfl) ?_
  refine ax_j (ax_gfl hV lf_X3_22 dX3_keep_1 rfl rfl) ?_
  refine ax_j (ax_lconst hV (0 : Int64) dX3_keep_4 (by decide)) ?_
  refine ax_j (ax_lcmp hV dX3_keep_5) ?_
  refine ax_jif (ax_if_eq hV dX3_keep_6) ?_ ?_
  · refine ax_j (ax_aload_n hV dX3_keep_17 rfl) ?_
    refine ax_j (ax_lload_n hV dX3_keep_18 rfl) ?_
    refine ax_j (ax_pfl hV lp_X3_22 dX3_keep_19 rfl rfl) ?_
    refine ax_j (ax_aload_n hV dX3_keep_22 rfl) ?_
    refine ax_j (ax_iload_n hV dX3_keep_23 rfl) ?_
    refine ax_j (ax_pfi hV lp_X3_26 dX3_keep_24 rfl rfl) ?_
    exact ax_jl (fun h => ax_vr hV rfl dX3_keep_27 (hP (ax_ui (ax_ul s 4 3 p1) 4 4 p2) h))
  · refine ax_j (ax_iload_n hV dX3_keep_9 rfl) ?_
    refine ax_j (ax_aload_n hV dX3_keep_10 rfl) ?_
    refine ax_j (ax_gfi hV lf_X3_26 dX3_keep_11 rfl rfl) ?_
    refine ax_jif (ax_icmp_ge hV dX3_keep_14) ?_ ?_
    · exact ax_jl (fun h => ax_vr hV rfl dX3_keep_27 (hP s h))
    · refine ax_j (ax_aload_n hV dX3_keep_17 rfl) ?_
      refine ax_j (ax_lload_n hV dX3_keep_18 rfl) ?_
      refine ax_j (ax_pfl hV lp_X3_22 dX3_keep_19 rfl rfl) ?_
      refine ax_j (ax_aload_n hV dX3_keep_22 rfl) ?_
      refine ax_j (ax_iload_n hV dX3_keep_23 rfl) ?_
      refine ax_j (ax_pfi hV lp_X3_26 dX3_keep_24 rfl rfl) ?_
      exact ax_jl (fun h => ax_vr hV rfl dX3_keep_27 (hP (ax_ui (ax_ul s 4 3 p1) 4 4 p2) h))
theorem lk_X3_61 : ax_lkV RX3 61 mu_X3_keep RX3 2 := ax_lkV_of (ax_m3 154 rfl rfl) (ax_m3 156 rfl rfl) (ax_mp2 7 rfl rfl rfl) (ax_m1 5 rfl rfl) lc_X3_keep rfl ⟨by decide +kernel, by decide +kernel, by decide +kernel⟩
def mu_X3_blameAll : ax_Mu := (yX3_blameAll, cX3_blameAll, 3, none, 0, 0)
theorem lc_X3_blameAll : Cond.code mu_X3_blameAll.1 mu_X3_blameAll.2.1 mu_X3_blameAll.2.2.1 mu_X3_blameAll.2.2.2.1 ∈ ax_tb := (ax_m3 161 rfl rfl)
noncomputable def b_X3_blameAll_2 (l1 : Int32) (a : Int32 × ax_S) : Option ((Int32 × ax_S) ⊕ (ax_S)) := (if (a.2.1 4 1) ≤ a.1 then some (.inr a.2) else (if ((ax_iushr l1 a.1) &&& (1 : Int32)) = 0 then some (.inl ((a.1 + 1), a.2)) else (ax_ai cx_C a.2 29 a.1).bind (fun v27 => (ax_ai cx_C a.2 30 v27).bind (fun v29 => (ax_si cx_C a.2 30 v27 (v29 + (1 : Int32))).bind (fun s32 => some (.inl ((a.1 + 1), s32)))))))
noncomputable def f_X3_blameAll (p1 : Int32) (s : ax_S) : Option (ax_S) := (ax_lp (b_X3_blameAll_2 p1) ((0 : Int32), s)).bind (fun e2 => some (e2))
theorem B_X3_blameAll_2 (X : ax_G × ax_K × Option Value × ax_S) (hV : ax_ok (cx_C, X) mu_X3_blameAll) (l1 : Int32) (P : ((Int32 × ax_S) ⊕ (ax_S)) → Prop) (hI : ∀ a : Int32 × ax_S, P (.inl a) → ax_At (cx_C, X) 2 [some (.ref (ax_ad (cx_C, X) 4)), some (.int l1), some (.int a.1)] [] a.2) (hO : ∀ e : ax_S, P (.inr e) → ax_At (cx_C, X) 39 [none, none, none] [] e) (a : Int32 × ax_S) : ax_J (cx_C, X) P 2 [some (.ref (ax_ad (cx_C, X) 4)), some (.int l1), some (.int a.1)] [] a.2 (b_X3_blameAll_2 l1 a) := by
  unfold b_X3_blameAll_2
  refine ax_j (ax_iload_n hV dX3_blameAll_2 rfl) ?_
  refine ax_j (ax_aload_n hV dX3_blameAll_3 rfl) ?_
  refine ax_j (ax_gfi hV lf_X3_15 dX3_blameAll_4 rfl rfl) ?_
  refine ax_jif (ax_icmp_ge hV dX3_blameAll_7) ?_ ?_
  · refine ax_jf (lv' := [none, none, none]) [false, false, false] rfl ?_
    exact ax_jl (fun h => hO a.2 h)
  · refine ax_j (ax_iload_n hV dX3_blameAll_10 rfl) ?_
    refine ax_j (ax_iload_n hV dX3_blameAll_11 rfl) ?_
    refine ax_j (ax_iushr_ hV dX3_blameAll_12) ?_
    refine ax_j (ax_iconst hV (1 : Int32) dX3_blameAll_13 (by decide)) ?_
    refine ax_j (ax_iand hV dX3_blameAll_14) ?_
    refine ax_jif (ax_if_eq hV dX3_blameAll_15) ?_ ?_
    · refine ax_j (ax_iinc hV (a.1 + 1) [some (.ref (ax_ad (cx_C, X) 4)), some (.int l1), some (.int (a.1 + 1))] dX3_blameAll_33 rfl rfl rfl rfl) ?_
      refine ax_j (ax_goto hV dX3_blameAll_36) ?_
      exact ax_jl (fun h => hI ((a.1 + 1), a.2) h)
    · refine ax_j (ax_aload_n hV dX3_blameAll_18 rfl) ?_
      refine ax_j (ax_gfr hV lf_X3_19 dX3_blameAll_19 rfl rfl) ?_
      refine ax_j (ax_aload_n hV dX3_blameAll_22 rfl) ?_
      refine ax_j (ax_gfr hV lf_X3_9 dX3_blameAll_23 rfl rfl) ?_
      refine ax_j (ax_iload_n hV dX3_blameAll_26 rfl) ?_
      refine ax_jb (ax_iald hV dX3_blameAll_27) (fun v27 => ?_)
      refine ax_j (ax_dup2 hV dX3_blameAll_28 rfl rfl) ?_
      refine ax_jb (ax_iald hV dX3_blameAll_29) (fun v29 => ?_)
      refine ax_j (ax_iconst hV (1 : Int32) dX3_blameAll_30 (by decide)) ?_
      refine ax_j (ax_iadd hV dX3_blameAll_31) ?_
      refine ax_jb (ax_iast hV dX3_blameAll_32) (fun s32 => ?_)
      refine ax_j (ax_iinc hV (a.1 + 1) [some (.ref (ax_ad (cx_C, X) 4)), some (.int l1), some (.int (a.1 + 1))] dX3_blameAll_33 rfl rfl rfl rfl) ?_
      refine ax_j (ax_goto hV dX3_blameAll_36) ?_
      exact ax_jl (fun h => hI ((a.1 + 1), s32) h)
theorem T_X3_blameAll (p1 : Int32) (s : ax_S) (r : ax_S) (h : f_X3_blameAll p1 s = some r) : ax_M cx_C mu_X3_blameAll (fun ad => [.ref (ad 4), .int p1]) s none r := by
  refine ax_enter (by decide +kernel) 1 (fun ad => [some (.ref (ad 4)), some (.int p1), none]) (fun ad => rfl) (fun ad => Nat.le_of_ble_eq_true rfl) (fun X hV ho => ?_)
  refine ax_go (fun r : ax_S => ((none : Option Value), r)) (fun P hP => ?_) h ho
  unfold f_X3_blameAll
  refine ax_j (ax_iconst hV (0 : Int32) dX3_blameAll_0 (by decide)) ?_
  refine ax_j (ax_istore_n hV [some (.ref (ax_ad (cx_C, X) 4)), some (.int p1), some (.int (0 : Int32))] dX3_blameAll_1 rfl rfl) ?_
  refine ax_jlp ((0 : Int32), s) (fun x2 : Int32 × ax_S => [some (.ref (ax_ad (cx_C, X) 4)), some (.int p1), some (.int x2.1)]) (fun x2 : Int32 × ax_S => x2.2) (fun y2 : ax_S => [none, none, none]) (fun y2 : ax_S => y2) (fun P' h1 h2 w => B_X3_blameAll_2 X hV p1 P' h1 h2 w) (fun e2 => ?_)
  exact ax_jl (fun h => ax_vr hV rfl dX3_blameAll_39 (hP e2 h))
theorem lk_X3_65 : ax_lkV RX3 65 mu_X3_blameAll RX3 1 := ax_lkV_of (ax_m3 158 rfl rfl) (ax_m3 160 rfl rfl) (ax_mp2 8 rfl rfl rfl) (ax_m1 5 rfl rfl) lc_X3_blameAll rfl ⟨by decide +kernel, by decide +kernel, by decide +kernel⟩
def mu_X3_tryAllOfSize : ax_Mu := (yX3_tryAllOfSize, cX3_tryAllOfSize, 8, none, 3, 75)
theorem lc_X3_tryAllOfSize : Cond.code mu_X3_tryAllOfSize.1 mu_X3_tryAllOfSize.2.1 mu_X3_tryAllOfSize.2.2.1 mu_X3_tryAllOfSize.2.2.2.1 ∈ ax_tb := (ax_m3 137 rfl rfl)
noncomputable def b_X3_tryAllOfSize_3 (l2 : Int64) (l4 : Int32) (a : Int32 × ax_S) : Option ((Int32 × ax_S) ⊕ (ax_S)) := (if ((1 : Int32) <<< ((a.2.1 4 1) &&& 31)) ≤ a.1 then some (.inr a.2) else (f_J6_bitCount_0f7a4 a.1).bind (fun q16 => (if q16 = l4 then (f_X3_rowsOf a.1 a.2).bind (fun q27 => (f_X6_canHold (l2 &&& (q27 ^^^ (-1 : Int64))) a.2).bind (fun q41 => (if q41.1 = 0 then some (.inl ((a.1 + 1), q41.2)) else (f_X3_trustOf a.1 q41.2).bind (fun q54 => (f_X3_keep q27 q54 q41.2).bind (fun q57 => (f_X3_blameAll a.1 q57).bind (fun q63 => some (.inl ((a.1 + 1), q63)))))))) else some (.inl ((a.1 + 1), a.2)))))
noncomputable def f_X3_tryAllOfSize (p2 : Int64) (p3 : Int32) (s : ax_S) : Option (ax_S) := (ax_lp (b_X3_tryAllOfSize_3 p2 p3) ((1 : Int32), s)).bind (fun e3 => some (e3))
theorem B_X3_tryAllOfSize_3 (X : ax_G × ax_K × Option Value × ax_S) (hV : ax_ok (cx_C, X) mu_X3_tryAllOfSize) (l2 : Int64) (l4 : Int32) (P : ((Int32 × ax_S) ⊕ (ax_S)) → Prop) (hI : ∀ a : Int32 × ax_S, P (.inl a) → ax_At (cx_C, X) 3 [some (.ref (ax_ad (cx_C, X) 4)), some (.ref (ax_ad (cx_C, X) 1)), some (.long l2), none, some (.int l4), some (.int a.1), none, none] [] a.2) (hO : ∀ e : ax_S, P (.inr e) → ax_At (cx_C, X) 72 [none, none, none, none, none, none, none, none] [] e) (a : Int32 × ax_S) : ax_J (cx_C, X) P 3 [some (.ref (ax_ad (cx_C, X) 4)), some (.ref (ax_ad (cx_C, X) 1)), some (.long l2), none, some (.int l4), some (.int a.1), none, none] [] a.2 (b_X3_tryAllOfSize_3 l2 l4 a) := by
  unfold b_X3_tryAllOfSize_3
  refine ax_j (ax_iload hV dX3_tryAllOfSize_3 rfl) ?_
  refine ax_j (ax_iconst hV (1 : Int32) dX3_tryAllOfSize_5 (by decide)) ?_
  refine ax_j (ax_aload_n hV dX3_tryAllOfSize_6 rfl) ?_
  refine ax_j (ax_gfi hV lf_X3_15 dX3_tryAllOfSize_7 rfl rfl) ?_
  refine ax_j (ax_ishl hV dX3_tryAllOfSize_10) ?_
  refine ax_jif (ax_icmp_ge hV dX3_tryAllOfSize_11) ?_ ?_
  · refine ax_jf (lv' := [none, none, none, none, none, none, none, none]) [false, false, false, false, false, false, false, false] rfl ?_
    exact ax_jl (fun h => hO a.2 h)
  · refine ax_j (ax_iload hV dX3_tryAllOfSize_14 rfl) ?_
    refine ax_jb (fun v ho => ax_cSi hV lk_X3_39 rfl dX3_tryAllOfSize_16 [.int a.1] [] (fun ad => [.int a.1]) rfl rfl rfl rfl v a.2 (T_J6_bitCount_0f7a4 a.1 a.2 v ho)) (fun q16 => ?_)
    refine ax_j (ax_iload hV dX3_tryAllOfSize_19 rfl) ?_
    refine ax_jif (ax_icmp_ne hV dX3_tryAllOfSize_21) ?_ ?_
    · refine ax_j (ax_aload_n hV dX3_tryAllOfSize_24 rfl) ?_
      refine ax_j (ax_iload hV dX3_tryAllOfSize_25 rfl) ?_
      refine ax_jb (fun v ho => ax_cVl hV lk_X3_45 rfl dX3_tryAllOfSize_27 rfl rfl [.int a.1] [] (fun ad => [.ref (ad 4), .int a.1]) rfl rfl rfl rfl v a.2 (T_X3_rowsOf a.1 a.2 v ho)) (fun q27 => ?_)
      refine ax_j (ax_lstore hV [some (.ref (ax_ad (cx_C, X) 4)), some (.ref (ax_ad (cx_C, X) 1)), some (.long l2), none, some (.int l4), some (.int a.1), some (.long q27), none] dX3_tryAllOfSize_30 rfl rfl) ?_
      refine ax_j (ax_aload_n hV dX3_tryAllOfSize_32 rfl) ?_
      refine ax_j (ax_lload_n hV dX3_tryAllOfSize_33 rfl) ?_
      refine ax_j (ax_lload hV dX3_tryAllOfSize_34 rfl) ?_
      refine ax_j (ax_ldc2 hV kc_X3_49 dX3_tryAllOfSize_36) ?_
      refine ax_j (ax_lxor hV dX3_tryAllOfSize_39) ?_
      refine ax_j (ax_land hV dX3_tryAllOfSize_40) ?_
      refine ax_jb (fun v ho => ax_cVi hV lk_X3_51 rfl dX3_tryAllOfSize_41 rfl rfl [.long (l2 &&& (q27 ^^^ (-1 : Int64)))] [] (fun ad => [.ref (ad 1), .long (l2 &&& (q27 ^^^ (-1 : Int64)))]) rfl rfl rfl rfl v.1 v.2 (T_X6_canHold (l2 &&& (q27 ^^^ (-1 : Int64))) a.2 v ho)) (fun q41 => ?_)
      refine ax_jif (ax_if_eq hV dX3_tryAllOfSize_44) ?_ ?_
      · refine ax_j (ax_iinc hV (a.1 + 1) [some (.ref (ax_ad (cx_C, X) 4)), some (.ref (ax_ad (cx_C, X) 1)), some (.long l2), none, some (.int l4), some (.int (a.1 + 1)), some (.long q27), none] dX3_tryAllOfSize_66 rfl rfl rfl rfl) ?_
        refine ax_j (ax_goto hV dX3_tryAllOfSize_69) ?_
        refine ax_jf (lv' := [some (.ref (ax_ad (cx_C, X) 4)), some (.ref (ax_ad (cx_C, X) 1)), some (.long l2), none, some (.int l4), some (.int (a.1 + 1)), none, none]) [true, true, true, false, true, true, false, false] rfl ?_
        exact ax_jl (fun h => hI ((a.1 + 1), q41.2) h)
      · refine ax_j (ax_aload_n hV dX3_tryAllOfSize_47 rfl) ?_
        refine ax_j (ax_lload hV dX3_tryAllOfSize_48 rfl) ?_
        refine ax_j (ax_aload_n hV dX3_tryAllOfSize_50 rfl) ?_
        refine ax_j (ax_aload_n hV dX3_tryAllOfSize_51 rfl) ?_
        refine ax_j (ax_iload hV dX3_tryAllOfSize_52 rfl) ?_
        refine ax_jb (fun v ho => ax_cVi hV lk_X3_57 rfl dX3_tryAllOfSize_54 rfl rfl [.ref (ax_ad (cx_C, X) 1), .int a.1] [.long q27, .ref (ax_ad (cx_C, X) 4)] (fun ad => [.ref (ad 4), .ref (ad 1), .int a.1]) rfl rfl rfl rfl v q41.2 (T_X3_trustOf a.1 q41.2 v ho)) (fun q54 => ?_)
        refine ax_jb (fun v ho => ax_cVv hV lk_X3_61 rfl dX3_tryAllOfSize_57 rfl rfl [.long q27, .int q54] [] (fun ad => [.ref (ad 4), .long q27, .int q54]) rfl rfl rfl rfl v (T_X3_keep q27 q54 q41.2 v ho)) (fun q57 => ?_)
        refine ax_j (ax_aload_n hV dX3_tryAllOfSize_60 rfl) ?_
        refine ax_j (ax_iload hV dX3_tryAllOfSize_61 rfl) ?_
        refine ax_jb (fun v ho => ax_cVv hV lk_X3_65 rfl dX3_tryAllOfSize_63 rfl rfl [.int a.1] [] (fun ad => [.ref (ad 4), .int a.1]) rfl rfl rfl rfl v (T_X3_blameAll a.1 q57 v ho)) (fun q63 => ?_)
        refine ax_j (ax_iinc hV (a.1 + 1) [some (.ref (ax_ad (cx_C, X) 4)), some (.ref (ax_ad (cx_C, X) 1)), some (.long l2), none, some (.int l4), some (.int (a.1 + 1)), some (.long q27), none] dX3_tryAllOfSize_66 rfl rfl rfl rfl) ?_
        refine ax_j (ax_goto hV dX3_tryAllOfSize_69) ?_
        refine ax_jf (lv' := [some (.ref (ax_ad (cx_C, X) 4)), some (.ref (ax_ad (cx_C, X) 1)), some (.long l2), none, some (.int l4), some (.int (a.1 + 1)), none, none]) [true, true, true, false, true, true, false, false] rfl ?_
        exact ax_jl (fun h => hI ((a.1 + 1), q63) h)
    · refine ax_j (ax_iinc hV (a.1 + 1) [some (.ref (ax_ad (cx_C, X) 4)), some (.ref (ax_ad (cx_C, X) 1)), some (.long l2), none, some (.int l4), some (.int (a.1 + 1)), none, none] dX3_tryAllOfSize_66 rfl rfl rfl rfl) ?_
      refine ax_j (ax_goto hV dX3_tryAllOfSize_69) ?_
      exact ax_jl (fun h => hI ((a.1 + 1), a.2) h)
theorem T_X3_tryAllOfSize (p2 : Int64) (p3 : Int32) (s : ax_S) (r : ax_S) (h : f_X3_tryAllOfSize p2 p3 s = some r) : ax_M cx_C mu_X3_tryAllOfSize (fun ad => [.ref (ad 4), .ref (ad 1), .long p2, .int p3]) s none r := by
  refine ax_enter (by decide +kernel) 3 (fun ad => [some (.ref (ad 4)), some (.ref (ad 1)), some (.long p2), none, some (.int p3), none, none, none]) (fun ad => rfl) (fun ad => Nat.le_of_ble_eq_true rfl) (fun X hV ho => ?_)
  refine ax_go (fun r : ax_S => ((none : Option Value), r)) (fun P hP => ?_) h ho
  unfold f_X3_tryAllOfSize
  refine ax_j (ax_iconst hV (1 : Int32) dX3_tryAllOfSize_0 (by decide)) ?_
  refine ax_j (ax_istore hV [some (.ref (ax_ad (cx_C, X) 4)), some (.ref (ax_ad (cx_C, X) 1)), some (.long p2), none, some (.int p3), some (.int (1 : Int32)), none, none] dX3_tryAllOfSize_1 rfl rfl) ?_
  refine ax_jlp ((1 : Int32), s) (fun x3 : Int32 × ax_S => [some (.ref (ax_ad (cx_C, X) 4)), some (.ref (ax_ad (cx_C, X) 1)), some (.long p2), none, some (.int p3), some (.int x3.1), none, none]) (fun x3 : Int32 × ax_S => x3.2) (fun y3 : ax_S => [none, none, none, none, none, none, none, none]) (fun y3 : ax_S => y3) (fun P' h1 h2 w => B_X3_tryAllOfSize_3 X hV p2 p3 P' h1 h2 w) (fun e3 => ?_)
  exact ax_jl (fun h => ax_vr hV rfl dX3_tryAllOfSize_72 (hP e3 h))
theorem lk_X3_35 : ax_lkV RX3 35 mu_X3_tryAllOfSize RX3 3 := ax_lkV_of (ax_m3 134 rfl rfl) (ax_m3 136 rfl rfl) (ax_mp2 4 rfl rfl rfl) (ax_m1 5 rfl rfl) lc_X3_tryAllOfSize rfl ⟨by decide +kernel, by decide +kernel, by decide +kernel⟩
def mu_X3_search : ax_Mu := (yX3_search, cX3_search, 5, none, 4, 102)
theorem lc_X3_search : Cond.code mu_X3_search.1 mu_X3_search.2.1 mu_X3_search.2.2.1 mu_X3_search.2.2.2.1 ∈ ax_tb := (ax_m3 133 rfl rfl)
noncomputable def b_X3_search_3 (l2 : Int64) (a : Int32 × ax_S) : Option ((Int32 × ax_S) ⊕ (ax_S)) := (if (40 : Int32) ≤ a.1 then some (.inr a.2) else (if (lg_cmp ((ax_lushr l2 a.1) &&& (1 : Int64)) (0 : Int64)) = 0 then some (.inl ((a.1 + 1), a.2)) else (if (12 : Int32) ≤ (a.2.1 4 1) then some (.inl ((a.1 + 1), a.2)) else (ax_si cx_C a.2 29 (a.2.1 4 1) a.1).bind (fun s40 => some (.inl ((a.1 + 1), (ax_ui s40 4 1 ((s40.1 4 1) + (1 : Int32)))))))))
noncomputable def b_X3_search_60 (l2 : Int64) (a : Int32 × ax_S) : Option ((Int32 × ax_S) ⊕ (ax_S)) := (if (a.2.1 4 1) < a.1 then some (.inr a.2) else (if (lg_cmp (a.2.2 4 3) (0 : Int64)) = 0 then (f_X3_tryAllOfSize l2 a.1 a.2).bind (fun q83 => some (.inl ((a.1 + 1), q83))) else some (.inr a.2)))
noncomputable def f_X3_search (p2 : Int64) (s : ax_S) : Option (ax_S) := (ax_lp (b_X3_search_3 p2) ((0 : Int32), s)).bind (fun e3 => (ax_lp (b_X3_search_60 p2) ((1 : Int32), e3)).bind (fun e60 => some (e60)))
theorem B_X3_search_3 (X : ax_G × ax_K × Option Value × ax_S) (hV : ax_ok (cx_C, X) mu_X3_search) (l2 : Int64) (P : ((Int32 × ax_S) ⊕ (ax_S)) → Prop) (hI : ∀ a : Int32 × ax_S, P (.inl a) → ax_At (cx_C, X) 3 [some (.ref (ax_ad (cx_C, X) 4)), some (.ref (ax_ad (cx_C, X) 1)), some (.long l2), none, some (.int a.1)] [] a.2) (hO : ∀ e : ax_S, P (.inr e) → ax_At (cx_C, X) 57 [some (.ref (ax_ad (cx_C, X) 4)), some (.ref (ax_ad (cx_C, X) 1)), some (.long l2), none, none] [] e) (a : Int32 × ax_S) : ax_J (cx_C, X) P 3 [some (.ref (ax_ad (cx_C, X) 4)), some (.ref (ax_ad (cx_C, X) 1)), some (.long l2), none, some (.int a.1)] [] a.2 (b_X3_search_3 l2 a) := by
  unfold b_X3_search_3
  refine ax_j (ax_iload hV dX3_search_3 rfl) ?_
  refine ax_j (ax_bipush hV (40 : Int32) dX3_search_5 (by decide)) ?_
  refine ax_jif (ax_icmp_ge hV dX3_search_7) ?_ ?_
  · refine ax_jf (lv' := [some (.ref (ax_ad (cx_C, X) 4)), some (.ref (ax_ad (cx_C, X) 1)), some (.long l2), none, none]) [true, true, true, false, false] rfl ?_
    exact ax_jl (fun h => hO a.2 h)
  · refine ax_j (ax_lload_n hV dX3_search_10 rfl) ?_
    refine ax_j (ax_iload hV dX3_search_11 rfl) ?_
    refine ax_j (ax_lushr_ hV dX3_search_13) ?_
    refine ax_j (ax_lconst hV (1 : Int64) dX3_search_14 (by decide)) ?_
    refine ax_j (ax_land hV dX3_search_15) ?_
    refine ax_j (ax_lconst hV (0 : Int64) dX3_search_16 (by decide)) ?_
    refine ax_j (ax_lcmp hV dX3_search_17) ?_
    refine ax_jif (ax_if_eq hV dX3_search_18) ?_ ?_
    · refine ax_j (ax_iinc hV (a.1 + 1) [some (.ref (ax_ad (cx_C, X) 4)), some (.ref (ax_ad (cx_C, X) 1)), some (.long l2), none, some (.int (a.1 + 1))] dX3_search_51 rfl rfl rfl rfl) ?_
      refine ax_j (ax_goto hV dX3_search_54) ?_
      exact ax_jl (fun h => hI ((a.1 + 1), a.2) h)
    · refine ax_j (ax_aload_n hV dX3_search_21 rfl) ?_
      refine ax_j (ax_gfi hV lf_X3_15 dX3_search_22 rfl rfl) ?_
      refine ax_j (ax_bipush hV (12 : Int32) dX3_search_25 (by decide)) ?_
      refine ax_jif (ax_icmp_ge hV dX3_search_27) ?_ ?_
      · refine ax_j (ax_iinc hV (a.1 + 1) [some (.ref (ax_ad (cx_C, X) 4)), some (.ref (ax_ad (cx_C, X) 1)), some (.long l2), none, some (.int (a.1 + 1))] dX3_search_51 rfl rfl rfl rfl) ?_
        refine ax_j (ax_goto hV dX3_search_54) ?_
        exact ax_jl (fun h => hI ((a.1 + 1), a.2) h)
      · refine ax_j (ax_aload_n hV dX3_search_30 rfl) ?_
        refine ax_j (ax_gfr hV lf_X3_9 dX3_search_31 rfl rfl) ?_
        refine ax_j (ax_aload_n hV dX3_search_34 rfl) ?_
        refine ax_j (ax_gfi hV lf_X3_15 dX3_search_35 rfl rfl) ?_
        refine ax_j (ax_iload hV dX3_search_38 rfl) ?_
        refine ax_jb (ax_iast hV dX3_search_40) (fun s40 => ?_)
        refine ax_j (ax_aload_n hV dX3_search_41 rfl) ?_
        refine ax_j (ax_dup hV dX3_search_42 rfl) ?_
        refine ax_j (ax_gfi hV lf_X3_15 dX3_search_43 rfl rfl) ?_
        refine ax_j (ax_iconst hV (1 : Int32) dX3_search_46 (by decide)) ?_
        refine ax_j (ax_iadd hV dX3_search_47) ?_
        refine ax_j (ax_pfi hV lp_X3_15 dX3_search_48 rfl rfl) ?_
        refine ax_j (ax_iinc hV (a.1 + 1) [some (.ref (ax_ad (cx_C, X) 4)), some (.ref (ax_ad (cx_C, X) 1)), some (.long l2), none, some (.int (a.1 + 1))] dX3_search_51 rfl rfl rfl rfl) ?_
        refine ax_j (ax_goto hV dX3_search_54) ?_
        exact ax_jl (fun h => hI ((a.1 + 1), (ax_ui s40 4 1 ((s40.1 4 1) + (1 : Int32)))) h)
theorem B_X3_search_60 (X : ax_G × ax_K × Option Value × ax_S) (hV : ax_ok (cx_C, X) mu_X3_search) (l2 : Int64) (P : ((Int32 × ax_S) ⊕ (ax_S)) → Prop) (hI : ∀ a : Int32 × ax_S, P (.inl a) → ax_At (cx_C, X) 60 [some (.ref (ax_ad (cx_C, X) 4)), some (.ref (ax_ad (cx_C, X) 1)), some (.long l2), none, some (.int a.1)] [] a.2) (hO : ∀ e : ax_S, P (.inr e) → ax_At (cx_C, X) 92 [none, none, none, none, none] [] e) (a : Int32 × ax_S) : ax_J (cx_C, X) P 60 [some (.ref (ax_ad (cx_C, X) 4)), some (.ref (ax_ad (cx_C, X) 1)), some (.long l2), none, some (.int a.1)] [] a.2 (b_X3_search_60 l2 a) := by
  unfold b_X3_search_60
  refine ax_j (ax_iload hV dX3_search_60 rfl) ?_
  refine ax_j (ax_aload_n hV dX3_search_62 rfl) ?_
  refine ax_j (ax_gfi hV lf_X3_15 dX3_search_63 rfl rfl) ?_
  refine ax_jif (ax_icmp_gt hV dX3_search_66) ?_ ?_
  · refine ax_jf (lv' := [none, none, none, none, none]) [false, false, false, false, false] rfl ?_
    exact ax_jl (fun h => hO a.2 h)
  · refine ax_j (ax_aload_n hV dX3_search_69 rfl) ?_
    refine ax_j (ax_gfl hV lf_X3_22 dX3_search_70 rfl rfl) ?_
    refine ax_j (ax_lconst hV (0 : Int64) dX3_search_73 (by decide)) ?_
    refine ax_j (ax_lcmp hV dX3_search_74) ?_
    refine ax_jif (ax_if_ne hV dX3_search_75) ?_ ?_
    · refine ax_j (ax_aload_n hV dX3_search_78 rfl) ?_
      refine ax_j (ax_aload_n hV dX3_search_79 rfl) ?_
      refine ax_j (ax_lload_n hV dX3_search_80 rfl) ?_
      refine ax_j (ax_iload hV dX3_search_81 rfl) ?_
      refine ax_jb (fun v ho => ax_cVv hV lk_X3_35 rfl dX3_search_83 rfl rfl [.ref (ax_ad (cx_C, X) 1), .long l2, .int a.1] [] (fun ad => [.ref (ad 4), .ref (ad 1), .long l2, .int a.1]) rfl rfl rfl rfl v (T_X3_tryAllOfSize l2 a.1 a.2 v ho)) (fun q83 => ?_)
      refine ax_j (ax_iinc hV (a.1 + 1) [some (.ref (ax_ad (cx_C, X) 4)), some (.ref (ax_ad (cx_C, X) 1)), some (.long l2), none, some (.int (a.1 + 1))] dX3_search_86 rfl rfl rfl rfl) ?_
      refine ax_j (ax_goto hV dX3_search_89) ?_
      exact ax_jl (fun h => hI ((a.1 + 1), q83) h)
    · refine ax_jf (lv' := [none, none, none, none, none]) [false, false, false, false, false] rfl ?_
      exact ax_jl (fun h => hO a.2 h)
theorem T_X3_search (p2 : Int64) (s : ax_S) (r : ax_S) (h : f_X3_search p2 s = some r) : ax_M cx_C mu_X3_search (fun ad => [.ref (ad 4), .ref (ad 1), .long p2]) s none r := by
  refine ax_enter (by decide +kernel) 1 (fun ad => [some (.ref (ad 4)), some (.ref (ad 1)), some (.long p2), none, none]) (fun ad => rfl) (fun ad => Nat.le_of_ble_eq_true rfl) (fun X hV ho => ?_)
  refine ax_go (fun r : ax_S => ((none : Option Value), r)) (fun P hP => ?_) h ho
  unfold f_X3_search
  refine ax_j (ax_iconst hV (0 : Int32) dX3_search_0 (by decide)) ?_
  refine ax_j (ax_istore hV [some (.ref (ax_ad (cx_C, X) 4)), some (.ref (ax_ad (cx_C, X) 1)), some (.long p2), none, some (.int (0 : Int32))] dX3_search_1 rfl rfl) ?_
  refine ax_jlp ((0 : Int32), s) (fun x3 : Int32 × ax_S => [some (.ref (ax_ad (cx_C, X) 4)), some (.ref (ax_ad (cx_C, X) 1)), some (.long p2), none, some (.int x3.1)]) (fun x3 : Int32 × ax_S => x3.2) (fun y3 : ax_S => [some (.ref (ax_ad (cx_C, X) 4)), some (.ref (ax_ad (cx_C, X) 1)), some (.long p2), none, none]) (fun y3 : ax_S => y3) (fun P' h1 h2 w => B_X3_search_3 X hV p2 P' h1 h2 w) (fun e3 => ?_)
  refine ax_j (ax_iconst hV (1 : Int32) dX3_search_57 (by decide)) ?_
  refine ax_j (ax_istore hV [some (.ref (ax_ad (cx_C, X) 4)), some (.ref (ax_ad (cx_C, X) 1)), some (.long p2), none, some (.int (1 : Int32))] dX3_search_58 rfl rfl) ?_
  refine ax_jlp ((1 : Int32), e3) (fun x60 : Int32 × ax_S => [some (.ref (ax_ad (cx_C, X) 4)), some (.ref (ax_ad (cx_C, X) 1)), some (.long p2), none, some (.int x60.1)]) (fun x60 : Int32 × ax_S => x60.2) (fun y60 : ax_S => [none, none, none, none, none]) (fun y60 : ax_S => y60) (fun P' h1 h2 w => B_X3_search_60 X hV p2 P' h1 h2 w) (fun e60 => ?_)
  exact ax_jl (fun h => ax_vr hV rfl dX3_search_92 (hP e60 h))
theorem lk_X9_393 : ax_lkV RX9 393 mu_X3_search RX3 2 := ax_lkV_of (ax_m3 130 rfl rfl) (ax_m3 131 rfl rfl) (ax_m3 132 rfl rfl) (ax_m1 5 rfl rfl) lc_X3_search rfl ⟨by decide +kernel, by decide +kernel, by decide +kernel⟩
def mu_X7_isOnBy : ax_Mu := (yX7_isOnBy, cX7_isOnBy, 3, some .boolean, 0, 0)
theorem lc_X7_isOnBy : Cond.code mu_X7_isOnBy.1 mu_X7_isOnBy.2.1 mu_X7_isOnBy.2.2.1 mu_X7_isOnBy.2.2.2.1 ∈ ax_tb := (ax_m3 74 rfl rfl)
noncomputable def f_X7_isOnBy (p1 : Int32) (p2 : Int32) (s : ax_S) : Option (Int32) := (ax_ai cx_C s 21 p1).bind (fun v5 => (if v5 = (-1 : Int32) then (ax_ai cx_C s 19 p1).bind (fun v15 => (if v15 = p2 then some ((1 : Int32)) else some ((0 : Int32)))) else some ((0 : Int32))))
theorem T_X7_isOnBy (p1 : Int32) (p2 : Int32) (s : ax_S) (r : Int32) (h : f_X7_isOnBy p1 p2 s = some r) : ax_M cx_C mu_X7_isOnBy (fun ad => [.ref (ad 2), .int p1, .int p2]) s (some (.int r)) s := by
  refine ax_enter (by decide +kernel) 0 (fun ad => [some (.ref (ad 2)), some (.int p1), some (.int p2)]) (fun ad => rfl) (fun ad => Nat.le_of_ble_eq_true rfl) (fun X hV ho => ?_)
  refine ax_go (fun r : Int32 => (some (Value.int r), s)) (fun P hP => ?_) h ho
  unfold f_X7_isOnBy
  refine ax_j (ax_aload_n hV dX7_isOnBy_0 rfl) ?_
  refine ax_j (ax_gfr hV lf_X7_18 dX7_isOnBy_1 rfl rfl) ?_
  refine ax_j (ax_iload_n hV dX7_isOnBy_4 rfl) ?_
  refine ax_jb (ax_iald hV dX7_isOnBy_5) (fun v5 => ?_)
  refine ax_j (ax_iconst hV (-1 : Int32) dX7_isOnBy_6 (by decide)) ?_
  refine ax_jif (ax_icmp_ne hV dX7_isOnBy_7) ?_ ?_
  · refine ax_j (ax_aload_n hV dX7_isOnBy_10 rfl) ?_
    refine ax_j (ax_gfr hV lf_X7_9 dX7_isOnBy_11 rfl rfl) ?_
    refine ax_j (ax_iload_n hV dX7_isOnBy_14 rfl) ?_
    refine ax_jb (ax_iald hV dX7_isOnBy_15) (fun v15 => ?_)
    refine ax_j (ax_iload_n hV dX7_isOnBy_16 rfl) ?_
    refine ax_jif (ax_icmp_ne hV dX7_isOnBy_17) ?_ ?_
    · refine ax_j (ax_iconst hV (1 : Int32) dX7_isOnBy_20 (by decide)) ?_
      refine ax_j (ax_goto hV dX7_isOnBy_21) ?_
      exact ax_jl (fun h => ax_zr hV rfl (by decide) dX7_isOnBy_25 (hP (1 : Int32) h))
    · refine ax_j (ax_iconst hV (0 : Int32) dX7_isOnBy_24 (by decide)) ?_
      exact ax_jl (fun h => ax_zr hV rfl (by decide) dX7_isOnBy_25 (hP (0 : Int32) h))
  · refine ax_j (ax_iconst hV (0 : Int32) dX7_isOnBy_24 (by decide)) ?_
    exact ax_jl (fun h => ax_zr hV rfl (by decide) dX7_isOnBy_25 (hP (0 : Int32) h))
theorem lk_X7_45 : ax_lkV RX7 45 mu_X7_isOnBy RX7 2 := ax_lkV_of (ax_m3 96 rfl rfl) (ax_m3 72 rfl rfl) (ax_m3 73 rfl rfl) (ax_m1 3 rfl rfl) lc_X7_isOnBy rfl ⟨by decide +kernel, by decide +kernel, by decide +kernel⟩
theorem lk_X9_384 : ax_lkV RX9 384 mu_X7_isOnBy RX7 2 := ax_lkV_of (ax_m3 71 rfl rfl) (ax_m3 72 rfl rfl) (ax_m3 73 rfl rfl) (ax_m1 3 rfl rfl) lc_X7_isOnBy rfl ⟨by decide +kernel, by decide +kernel, by decide +kernel⟩
def mu_X7_exactDay : ax_Mu := (yX7_exactDay, cX7_exactDay, 6, some .int, 1, 22)
theorem lc_X7_exactDay : Cond.code mu_X7_exactDay.1 mu_X7_exactDay.2.1 mu_X7_exactDay.2.2.1 mu_X7_exactDay.2.2.2.1 ∈ ax_tb := (ax_m3 95 rfl rfl)
noncomputable def b_X7_exactDay_8 (l1 : Int64) (l3 : Int32) (l4 : Int32) (s : ax_S) (a : Int32) : Option ((Int32) ⊕ ((Unit) ⊕ (Int32))) := (if a < 0 then some (.inr (.inl ())) else (if (lg_cmp ((ax_lushr l1 a) &&& (1 : Int64)) (0 : Int64)) = 0 then some (.inl (a + (-1))) else (f_X7_isOnBy a l3 s).bind (fun q28 => (if q28 = 0 then some (.inl (a + (-1))) else (ax_ai cx_C s 20 a).bind (fun v40 => (if v40 = l4 then (ax_ai cx_C s 22 a).bind (fun v52 => (ax_ai cx_C s 23 a).bind (fun v59 => (if v52 = v59 then (ax_ai cx_C s 22 a).bind (fun v69 => some (.inr (.inr v69))) else some (.inr (.inr (-2147483648 : Int32)))))) else some (.inl (a + (-1)))))))))
noncomputable def f_X7_exactDay (p1 : Int64) (p2 : Int32) (p3 : Int32) (s : ax_S) : Option (Int32) := (ax_lp (b_X7_exactDay_8 p1 p2 p3 s) ((s.1 2 7) - (1 : Int32))).bind (Sum.elim (fun e8 => some ((-2147483648 : Int32))) (fun r => some (r)))
theorem B_X7_exactDay_8 (X : ax_G × ax_K × Option Value × ax_S) (hV : ax_ok (cx_C, X) mu_X7_exactDay) (l1 : Int64) (l3 : Int32) (l4 : Int32) (s : ax_S) (P : ((Int32) ⊕ ((Unit) ⊕ (Int32))) → Prop) (hI : ∀ a : Int32, P (.inl a) → ax_At (cx_C, X) 8 [some (.ref (ax_ad (cx_C, X) 2)), some (.long l1), none, some (.int l3), some (.int l4), some (.int a)] [] s) (hO : ∀ e : Unit, P (.inr (.inl e)) → ax_At (cx_C, X) 82 [none, none, none, none, none, none] [] s) (hR : ∀ r : Int32, P (.inr (.inr r)) → X.2.2 = (fun r : Int32 => (some (Value.int r), s)) r) (a : Int32) : ax_J (cx_C, X) P 8 [some (.ref (ax_ad (cx_C, X) 2)), some (.long l1), none, some (.int l3), some (.int l4), some (.int a)] [] s (b_X7_exactDay_8 l1 l3 l4 s a) := by
  unfold b_X7_exactDay_8
  refine ax_j (ax_iload hV dX7_exactDay_8 rfl) ?_
  refine ax_jif (ax_if_lt hV dX7_exactDay_10) ?_ ?_
  · refine ax_jf (lv' := [none, none, none, none, none, none]) [false, false, false, false, false, false] rfl ?_
    exact ax_jl (fun h => hO () h)
  · refine ax_j (ax_lload_n hV dX7_exactDay_13 rfl) ?_
    refine ax_j (ax_iload hV dX7_exactDay_14 rfl) ?_
    refine ax_j (ax_lushr_ hV dX7_exactDay_16) ?_
    refine ax_j (ax_lconst hV (1 : Int64) dX7_exactDay_17 (by decide)) ?_
    refine ax_j (ax_land hV dX7_exactDay_18) ?_
    refine ax_j (ax_lconst hV (0 : Int64) dX7_exactDay_19 (by decide)) ?_
    refine ax_j (ax_lcmp hV dX7_exactDay_20) ?_
    refine ax_jif (ax_if_eq hV dX7_exactDay_21) ?_ ?_
    · refine ax_j (ax_iinc hV (a + (-1)) [some (.ref (ax_ad (cx_C, X) 2)), some (.long l1), none, some (.int l3), some (.int l4), some (.int (a + (-1)))] dX7_exactDay_76 rfl rfl rfl rfl) ?_
      refine ax_j (ax_goto hV dX7_exactDay_79) ?_
      exact ax_jl (fun h => hI (a + (-1)) h)
    · refine ax_j (ax_aload_n hV dX7_exactDay_24 rfl) ?_
      refine ax_j (ax_iload hV dX7_exactDay_25 rfl) ?_
      refine ax_j (ax_iload_n hV dX7_exactDay_27 rfl) ?_
      refine ax_jb (fun v ho => ax_cVi hV lk_X7_45 rfl dX7_exactDay_28 rfl rfl [.int a, .int l3] [] (fun ad => [.ref (ad 2), .int a, .int l3]) rfl rfl rfl rfl v s (T_X7_isOnBy a l3 s v ho)) (fun q28 => ?_)
      refine ax_jif (ax_if_eq hV dX7_exactDay_31) ?_ ?_
      · refine ax_j (ax_iinc hV (a + (-1)) [some (.ref (ax_ad (cx_C, X) 2)), some (.long l1), none, some (.int l3), some (.int l4), some (.int (a + (-1)))] dX7_exactDay_76 rfl rfl rfl rfl) ?_
        refine ax_j (ax_goto hV dX7_exactDay_79) ?_
        exact ax_jl (fun h => hI (a + (-1)) h)
      · refine ax_j (ax_aload_n hV dX7_exactDay_34 rfl) ?_
        refine ax_j (ax_gfr hV lf_X7_15 dX7_exactDay_35 rfl rfl) ?_
        refine ax_j (ax_iload hV dX7_exactDay_38 rfl) ?_
        refine ax_jb (ax_iald hV dX7_exactDay_40) (fun v40 => ?_)
        refine ax_j (ax_iload hV dX7_exactDay_41 rfl) ?_
        refine ax_jif (ax_icmp_ne hV dX7_exactDay_43) ?_ ?_
        · refine ax_j (ax_aload_n hV dX7_exactDay_46 rfl) ?_
          refine ax_j (ax_gfr hV lf_X7_21 dX7_exactDay_47 rfl rfl) ?_
          refine ax_j (ax_iload hV dX7_exactDay_50 rfl) ?_
          refine ax_jb (ax_iald hV dX7_exactDay_52) (fun v52 => ?_)
          refine ax_j (ax_aload_n hV dX7_exactDay_53 rfl) ?_
          refine ax_j (ax_gfr hV lf_X7_24 dX7_exactDay_54 rfl rfl) ?_
          refine ax_j (ax_iload hV dX7_exactDay_57 rfl) ?_
          refine ax_jb (ax_iald hV dX7_exactDay_59) (fun v59 => ?_)
          refine ax_jif (ax_icmp_ne hV dX7_exactDay_60) ?_ ?_
          · refine ax_j (ax_aload_n hV dX7_exactDay_63 rfl) ?_
            refine ax_j (ax_gfr hV lf_X7_21 dX7_exactDay_64 rfl rfl) ?_
            refine ax_j (ax_iload hV dX7_exactDay_67 rfl) ?_
            refine ax_jb (ax_iald hV dX7_exactDay_69) (fun v69 => ?_)
            refine ax_j (ax_goto hV dX7_exactDay_70) ?_
            exact ax_jl (fun h => ax_ir hV rfl dX7_exactDay_75 (hR v69 h))
          · refine ax_j (ax_ldc hV kc_X7_48 dX7_exactDay_73) ?_
            exact ax_jl (fun h => ax_ir hV rfl dX7_exactDay_75 (hR (-2147483648 : Int32) h))
        · refine ax_j (ax_iinc hV (a + (-1)) [some (.ref (ax_ad (cx_C, X) 2)), some (.long l1), none, some (.int l3), some (.int l4), some (.int (a + (-1)))] dX7_exactDay_76 rfl rfl rfl rfl) ?_
          refine ax_j (ax_goto hV dX7_exactDay_79) ?_
          exact ax_jl (fun h => hI (a + (-1)) h)
theorem T_X7_exactDay (p1 : Int64) (p2 : Int32) (p3 : Int32) (s : ax_S) (r : Int32) (h : f_X7_exactDay p1 p2 p3 s = some r) : ax_M cx_C mu_X7_exactDay (fun ad => [.ref (ad 2), .long p1, .int p2, .int p3]) s (some (.int r)) s := by
  refine ax_enter (by decide +kernel) 1 (fun ad => [some (.ref (ad 2)), some (.long p1), none, some (.int p2), some (.int p3), none]) (fun ad => rfl) (fun ad => Nat.le_of_ble_eq_true rfl) (fun X hV ho => ?_)
  refine ax_go (fun r : Int32 => (some (Value.int r), s)) (fun P hP => ?_) h ho
  unfold f_X7_exactDay
  refine ax_j (ax_aload_n hV dX7_exactDay_0 rfl) ?_
  refine ax_j (ax_gfi hV lf_X7_33 dX7_exactDay_1 rfl rfl) ?_
  refine ax_j (ax_iconst hV (1 : Int32) dX7_exactDay_4 (by decide)) ?_
  refine ax_j (ax_isub hV dX7_exactDay_5) ?_
  refine ax_j (ax_istore hV [some (.ref (ax_ad (cx_C, X) 2)), some (.long p1), none, some (.int p2), some (.int p3), some (.int ((s.1 2 7) - (1 : Int32)))] dX7_exactDay_6 rfl rfl) ?_
  refine ax_jlr ((s.1 2 7) - (1 : Int32)) (fun x8 : Int32 => [some (.ref (ax_ad (cx_C, X) 2)), some (.long p1), none, some (.int p2), some (.int p3), some (.int x8)]) (fun x8 : Int32 => s) (fun y8 : Unit => [none, none, none, none, none, none]) (fun y8 : Unit => s) (fun P' h1 h2 h3 w => B_X7_exactDay_8 X hV p1 p2 p3 s P' h1 h2 (fun r h => hP r (h3 r h)) w) (fun e8 => ?_)
  refine ax_j (ax_ldc hV kc_X7_48 dX7_exactDay_82) ?_
  exact ax_jl (fun h => ax_ir hV rfl dX7_exactDay_84 (hP (-2147483648 : Int32) h))
theorem lk_X4_25 : ax_lkV RX4 25 mu_X7_exactDay RX7 3 := ax_lkV_of (ax_m3 92 rfl rfl) (ax_m3 93 rfl rfl) (ax_m3 94 rfl rfl) (ax_m1 3 rfl rfl) lc_X7_exactDay rfl ⟨by decide +kernel, by decide +kernel, by decide +kernel⟩
def mu_X4_weigh : ax_Mu := (yX4_weigh, cX4_weigh, 4, none, 0, 0)
theorem lc_X4_weigh : Cond.code mu_X4_weigh.1 mu_X4_weigh.2.1 mu_X4_weigh.2.2.1 mu_X4_weigh.2.2.2.1 ∈ ax_tb := (ax_m3 102 rfl rfl)
noncomputable def b_X4_weigh_4 (l1 : Int32) (s : ax_S) (a : Int32 × Int32) : Option ((Int32 × Int32) ⊕ (Int32)) := (if (s.1 6 1) ≤ a.2 then some (.inr a.1) else (ax_ai cx_C s 35 a.2).bind (fun v17 => (if v17 = l1 then some (.inl ((a.1 + 1), (a.2 + 1))) else some (.inl (a.1, (a.2 + 1))))))
noncomputable def f_X4_weigh (p1 : Int32) (s : ax_S) : Option (ax_S) := (ax_lp (b_X4_weigh_4 p1 s) ((0 : Int32), (0 : Int32))).bind (fun e4 => (if (s.1 6 2) < e4 then some ((ax_ui (ax_ui s 6 2 e4) 6 3 p1)) else (if e4 = (s.1 6 2) then (if (s.1 6 3) ≤ p1 then some (s) else some ((ax_ui (ax_ui s 6 2 e4) 6 3 p1))) else some (s))))
theorem B_X4_weigh_4 (X : ax_G × ax_K × Option Value × ax_S) (hV : ax_ok (cx_C, X) mu_X4_weigh) (l1 : Int32) (s : ax_S) (P : ((Int32 × Int32) ⊕ (Int32)) → Prop) (hI : ∀ a : Int32 × Int32, P (.inl a) → ax_At (cx_C, X) 4 [some (.ref (ax_ad (cx_C, X) 6)), some (.int l1), some (.int a.1), some (.int a.2)] [] s) (hO : ∀ e : Int32, P (.inr e) → ax_At (cx_C, X) 31 [some (.ref (ax_ad (cx_C, X) 6)), some (.int l1), some (.int e), none] [] s) (a : Int32 × Int32) : ax_J (cx_C, X) P 4 [some (.ref (ax_ad (cx_C, X) 6)), some (.int l1), some (.int a.1), some (.int a.2)] [] s (b_X4_weigh_4 l1 s a) := by
  unfold b_X4_weigh_4
  refine ax_j (ax_iload_n hV dX4_weigh_4 rfl) ?_
  refine ax_j (ax_aload_n hV dX4_weigh_5 rfl) ?_
  refine ax_j (ax_gfi hV lf_X4_15 dX4_weigh_6 rfl rfl) ?_
  refine ax_jif (ax_icmp_ge hV dX4_weigh_9) ?_ ?_
  · refine ax_jf (lv' := [some (.ref (ax_ad (cx_C, X) 6)), some (.int l1), some (.int a.1), none]) [true, true, true, false] rfl ?_
    exact ax_jl (fun h => hO a.1 h)
  · refine ax_j (ax_aload_n hV dX4_weigh_12 rfl) ?_
    refine ax_j (ax_gfr hV lf_X4_9 dX4_weigh_13 rfl rfl) ?_
    refine ax_j (ax_iload_n hV dX4_weigh_16 rfl) ?_
    refine ax_jb (ax_iald hV dX4_weigh_17) (fun v17 => ?_)
    refine ax_j (ax_iload_n hV dX4_weigh_18 rfl) ?_
    refine ax_jif (ax_icmp_ne hV dX4_weigh_19) ?_ ?_
    · refine ax_j (ax_iinc hV (a.1 + 1) [some (.ref (ax_ad (cx_C, X) 6)), some (.int l1), some (.int (a.1 + 1)), some (.int a.2)] dX4_weigh_22 rfl rfl rfl rfl) ?_
      refine ax_j (ax_iinc hV (a.2 + 1) [some (.ref (ax_ad (cx_C, X) 6)), some (.int l1), some (.int (a.1 + 1)), some (.int (a.2 + 1))] dX4_weigh_25 rfl rfl rfl rfl) ?_
      refine ax_j (ax_goto hV dX4_weigh_28) ?_
      exact ax_jl (fun h => hI ((a.1 + 1), (a.2 + 1)) h)
    · refine ax_j (ax_iinc hV (a.2 + 1) [some (.ref (ax_ad (cx_C, X) 6)), some (.int l1), some (.int a.1), some (.int (a.2 + 1))] dX4_weigh_25 rfl rfl rfl rfl) ?_
      refine ax_j (ax_goto hV dX4_weigh_28) ?_
      exact ax_jl (fun h => hI (a.1, (a.2 + 1)) h)
theorem T_X4_weigh (p1 : Int32) (s : ax_S) (r : ax_S) (h : f_X4_weigh p1 s = some r) : ax_M cx_C mu_X4_weigh (fun ad => [.ref (ad 6), .int p1]) s none r := by
  refine ax_enter (by decide +kernel) 2 (fun ad => [some (.ref (ad 6)), some (.int p1), none, none]) (fun ad => rfl) (fun ad => Nat.le_of_ble_eq_true rfl) (fun X hV ho => ?_)
  refine ax_go (fun r : ax_S => ((none : Option Value), r)) (fun P hP => ?_) h ho
  unfold f_X4_weigh
  refine ax_j (ax_iconst hV (0 : Int32) dX4_weigh_0 (by decide)) ?_
  refine ax_j (ax_istore_n hV [some (.ref (ax_ad (cx_C, X) 6)), some (.int p1), some (.int (0 : Int32)), none] dX4_weigh_1 rfl rfl) ?_
  refine ax_j (ax_iconst hV (0 : Int32) dX4_weigh_2 (by decide)) ?_
  refine ax_j (ax_istore_n hV [some (.ref (ax_ad (cx_C, X) 6)), some (.int p1), some (.int (0 : Int32)), some (.int (0 : Int32))] dX4_weigh_3 rfl rfl) ?_
  refine ax_jlp ((0 : Int32), (0 : Int32)) (fun x4 : Int32 × Int32 => [some (.ref (ax_ad (cx_C, X) 6)), some (.int p1), some (.int x4.1), some (.int x4.2)]) (fun x4 : Int32 × Int32 => s) (fun y4 : Int32 => [some (.ref (ax_ad (cx_C, X) 6)), some (.int p1), some (.int y4), none]) (fun y4 : Int32 => s) (fun P' h1 h2 w => B_X4_weigh_4 X hV p1 s P' h1 h2 w) (fun e4 => ?_)
  refine ax_j (ax_iload_n hV dX4_weigh_31 rfl) ?_
  refine ax_j (ax_aload_n hV dX4_weigh_32 rfl) ?_
  refine ax_j (ax_gfi hV lf_X4_19 dX4_weigh_33 rfl rfl) ?_
  refine ax_jif (ax_icmp_gt hV dX4_weigh_36) ?_ ?_
  · refine ax_j (ax_aload_n hV dX4_weigh_55 rfl) ?_
    refine ax_j (ax_iload_n hV dX4_weigh_56 rfl) ?_
    refine ax_j (ax_pfi hV lp_X4_19 dX4_weigh_57 rfl rfl) ?_
    refine ax_j (ax_aload_n hV dX4_weigh_60 rfl) ?_
    refine ax_j (ax_iload_n hV dX4_weigh_61 rfl) ?_
    refine ax_j (ax_pfi hV lp_X4_22 dX4_weigh_62 rfl rfl) ?_
    exact ax_jl (fun h => ax_vr hV rfl dX4_weigh_65 (hP (ax_ui (ax_ui s 6 2 e4) 6 3 p1) h))
  · refine ax_j (ax_iload_n hV dX4_weigh_39 rfl) ?_
    refine ax_j (ax_aload_n hV dX4_weigh_40 rfl) ?_
    refine ax_j (ax_gfi hV lf_X4_19 dX4_weigh_41 rfl rfl) ?_
    refine ax_jif (ax_icmp_ne hV dX4_weigh_44) ?_ ?_
    · refine ax_j (ax_iload_n hV dX4_weigh_47 rfl) ?_
      refine ax_j (ax_aload_n hV dX4_weigh_48 rfl) ?_
      refine ax_j (ax_gfi hV lf_X4_22 dX4_weigh_49 rfl rfl) ?_
      refine ax_jif (ax_icmp_ge hV dX4_weigh_52) ?_ ?_
      · exact ax_jl (fun h => ax_vr hV rfl dX4_weigh_65 (hP s h))
      · refine ax_j (ax_aload_n hV dX4_weigh_55 rfl) ?_
        refine ax_j (ax_iload_n hV dX4_weigh_56 rfl) ?_
        refine ax_j (ax_pfi hV lp_X4_19 dX4_weigh_57 rfl rfl) ?_
        refine ax_j (ax_aload_n hV dX4_weigh_60 rfl) ?_
        refine ax_j (ax_iload_n hV dX4_weigh_61 rfl) ?_
        refine ax_j (ax_pfi hV lp_X4_22 dX4_weigh_62 rfl rfl) ?_
        exact ax_jl (fun h => ax_vr hV rfl dX4_weigh_65 (hP (ax_ui (ax_ui s 6 2 e4) 6 3 p1) h))
    · exact ax_jl (fun h => ax_vr hV rfl dX4_weigh_65 (hP s h))
theorem lk_X4_32 : ax_lkV RX4 32 mu_X4_weigh RX4 1 := ax_lkV_of (ax_m3 99 rfl rfl) (ax_m3 101 rfl rfl) (ax_mp2 2 rfl rfl rfl) (ax_m1 7 rfl rfl) lc_X4_weigh rfl ⟨by decide +kernel, by decide +kernel, by decide +kernel⟩
def mu_X4_compare : ax_Mu := (yX4_compare, cX4_compare, 9, none, 2, 47)
theorem lc_X4_compare : Cond.code mu_X4_compare.1 mu_X4_compare.2.1 mu_X4_compare.2.2.1 mu_X4_compare.2.2.2.1 ∈ ax_tb := (ax_m3 91 rfl rfl)
noncomputable def b_X4_compare_18 (l2 : Int64) (l4 : Int32) (l5 : Int32) (a : Int32 × ax_S) : Option ((Int32 × ax_S) ⊕ (ax_S)) := (if (12 : Int32) ≤ a.1 then some (.inr a.2) else (f_X7_exactDay l2 l4 a.1 a.2).bind (fun q31 => (f_X7_exactDay l2 l5 a.1 a.2).bind (fun q42 => (if q31 = (-2147483648 : Int32) then some (.inl ((a.1 + 1), a.2)) else (if q42 = (-2147483648 : Int32) then some (.inl ((a.1 + 1), a.2)) else (ax_si cx_C a.2 35 (a.2.1 6 1) (q42 - q31)).bind (fun s74 => some (.inl ((a.1 + 1), (ax_ui s74 6 1 ((s74.1 6 1) + (1 : Int32)))))))))))
noncomputable def b_X4_compare_94  (a : Int32 × ax_S) : Option ((Int32 × ax_S) ⊕ (ax_S)) := (if (a.2.1 6 1) ≤ a.1 then some (.inr a.2) else (ax_ai cx_C a.2 35 a.1).bind (fun v110 => (f_X4_weigh v110 a.2).bind (fun q111 => some (.inl ((a.1 + 1), q111)))))
noncomputable def f_X4_compare (p2 : Int64) (p3 : Int32) (p4 : Int32) (s : ax_S) : Option (ax_S) := (ax_lp (b_X4_compare_18 p2 p3 p4) ((0 : Int32), (ax_ui (ax_ui (ax_ui s 6 1 (0 : Int32)) 6 2 (0 : Int32)) 6 3 (0 : Int32)))).bind (fun e18 => (ax_lp (b_X4_compare_94) ((0 : Int32), e18)).bind (fun e94 => some (e94)))
theorem B_X4_compare_18 (X : ax_G × ax_K × Option Value × ax_S) (hV : ax_ok (cx_C, X) mu_X4_compare) (l2 : Int64) (l4 : Int32) (l5 : Int32) (P : ((Int32 × ax_S) ⊕ (ax_S)) → Prop) (hI : ∀ a : Int32 × ax_S, P (.inl a) → ax_At (cx_C, X) 18 [some (.ref (ax_ad (cx_C, X) 6)), some (.ref (ax_ad (cx_C, X) 2)), some (.long l2), none, some (.int l4), some (.int l5), some (.int a.1), none, none] [] a.2) (hO : ∀ e : ax_S, P (.inr e) → ax_At (cx_C, X) 91 [some (.ref (ax_ad (cx_C, X) 6)), none, none, none, none, none, none, none, none] [] e) (a : Int32 × ax_S) : ax_J (cx_C, X) P 18 [some (.ref (ax_ad (cx_C, X) 6)), some (.ref (ax_ad (cx_C, X) 2)), some (.long l2), none, some (.int l4), some (.int l5), some (.int a.1), none, none] [] a.2 (b_X4_compare_18 l2 l4 l5 a) := by
  unfold b_X4_compare_18
  refine ax_j (ax_iload hV dX4_compare_18 rfl) ?_
  refine ax_j (ax_bipush hV (12 : Int32) dX4_compare_20 (by decide)) ?_
  refine ax_jif (ax_icmp_ge hV dX4_compare_22) ?_ ?_
  · refine ax_jf (lv' := [some (.ref (ax_ad (cx_C, X) 6)), none, none, none, none, none, none, none, none]) [true, false, false, false, false, false, false, false, false] rfl ?_
    exact ax_jl (fun h => hO a.2 h)
  · refine ax_j (ax_aload_n hV dX4_compare_25 rfl) ?_
    refine ax_j (ax_lload_n hV dX4_compare_26 rfl) ?_
    refine ax_j (ax_iload hV dX4_compare_27 rfl) ?_
    refine ax_j (ax_iload hV dX4_compare_29 rfl) ?_
    refine ax_jb (fun v ho => ax_cVi hV lk_X4_25 rfl dX4_compare_31 rfl rfl [.long l2, .int l4, .int a.1] [] (fun ad => [.ref (ad 2), .long l2, .int l4, .int a.1]) rfl rfl rfl rfl v a.2 (T_X7_exactDay l2 l4 a.1 a.2 v ho)) (fun q31 => ?_)
    refine ax_j (ax_istore hV [some (.ref (ax_ad (cx_C, X) 6)), some (.ref (ax_ad (cx_C, X) 2)), some (.long l2), none, some (.int l4), some (.int l5), some (.int a.1), some (.int q31), none] dX4_compare_34 rfl rfl) ?_
    refine ax_j (ax_aload_n hV dX4_compare_36 rfl) ?_
    refine ax_j (ax_lload_n hV dX4_compare_37 rfl) ?_
    refine ax_j (ax_iload hV dX4_compare_38 rfl) ?_
    refine ax_j (ax_iload hV dX4_compare_40 rfl) ?_
    refine ax_jb (fun v ho => ax_cVi hV lk_X4_25 rfl dX4_compare_42 rfl rfl [.long l2, .int l5, .int a.1] [] (fun ad => [.ref (ad 2), .long l2, .int l5, .int a.1]) rfl rfl rfl rfl v a.2 (T_X7_exactDay l2 l5 a.1 a.2 v ho)) (fun q42 => ?_)
    refine ax_j (ax_istore hV [some (.ref (ax_ad (cx_C, X) 6)), some (.ref (ax_ad (cx_C, X) 2)), some (.long l2), none, some (.int l4), some (.int l5), some (.int a.1), some (.int q31), some (.int q42)] dX4_compare_45 rfl rfl) ?_
    refine ax_j (ax_iload hV dX4_compare_47 rfl) ?_
    refine ax_j (ax_ldc hV kc_X4_31 dX4_compare_49) ?_
    refine ax_jif (ax_icmp_eq hV dX4_compare_51) ?_ ?_
    · refine ax_j (ax_iinc hV (a.1 + 1) [some (.ref (ax_ad (cx_C, X) 6)), some (.ref (ax_ad (cx_C, X) 2)), some (.long l2), none, some (.int l4), some (.int l5), some (.int (a.1 + 1)), some (.int q31), some (.int q42)] dX4_compare_85 rfl rfl rfl rfl) ?_
      refine ax_j (ax_goto hV dX4_compare_88) ?_
      refine ax_jf (lv' := [some (.ref (ax_ad (cx_C, X) 6)), some (.ref (ax_ad (cx_C, X) 2)), some (.long l2), none, some (.int l4), some (.int l5), some (.int (a.1 + 1)), none, none]) [true, true, true, false, true, true, true, false, false] rfl ?_
      exact ax_jl (fun h => hI ((a.1 + 1), a.2) h)
    · refine ax_j (ax_iload hV dX4_compare_54 rfl) ?_
      refine ax_j (ax_ldc hV kc_X4_31 dX4_compare_56) ?_
      refine ax_jif (ax_icmp_eq hV dX4_compare_58) ?_ ?_
      · refine ax_j (ax_iinc hV (a.1 + 1) [some (.ref (ax_ad (cx_C, X) 6)), some (.ref (ax_ad (cx_C, X) 2)), some (.long l2), none, some (.int l4), some (.int l5), some (.int (a.1 + 1)), some (.int q31), some (.int q42)] dX4_compare_85 rfl rfl rfl rfl) ?_
        refine ax_j (ax_goto hV dX4_compare_88) ?_
        refine ax_jf (lv' := [some (.ref (ax_ad (cx_C, X) 6)), some (.ref (ax_ad (cx_C, X) 2)), some (.long l2), none, some (.int l4), some (.int l5), some (.int (a.1 + 1)), none, none]) [true, true, true, false, true, true, true, false, false] rfl ?_
        exact ax_jl (fun h => hI ((a.1 + 1), a.2) h)
      · refine ax_j (ax_aload_n hV dX4_compare_61 rfl) ?_
        refine ax_j (ax_gfr hV lf_X4_9 dX4_compare_62 rfl rfl) ?_
        refine ax_j (ax_aload_n hV dX4_compare_65 rfl) ?_
        refine ax_j (ax_gfi hV lf_X4_15 dX4_compare_66 rfl rfl) ?_
        refine ax_j (ax_iload hV dX4_compare_69 rfl) ?_
        refine ax_j (ax_iload hV dX4_compare_71 rfl) ?_
        refine ax_j (ax_isub hV dX4_compare_73) ?_
        refine ax_jb (ax_iast hV dX4_compare_74) (fun s74 => ?_)
        refine ax_j (ax_aload_n hV dX4_compare_75 rfl) ?_
        refine ax_j (ax_dup hV dX4_compare_76 rfl) ?_
        refine ax_j (ax_gfi hV lf_X4_15 dX4_compare_77 rfl rfl) ?_
        refine ax_j (ax_iconst hV (1 : Int32) dX4_compare_80 (by decide)) ?_
        refine ax_j (ax_iadd hV dX4_compare_81) ?_
        refine ax_j (ax_pfi hV lp_X4_15 dX4_compare_82 rfl rfl) ?_
        refine ax_j (ax_iinc hV (a.1 + 1) [some (.ref (ax_ad (cx_C, X) 6)), some (.ref (ax_ad (cx_C, X) 2)), some (.long l2), none, some (.int l4), some (.int l5), some (.int (a.1 + 1)), some (.int q31), some (.int q42)] dX4_compare_85 rfl rfl rfl rfl) ?_
        refine ax_j (ax_goto hV dX4_compare_88) ?_
        refine ax_jf (lv' := [some (.ref (ax_ad (cx_C, X) 6)), some (.ref (ax_ad (cx_C, X) 2)), some (.long l2), none, some (.int l4), some (.int l5), some (.int (a.1 + 1)), none, none]) [true, true, true, false, true, true, true, false, false] rfl ?_
        exact ax_jl (fun h => hI ((a.1 + 1), (ax_ui s74 6 1 ((s74.1 6 1) + (1 : Int32)))) h)
theorem B_X4_compare_94 (X : ax_G × ax_K × Option Value × ax_S) (hV : ax_ok (cx_C, X) mu_X4_compare)  (P : ((Int32 × ax_S) ⊕ (ax_S)) → Prop) (hI : ∀ a : Int32 × ax_S, P (.inl a) → ax_At (cx_C, X) 94 [some (.ref (ax_ad (cx_C, X) 6)), none, none, none, none, none, some (.int a.1), none, none] [] a.2) (hO : ∀ e : ax_S, P (.inr e) → ax_At (cx_C, X) 120 [none, none, none, none, none, none, none, none, none] [] e) (a : Int32 × ax_S) : ax_J (cx_C, X) P 94 [some (.ref (ax_ad (cx_C, X) 6)), none, none, none, none, none, some (.int a.1), none, none] [] a.2 (b_X4_compare_94 a) := by
  unfold b_X4_compare_94
  refine ax_j (ax_iload hV dX4_compare_94 rfl) ?_
  refine ax_j (ax_aload_n hV dX4_compare_96 rfl) ?_
  refine ax_j (ax_gfi hV lf_X4_15 dX4_compare_97 rfl rfl) ?_
  refine ax_jif (ax_icmp_ge hV dX4_compare_100) ?_ ?_
  · refine ax_jf (lv' := [none, none, none, none, none, none, none, none, none]) [false, false, false, false, false, false, false, false, false] rfl ?_
    exact ax_jl (fun h => hO a.2 h)
  · refine ax_j (ax_aload_n hV dX4_compare_103 rfl) ?_
    refine ax_j (ax_aload_n hV dX4_compare_104 rfl) ?_
    refine ax_j (ax_gfr hV lf_X4_9 dX4_compare_105 rfl rfl) ?_
    refine ax_j (ax_iload hV dX4_compare_108 rfl) ?_
    refine ax_jb (ax_iald hV dX4_compare_110) (fun v110 => ?_)
    refine ax_jb (fun v ho => ax_cVv hV lk_X4_32 rfl dX4_compare_111 rfl rfl [.int v110] [] (fun ad => [.ref (ad 6), .int v110]) rfl rfl rfl rfl v (T_X4_weigh v110 a.2 v ho)) (fun q111 => ?_)
    refine ax_j (ax_iinc hV (a.1 + 1) [some (.ref (ax_ad (cx_C, X) 6)), none, none, none, none, none, some (.int (a.1 + 1)), none, none] dX4_compare_114 rfl rfl rfl rfl) ?_
    refine ax_j (ax_goto hV dX4_compare_117) ?_
    exact ax_jl (fun h => hI ((a.1 + 1), q111) h)
theorem T_X4_compare (p2 : Int64) (p3 : Int32) (p4 : Int32) (s : ax_S) (r : ax_S) (h : f_X4_compare p2 p3 p4 s = some r) : ax_M cx_C mu_X4_compare (fun ad => [.ref (ad 6), .ref (ad 2), .long p2, .int p3, .int p4]) s none r := by
  refine ax_enter (by decide +kernel) 3 (fun ad => [some (.ref (ad 6)), some (.ref (ad 2)), some (.long p2), none, some (.int p3), some (.int p4), none, none, none]) (fun ad => rfl) (fun ad => Nat.le_of_ble_eq_true rfl) (fun X hV ho => ?_)
  refine ax_go (fun r : ax_S => ((none : Option Value), r)) (fun P hP => ?_) h ho
  unfold f_X4_compare
  refine ax_j (ax_aload_n hV dX4_compare_0 rfl) ?_
  refine ax_j (ax_iconst hV (0 : Int32) dX4_compare_1 (by decide)) ?_
  refine ax_j (ax_pfi hV lp_X4_15 dX4_compare_2 rfl rfl) ?_
  refine ax_j (ax_aload_n hV dX4_compare_5 rfl) ?_
  refine ax_j (ax_iconst hV (0 : Int32) dX4_compare_6 (by decide)) ?_
  refine ax_j (ax_pfi hV lp_X4_19 dX4_compare_7 rfl rfl) ?_
  refine ax_j (ax_aload_n hV dX4_compare_10 rfl) ?_
  refine ax_j (ax_iconst hV (0 : Int32) dX4_compare_11 (by decide)) ?_
  refine ax_j (ax_pfi hV lp_X4_22 dX4_compare_12 rfl rfl) ?_
  refine ax_j (ax_iconst hV (0 : Int32) dX4_compare_15 (by decide)) ?_
  refine ax_j (ax_istore hV [some (.ref (ax_ad (cx_C, X) 6)), some (.ref (ax_ad (cx_C, X) 2)), some (.long p2), none, some (.int p3), some (.int p4), some (.int (0 : Int32)), none, none] dX4_compare_16 rfl rfl) ?_
  refine ax_jlp ((0 : Int32), (ax_ui (ax_ui (ax_ui s 6 1 (0 : Int32)) 6 2 (0 : Int32)) 6 3 (0 : Int32))) (fun x18 : Int32 × ax_S => [some (.ref (ax_ad (cx_C, X) 6)), some (.ref (ax_ad (cx_C, X) 2)), some (.long p2), none, some (.int p3), some (.int p4), some (.int x18.1), none, none]) (fun x18 : Int32 × ax_S => x18.2) (fun y18 : ax_S => [some (.ref (ax_ad (cx_C, X) 6)), none, none, none, none, none, none, none, none]) (fun y18 : ax_S => y18) (fun P' h1 h2 w => B_X4_compare_18 X hV p2 p3 p4 P' h1 h2 w) (fun e18 => ?_)
  refine ax_j (ax_iconst hV (0 : Int32) dX4_compare_91 (by decide)) ?_
  refine ax_j (ax_istore hV [some (.ref (ax_ad (cx_C, X) 6)), none, none, none, none, none, some (.int (0 : Int32)), none, none] dX4_compare_92 rfl rfl) ?_
  refine ax_jlp ((0 : Int32), e18) (fun x94 : Int32 × ax_S => [some (.ref (ax_ad (cx_C, X) 6)), none, none, none, none, none, some (.int x94.1), none, none]) (fun x94 : Int32 × ax_S => x94.2) (fun y94 : ax_S => [none, none, none, none, none, none, none, none, none]) (fun y94 : ax_S => y94) (fun P' h1 h2 w => B_X4_compare_94 X hV  P' h1 h2 w) (fun e94 => ?_)
  exact ax_jl (fun h => ax_vr hV rfl dX4_compare_120 (hP e94 h))
theorem lk_X9_217 : ax_lkV RX9 217 mu_X4_compare RX4 4 := ax_lkV_of (ax_m3 88 rfl rfl) (ax_m3 89 rfl rfl) (ax_m3 90 rfl rfl) (ax_m1 7 rfl rfl) lc_X4_compare rfl ⟨by decide +kernel, by decide +kernel, by decide +kernel⟩

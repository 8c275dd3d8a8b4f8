def mu_X10_isOther : ax_Mu := (yX10_isOther, cX10_isOther, 7, some .boolean, 2, 50)
theorem lc_X10_isOther : Cond.code mu_X10_isOther.1 mu_X10_isOther.2.1 mu_X10_isOther.2.2.1 mu_X10_isOther.2.2.2.1 ∈ ax_tb := (ax_m5 221 rfl rfl)
noncomputable def j_X10_isOther_73 (l3 : Int32) (l4 : Int32) (l5 : Int32) (k0 : Int32) (s : ax_S) : Option (Int32 × ax_S) := (ax_zb l3).bind (fun z77 => (ax_zb k0).bind (fun z => some ((z, (ax_ui (ax_ui (ax_ui s 0 18 z77) 0 19 l4) 0 20 l5)))))
noncomputable def j_X10_isOther_68 (l3 : Int32) (l4 : Int32) (l5 : Int32) (s : ax_S) : Option (Int32 × ax_S) := j_X10_isOther_73 l3 l4 l5 (1 : Int32) s
noncomputable def j_X10_isOther_40 (l3 : Int32) (l4 : Int32) (k0 : Int32) (s : ax_S) : Option (Int32 × ax_S) := (if l3 = (s.1 0 18) then (if l4 = (s.1 0 19) then (if k0 = (s.1 0 20) then j_X10_isOther_73 l3 l4 k0 (0 : Int32) s else j_X10_isOther_68 l3 l4 k0 s) else j_X10_isOther_68 l3 l4 k0 s) else j_X10_isOther_68 l3 l4 k0 s)
noncomputable def j_X10_isOther_24 (l1 : Int32) (l3 : Int32) (k0 : Int32) (s : ax_S) : Option (Int32 × ax_S) := (if l3 = 0 then j_X10_isOther_40 l3 k0 (0 : Int32) s else (f_X10_endOf l1 (1 : Int32) s).bind (fun q33 => j_X10_isOther_40 l3 k0 q33 s))
noncomputable def f_X10_isOther (p1 : Int32) (p2 : Int32) (s : ax_S) : Option (Int32 × ax_S) := (f_X10_knownBits p2 s).bind (fun q3 => (f_X10_works q3 s).bind (fun q6 => (if q6.1 = 0 then j_X10_isOther_24 p1 q6.1 (0 : Int32) q6.2 else (f_X10_endOf p1 (0 : Int32) q6.2).bind (fun q17 => j_X10_isOther_24 p1 q6.1 q17 q6.2))))
theorem N_X10_isOther_73 (X : ax_G × ax_K × Option Value × ax_S) (hV : ax_ok (cx_R, X) mu_X10_isOther)  (P : (Int32 × ax_S) → Prop) (hP : ∀ r : Int32 × ax_S, P r → X.2.2 = (fun r : Int32 × ax_S => (some (Value.int r.1), r.2)) r) (l3 : Int32) (l4 : Int32) (l5 : Int32) (k0 : Int32) (s : ax_S) : ax_J (cx_R, X) P 73 [some (.ref (ax_ad (cx_R, X) 0)), none, none, some (.int l3), some (.int l4), some (.int l5), none] [.int k0] s (j_X10_isOther_73 l3 l4 l5 k0 s) := by
  unfold j_X10_isOther_73
  refine ax_j (ax_istore hV [some (.ref (ax_ad (cx_R, X) 0)), none, none, some (.int l3), some (.int l4), some (.int l5), some (.int k0)] dX10_isOther_73 rfl rfl) ?_
  refine ax_j (ax_aload_n hV dX10_isOther_75 rfl) ?_
  refine ax_j (ax_iload_n hV dX10_isOther_76 rfl) ?_
  refine ax_jb (ax_pfz hV lp_X10_192 dX10_isOther_77 rfl rfl) (fun z77 => ?_)
  refine ax_j (ax_aload_n hV dX10_isOther_80 rfl) ?_
  refine ax_j (ax_iload hV dX10_isOther_81 rfl) ?_
  refine ax_j (ax_pfi hV lp_X10_196 dX10_isOther_83 rfl rfl) ?_
  refine ax_j (ax_aload_n hV dX10_isOther_86 rfl) ?_
  refine ax_j (ax_iload hV dX10_isOther_87 rfl) ?_
  refine ax_j (ax_pfi hV lp_X10_199 dX10_isOther_89 rfl rfl) ?_
  refine ax_j (ax_iload hV dX10_isOther_92 rfl) ?_
  exact ax_jz (fun v hz h => ax_zr2 hV rfl dX10_isOther_94 v hz (hP (v, (ax_ui (ax_ui (ax_ui s 0 18 z77) 0 19 l4) 0 20 l5)) h))
theorem N_X10_isOther_68 (X : ax_G × ax_K × Option Value × ax_S) (hV : ax_ok (cx_R, X) mu_X10_isOther)  (P : (Int32 × ax_S) → Prop) (hP : ∀ r : Int32 × ax_S, P r → X.2.2 = (fun r : Int32 × ax_S => (some (Value.int r.1), r.2)) r) (l3 : Int32) (l4 : Int32) (l5 : Int32) (s : ax_S) : ax_J (cx_R, X) P 68 [some (.ref (ax_ad (cx_R, X) 0)), none, none, some (.int l3), some (.int l4), some (.int l5), none] [] s (j_X10_isOther_68 l3 l4 l5 s) := by
  unfold j_X10_isOther_68
  refine ax_j (ax_iconst hV (1 : Int32) dX10_isOther_68 (by decide)) ?_
  refine ax_j (ax_goto hV dX10_isOther_69) ?_
  exact N_X10_isOther_73 X hV  P hP l3 l4 l5 (1 : Int32) s
theorem N_X10_isOther_40 (X : ax_G × ax_K × Option Value × ax_S) (hV : ax_ok (cx_R, X) mu_X10_isOther)  (P : (Int32 × ax_S) → Prop) (hP : ∀ r : Int32 × ax_S, P r → X.2.2 = (fun r : Int32 × ax_S => (some (Value.int r.1), r.2)) r) (l3 : Int32) (l4 : Int32) (k0 : Int32) (s : ax_S) : ax_J (cx_R, X) P 40 [some (.ref (ax_ad (cx_R, X) 0)), none, none, some (.int l3), some (.int l4), none, none] [.int k0] s (j_X10_isOther_40 l3 l4 k0 s) := by
  unfold j_X10_isOther_40
  refine ax_j (ax_istore hV [some (.ref (ax_ad (cx_R, X) 0)), none, none, some (.int l3), some (.int l4), some (.int k0), none] dX10_isOther_40 rfl rfl) ?_
  refine ax_j (ax_iload_n hV dX10_isOther_42 rfl) ?_
  refine ax_j (ax_aload_n hV dX10_isOther_43 rfl) ?_
  refine ax_j (ax_gfi hV lf_X10_192 dX10_isOther_44 rfl rfl) ?_
  refine ax_jif (ax_icmp_ne hV dX10_isOther_47) ?_ ?_
  · refine ax_j (ax_iload hV dX10_isOther_50 rfl) ?_
    refine ax_j (ax_aload_n hV dX10_isOther_52 rfl) ?_
    refine ax_j (ax_gfi hV lf_X10_196 dX10_isOther_53 rfl rfl) ?_
    refine ax_jif (ax_icmp_ne hV dX10_isOther_56) ?_ ?_
    · refine ax_j (ax_iload hV dX10_isOther_59 rfl) ?_
      refine ax_j (ax_aload_n hV dX10_isOther_61 rfl) ?_
      refine ax_j (ax_gfi hV lf_X10_199 dX10_isOther_62 rfl rfl) ?_
      refine ax_jif (ax_icmp_eq hV dX10_isOther_65) ?_ ?_
      · refine ax_j (ax_iconst hV (0 : Int32) dX10_isOther_72 (by decide)) ?_
        exact N_X10_isOther_73 X hV  P hP l3 l4 k0 (0 : Int32) s
      · exact N_X10_isOther_68 X hV  P hP l3 l4 k0 s
    · exact N_X10_isOther_68 X hV  P hP l3 l4 k0 s
  · exact N_X10_isOther_68 X hV  P hP l3 l4 k0 s
theorem N_X10_isOther_24 (X : ax_G × ax_K × Option Value × ax_S) (hV : ax_ok (cx_R, X) mu_X10_isOther)  (P : (Int32 × ax_S) → Prop) (hP : ∀ r : Int32 × ax_S, P r → X.2.2 = (fun r : Int32 × ax_S => (some (Value.int r.1), r.2)) r) (l1 : Int32) (l3 : Int32) (k0 : Int32) (s : ax_S) : ax_J (cx_R, X) P 24 [some (.ref (ax_ad (cx_R, X) 0)), some (.int l1), none, some (.int l3), none, none, none] [.int k0] s (j_X10_isOther_24 l1 l3 k0 s) := by
  unfold j_X10_isOther_24
  refine ax_j (ax_istore hV [some (.ref (ax_ad (cx_R, X) 0)), some (.int l1), none, some (.int l3), some (.int k0), none, none] dX10_isOther_24 rfl rfl) ?_
  refine ax_j (ax_iload_n hV dX10_isOther_26 rfl) ?_
  refine ax_jif (ax_if_eq hV dX10_isOther_27) ?_ ?_
  · refine ax_j (ax_iconst hV (0 : Int32) dX10_isOther_39 (by decide)) ?_
    refine ax_jf (lv' := [some (.ref (ax_ad (cx_R, X) 0)), none, none, some (.int l3), some (.int k0), none, none]) [true, false, false, true, true, false, false] rfl ?_
    exact N_X10_isOther_40 X hV  P hP l3 k0 (0 : Int32) s
  · refine ax_j (ax_aload_n hV dX10_isOther_30 rfl) ?_
    refine ax_j (ax_iload_n hV dX10_isOther_31 rfl) ?_
    refine ax_j (ax_iconst hV (1 : Int32) dX10_isOther_32 (by decide)) ?_
    refine ax_jb (fun v ho => ax_cVi hV lk_X10_177 rfl dX10_isOther_33 rfl rfl [.int l1, .int (1 : Int32)] [] (fun ad => [.ref (ad 0), .int l1, .int (1 : Int32)]) rfl rfl rfl rfl v s (T_X10_endOf l1 (1 : Int32) s v ho)) (fun q33 => ?_)
    refine ax_j (ax_goto hV dX10_isOther_36) ?_
    refine ax_jf (lv' := [some (.ref (ax_ad (cx_R, X) 0)), none, none, some (.int l3), some (.int k0), none, none]) [true, false, false, true, true, false, false] rfl ?_
    exact N_X10_isOther_40 X hV  P hP l3 k0 q33 s
theorem T_X10_isOther (p1 : Int32) (p2 : Int32) (s : ax_S) (r : Int32 × ax_S) (h : f_X10_isOther p1 p2 s = some r) : ax_M cx_R mu_X10_isOther (fun ad => [.ref (ad 0), .int p1, .int p2]) s (some (.int r.1)) r.2 := by
  refine ax_enter (by decide +kernel) 4 (fun ad => [some (.ref (ad 0)), some (.int p1), some (.int p2), none, none, none, none]) (fun ad => rfl) (fun ad => Nat.le_of_ble_eq_true rfl) (fun X hV ho => ?_)
  refine ax_go (fun r : Int32 × ax_S => (some (Value.int r.1), r.2)) (fun P hP => ?_) h ho
  unfold f_X10_isOther
  refine ax_j (ax_aload_n hV dX10_isOther_0 rfl) ?_
  refine ax_j (ax_aload_n hV dX10_isOther_1 rfl) ?_
  refine ax_j (ax_iload_n hV dX10_isOther_2 rfl) ?_
  refine ax_jb (fun v ho => ax_cVl hV lk_X10_114 rfl dX10_isOther_3 rfl rfl [.int p2] [.ref (ax_ad (cx_R, X) 0)] (fun ad => [.ref (ad 0), .int p2]) rfl rfl rfl rfl v s (T_X10_knownBits p2 s v ho)) (fun q3 => ?_)
  refine ax_jb (fun v ho => ax_cVi hV lk_X10_169 rfl dX10_isOther_6 rfl rfl [.long q3] [] (fun ad => [.ref (ad 0), .long q3]) rfl rfl rfl rfl v.1 v.2 (T_X10_works q3 s v ho)) (fun q6 => ?_)
  refine ax_j (ax_istore_n hV [some (.ref (ax_ad (cx_R, X) 0)), some (.int p1), some (.int p2), some (.int q6.1), none, none, none] dX10_isOther_9 rfl rfl) ?_
  refine ax_j (ax_iload_n hV dX10_isOther_10 rfl) ?_
  refine ax_jif (ax_if_eq hV dX10_isOther_11) ?_ ?_
  · refine ax_j (ax_iconst hV (0 : Int32) dX10_isOther_23 (by decide)) ?_
    refine ax_jf (lv' := [some (.ref (ax_ad (cx_R, X) 0)), some (.int p1), none, some (.int q6.1), none, none, none]) [true, true, false, true, false, false, false] rfl ?_
    exact N_X10_isOther_24 X hV  P hP p1 q6.1 (0 : Int32) q6.2
  · refine ax_j (ax_aload_n hV dX10_isOther_14 rfl) ?_
    refine ax_j (ax_iload_n hV dX10_isOther_15 rfl) ?_
    refine ax_j (ax_iconst hV (0 : Int32) dX10_isOther_16 (by decide)) ?_
    refine ax_jb (fun v ho => ax_cVi hV lk_X10_177 rfl dX10_isOther_17 rfl rfl [.int p1, .int (0 : Int32)] [] (fun ad => [.ref (ad 0), .int p1, .int (0 : Int32)]) rfl rfl rfl rfl v q6.2 (T_X10_endOf p1 (0 : Int32) q6.2 v ho)) (fun q17 => ?_)
    refine ax_j (ax_goto hV dX10_isOther_20) ?_
    refine ax_jf (lv' := [some (.ref (ax_ad (cx_R, X) 0)), some (.int p1), none, some (.int q6.1), none, none, none]) [true, true, false, true, false, false, false] rfl ?_
    exact N_X10_isOther_24 X hV  P hP p1 q6.1 q17 q6.2
theorem lk_X10_202 : ax_lkV RX10 202 mu_X10_isOther RX10 2 := ax_lkV_of (ax_m5 218 rfl rfl) (ax_m5 220 rfl rfl) (ax_mp4 9 rfl rfl rfl) (ax_m1 10 rfl rfl) lc_X10_isOther rfl ⟨by decide +kernel, by decide +kernel, by decide +kernel⟩
def mu_X10_changed : ax_Mu := (yX10_changed, cX10_changed, 10, some .int, 3, 76)
theorem lc_X10_changed : Cond.code mu_X10_changed.1 mu_X10_changed.2.1 mu_X10_changed.2.2.1 mu_X10_changed.2.2.2.1 ∈ ax_tb := (ax_m5 217 rfl rfl)
noncomputable def b_X10_changed_35 (l1 : Int32) (a : Int64 × Int32 × Int32 × ax_S) : Option ((Int64 × Int32 × Int32 × ax_S) ⊕ ((ax_S) ⊕ (Int32 × ax_S))) := (if (a.2.2.2.1 0 0) < a.2.2.1 then some (.inr (.inl a.2.2.2)) else (f_X10_knownBits a.2.2.1 a.2.2.2).bind (fun q47 => (if (lg_cmp q47 a.1) = 0 then some (.inl (q47, a.2.1, (a.2.2.1 + 1), a.2.2.2)) else (f_X10_isOther l1 a.2.2.1 a.2.2.2).bind (fun q64 => (if q64.1 = 0 then some (.inl (q47, a.2.1, (a.2.2.1 + 1), q64.2)) else (if a.2.1 = 0 then some (.inr (.inr (a.2.2.1, q64.2))) else some (.inl (q47, (a.2.1 + (-1)), (a.2.2.1 + 1), q64.2))))))))
noncomputable def f_X10_changed (p1 : Int32) (p2 : Int32) (s : ax_S) : Option (Int32 × ax_S) := (f_X10_isThing p1 s).bind (fun q2 => (if q2 = 0 then some (((-2 : Int32), s)) else (if 0 ≤ p2 then (f_X10_isOther p1 (0 : Int32) s).bind (fun q18 => (f_X10_knownBits (0 : Int32) q18.2).bind (fun q24 => (ax_lp (b_X10_changed_35 p1) (q24, p2, (1 : Int32), q18.2)).bind (Sum.elim (fun e35 => some (((-1 : Int32), e35))) (fun r => some (r))))) else some (((-2 : Int32), s)))))
theorem B_X10_changed_35 (X : ax_G × ax_K × Option Value × ax_S) (hV : ax_ok (cx_R, X) mu_X10_changed) (l1 : Int32) (P : ((Int64 × Int32 × Int32 × ax_S) ⊕ ((ax_S) ⊕ (Int32 × ax_S))) → Prop) (hI : ∀ a : Int64 × Int32 × Int32 × ax_S, P (.inl a) → ax_At (cx_R, X) 35 [some (.ref (ax_ad (cx_R, X) 0)), some (.int l1), none, none, some (.long a.1), none, some (.int a.2.1), some (.int a.2.2.1), none, none] [] a.2.2.2) (hO : ∀ e : ax_S, P (.inr (.inl e)) → ax_At (cx_R, X) 91 [none, none, none, none, none, none, none, none, none, none] [] e) (hR : ∀ r : Int32 × ax_S, P (.inr (.inr r)) → X.2.2 = (fun r : Int32 × ax_S => (some (Value.int r.1), r.2)) r) (a : Int64 × Int32 × Int32 × ax_S) : ax_J (cx_R, X) P 35 [some (.ref (ax_ad (cx_R, X) 0)), some (.int l1), none, none, some (.long a.1), none, some (.int a.2.1), some (.int a.2.2.1), none, none] [] a.2.2.2 (b_X10_changed_35 l1 a) := by
  unfold b_X10_changed_35
  refine ax_j (ax_iload hV dX10_changed_35 rfl) ?_
  refine ax_j (ax_aload_n hV dX10_changed_37 rfl) ?_
  refine ax_j (ax_gfi hV lf_X10_104 dX10_changed_38 rfl rfl) ?_
  refine ax_jif (ax_icmp_gt hV dX10_changed_41) ?_ ?_
  · refine ax_jf (lv' := [none, none, none, none, none, none, none, none, none, none]) [false, false, false, false, false, false, false, false, false, false] rfl ?_
    exact ax_jl (fun h => hO a.2.2.2 h)
  · refine ax_j (ax_aload_n hV dX10_changed_44 rfl) ?_
    refine ax_j (ax_iload hV dX10_changed_45 rfl) ?_
    refine ax_jb (fun v ho => ax_cVl hV lk_X10_114 rfl dX10_changed_47 rfl rfl [.int a.2.2.1] [] (fun ad => [.ref (ad 0), .int a.2.2.1]) rfl rfl rfl rfl v a.2.2.2 (T_X10_knownBits a.2.2.1 a.2.2.2 v ho)) (fun q47 => ?_)
    refine ax_j (ax_lstore hV [some (.ref (ax_ad (cx_R, X) 0)), some (.int l1), none, none, some (.long a.1), none, some (.int a.2.1), some (.int a.2.2.1), some (.long q47), none] dX10_changed_50 rfl rfl) ?_
    refine ax_j (ax_lload hV dX10_changed_52 rfl) ?_
    refine ax_j (ax_lload hV dX10_changed_54 rfl) ?_
    refine ax_j (ax_lcmp hV dX10_changed_56) ?_
    refine ax_jif (ax_if_eq hV dX10_changed_57) ?_ ?_
    · refine ax_j (ax_lload hV dX10_changed_81 rfl) ?_
      refine ax_j (ax_lstore hV [some (.ref (ax_ad (cx_R, X) 0)), some (.int l1), none, none, some (.long q47), none, some (.int a.2.1), some (.int a.2.2.1), some (.long q47), none] dX10_changed_83 rfl rfl) ?_
      refine ax_j (ax_iinc hV (a.2.2.1 + 1) [some (.ref (ax_ad (cx_R, X) 0)), some (.int l1), none, none, some (.long q47), none, some (.int a.2.1), some (.int (a.2.2.1 + 1)), some (.long q47), none] dX10_changed_85 rfl rfl rfl rfl) ?_
      refine ax_j (ax_goto hV dX10_changed_88) ?_
      refine ax_jf (lv' := [some (.ref (ax_ad (cx_R, X) 0)), some (.int l1), none, none, some (.long q47), none, some (.int a.2.1), some (.int (a.2.2.1 + 1)), none, none]) [true, true, false, false, true, false, true, true, false, false] rfl ?_
      exact ax_jl (fun h => hI (q47, a.2.1, (a.2.2.1 + 1), a.2.2.2) h)
    · refine ax_j (ax_aload_n hV dX10_changed_60 rfl) ?_
      refine ax_j (ax_iload_n hV dX10_changed_61 rfl) ?_
      refine ax_j (ax_iload hV dX10_changed_62 rfl) ?_
      refine ax_jb (fun v ho => ax_cVi hV lk_X10_202 rfl dX10_changed_64 rfl rfl [.int l1, .int a.2.2.1] [] (fun ad => [.ref (ad 0), .int l1, .int a.2.2.1]) rfl rfl rfl rfl v.1 v.2 (T_X10_isOther l1 a.2.2.1 a.2.2.2 v ho)) (fun q64 => ?_)
      refine ax_jif (ax_if_eq hV dX10_changed_67) ?_ ?_
      · refine ax_j (ax_lload hV dX10_changed_81 rfl) ?_
        refine ax_j (ax_lstore hV [some (.ref (ax_ad (cx_R, X) 0)), some (.int l1), none, none, some (.long q47), none, some (.int a.2.1), some (.int a.2.2.1), some (.long q47), none] dX10_changed_83 rfl rfl) ?_
        refine ax_j (ax_iinc hV (a.2.2.1 + 1) [some (.ref (ax_ad (cx_R, X) 0)), some (.int l1), none, none, some (.long q47), none, some (.int a.2.1), some (.int (a.2.2.1 + 1)), some (.long q47), none] dX10_changed_85 rfl rfl rfl rfl) ?_
        refine ax_j (ax_goto hV dX10_changed_88) ?_
        refine ax_jf (lv' := [some (.ref (ax_ad (cx_R, X) 0)), some (.int l1), none, none, some (.long q47), none, some (.int a.2.1), some (.int (a.2.2.1 + 1)), none, none]) [true, true, false, false, true, false, true, true, false, false] rfl ?_
        exact ax_jl (fun h => hI (q47, a.2.1, (a.2.2.1 + 1), q64.2) h)
      · refine ax_j (ax_iload hV dX10_changed_70 rfl) ?_
        refine ax_jif (ax_if_ne hV dX10_changed_72) ?_ ?_
        · refine ax_j (ax_iload hV dX10_changed_75 rfl) ?_
          exact ax_jl (fun h => ax_ir hV rfl dX10_changed_77 (hR (a.2.2.1, q64.2) h))
        · refine ax_j (ax_iinc hV (a.2.1 + (-1)) [some (.ref (ax_ad (cx_R, X) 0)), some (.int l1), none, none, some (.long a.1), none, some (.int (a.2.1 + (-1))), some (.int a.2.2.1), some (.long q47), none] dX10_changed_78 rfl rfl rfl rfl) ?_
          refine ax_j (ax_lload hV dX10_changed_81 rfl) ?_
          refine ax_j (ax_lstore hV [some (.ref (ax_ad (cx_R, X) 0)), some (.int l1), none, none, some (.long q47), none, some (.int (a.2.1 + (-1))), some (.int a.2.2.1), some (.long q47), none] dX10_changed_83 rfl rfl) ?_
          refine ax_j (ax_iinc hV (a.2.2.1 + 1) [some (.ref (ax_ad (cx_R, X) 0)), some (.int l1), none, none, some (.long q47), none, some (.int (a.2.1 + (-1))), some (.int (a.2.2.1 + 1)), some (.long q47), none] dX10_changed_85 rfl rfl rfl rfl) ?_
          refine ax_j (ax_goto hV dX10_changed_88) ?_
          refine ax_jf (lv' := [some (.ref (ax_ad (cx_R, X) 0)), some (.int l1), none, none, some (.long q47), none, some (.int (a.2.1 + (-1))), some (.int (a.2.2.1 + 1)), none, none]) [true, true, false, false, true, false, true, true, false, false] rfl ?_
          exact ax_jl (fun h => hI (q47, (a.2.1 + (-1)), (a.2.2.1 + 1), q64.2) h)
theorem T_X10_changed (p1 : Int32) (p2 : Int32) (s : ax_S) (r : Int32 × ax_S) (h : f_X10_changed p1 p2 s = some r) : ax_M cx_R mu_X10_changed (fun ad => [.ref (ad 0), .int p1, .int p2]) s (some (.int r.1)) r.2 := by
  refine ax_enter (by decide +kernel) 7 (fun ad => [some (.ref (ad 0)), some (.int p1), some (.int p2), none, none, none, none, none, none, none]) (fun ad => rfl) (fun ad => Nat.le_of_ble_eq_true rfl) (fun X hV ho => ?_)
  refine ax_go (fun r : Int32 × ax_S => (some (Value.int r.1), r.2)) (fun P hP => ?_) h ho
  unfold f_X10_changed
  refine ax_j (ax_aload_n hV dX10_changed_0 rfl) ?_
  refine ax_j (ax_iload_n hV dX10_changed_1 rfl) ?_
  refine ax_jb (fun v ho => ax_cVi hV lk_X10_122 rfl dX10_changed_2 rfl rfl [.int p1] [] (fun ad => [.ref (ad 0), .int p1]) rfl rfl rfl rfl v s (T_X10_isThing p1 s v ho)) (fun q2 => ?_)
  refine ax_jif (ax_if_eq hV dX10_changed_5) ?_ ?_
  · refine ax_j (ax_bipush hV (-2 : Int32) dX10_changed_12 (by decide)) ?_
    exact ax_jl (fun h => ax_ir hV rfl dX10_changed_14 (hP ((-2 : Int32), s) h))
  · refine ax_j (ax_iload_n hV dX10_changed_8 rfl) ?_
    refine ax_jif (ax_if_ge hV dX10_changed_9) ?_ ?_
    · refine ax_j (ax_aload_n hV dX10_changed_15 rfl) ?_
      refine ax_j (ax_iload_n hV dX10_changed_16 rfl) ?_
      refine ax_j (ax_iconst hV (0 : Int32) dX10_changed_17 (by decide)) ?_
      refine ax_jb (fun v ho => ax_cVi hV lk_X10_202 rfl dX10_changed_18 rfl rfl [.int p1, .int (0 : Int32)] [] (fun ad => [.ref (ad 0), .int p1, .int (0 : Int32)]) rfl rfl rfl rfl v.1 v.2 (T_X10_isOther p1 (0 : Int32) s v ho)) (fun q18 => ?_)
      refine ax_j (ax_istore_n hV [some (.ref (ax_ad (cx_R, X) 0)), some (.int p1), some (.int p2), some (.int q18.1), none, none, none, none, none, none] dX10_changed_21 rfl rfl) ?_
      refine ax_j (ax_aload_n hV dX10_changed_22 rfl) ?_
      refine ax_j (ax_iconst hV (0 : Int32) dX10_changed_23 (by decide)) ?_
      refine ax_jb (fun v ho => ax_cVl hV lk_X10_114 rfl dX10_changed_24 rfl rfl [.int (0 : Int32)] [] (fun ad => [.ref (ad 0), .int (0 : Int32)]) rfl rfl rfl rfl v q18.2 (T_X10_knownBits (0 : Int32) q18.2 v ho)) (fun q24 => ?_)
      refine ax_j (ax_lstore hV [some (.ref (ax_ad (cx_R, X) 0)), some (.int p1), some (.int p2), some (.int q18.1), some (.long q24), none, none, none, none, none] dX10_changed_27 rfl rfl) ?_
      refine ax_j (ax_iload_n hV dX10_changed_29 rfl) ?_
      refine ax_j (ax_istore hV [some (.ref (ax_ad (cx_R, X) 0)), some (.int p1), some (.int p2), some (.int q18.1), some (.long q24), none, some (.int p2), none, none, none] dX10_changed_30 rfl rfl) ?_
      refine ax_j (ax_iconst hV (1 : Int32) dX10_changed_32 (by decide)) ?_
      refine ax_j (ax_istore hV [some (.ref (ax_ad (cx_R, X) 0)), some (.int p1), some (.int p2), some (.int q18.1), some (.long q24), none, some (.int p2), some (.int (1 : Int32)), none, none] dX10_changed_33 rfl rfl) ?_
      refine ax_jf (lv' := [some (.ref (ax_ad (cx_R, X) 0)), some (.int p1), none, none, some (.long q24), none, some (.int p2), some (.int (1 : Int32)), none, none]) [true, true, false, false, true, false, true, true, false, false] rfl ?_
      refine ax_jlr (q24, p2, (1 : Int32), q18.2) (fun x35 : Int64 × Int32 × Int32 × ax_S => [some (.ref (ax_ad (cx_R, X) 0)), some (.int p1), none, none, some (.long x35.1), none, some (.int x35.2.1), some (.int x35.2.2.1), none, none]) (fun x35 : Int64 × Int32 × Int32 × ax_S => x35.2.2.2) (fun y35 : ax_S => [none, none, none, none, none, none, none, none, none, none]) (fun y35 : ax_S => y35) (fun P' h1 h2 h3 w => B_X10_changed_35 X hV p1 P' h1 h2 (fun r h => hP r (h3 r h)) w) (fun e35 => ?_)
      refine ax_j (ax_iconst hV (-1 : Int32) dX10_changed_91 (by decide)) ?_
      exact ax_jl (fun h => ax_ir hV rfl dX10_changed_92 (hP ((-1 : Int32), e35) h))
    · refine ax_j (ax_bipush hV (-2 : Int32) dX10_changed_12 (by decide)) ?_
      exact ax_jl (fun h => ax_ir hV rfl dX10_changed_14 (hP ((-2 : Int32), s) h))
def mu_X10_isFitting : ax_Mu := (yX10_isFitting, cX10_isFitting, 6, some .boolean, 2, 43)
theorem lc_X10_isFitting : Cond.code mu_X10_isFitting.1 mu_X10_isFitting.2.1 mu_X10_isFitting.2.2.1 mu_X10_isFitting.2.2.2.1 ∈ ax_tb := (ax_m5 229 rfl rfl)
noncomputable def b_X10_isFitting_2 (l1 : Int32) (s : ax_S) (a : Int32) : Option ((Int32) ⊕ ((Unit) ⊕ (Int32 × ax_S))) := (if (s.1 0 1) ≤ a then some (.inr (.inl ())) else (ax_ai cx_R s 25 (((40 : Int32) * l1) + a)).bind (fun v20 => (f_X10_in v20 (-200000 : Int32) (200000 : Int32)).bind (fun q25 => (if q25 = 0 then some (.inr (.inr ((0 : Int32), s))) else some (.inl (a + 1))))))
noncomputable def b_X10_isFitting_41 (l1 : Int32) (a : Int32 × ax_S) : Option ((Int32 × ax_S) ⊕ (ax_S)) := (if (a.2.1 0 2) ≤ a.1 then some (.inr a.2) else (ax_ai cx_R a.2 1 a.1).bind (fun v59 => (ax_si cx_R a.2 14 a.1 v59).bind (fun s60 => (ax_ai cx_R s60 2 a.1).bind (fun v71 => (ax_si cx_R s60 15 a.1 v71).bind (fun s72 => some (.inl ((a.1 + 1), s72)))))))
noncomputable def j_X10_isFitting_83_229 (l1 : Int32) (l2 : Int32) (l3 : Int32) (l4 : Int32) (l5 : Int32) (k0 : Int32) (k1 : Int32) (s : ax_S) : Option ((Int32 × Int32 × ax_S) ⊕ (Int32 × ax_S)) := (ax_si cx_R s 14 k1 k0).bind (fun s229 => (ax_ai cx_R s229 8 l3).bind (fun v241 => (ax_ai cx_R s229 15 l5).bind (fun v251 => (if v251 ≤ (v241 - l4) then (ax_ai cx_R s229 15 l5).bind (fun v273 => (ax_si cx_R s229 15 l5 v273).bind (fun s274 => some (.inl (l2, (l3 + 1), s274)))) else (ax_ai cx_R s229 8 l3).bind (fun v260 => (ax_si cx_R s229 15 l5 (v260 - l4)).bind (fun s274 => some (.inl (l2, (l3 + 1), s274))))))))
noncomputable def b_X10_isFitting_83 (l1 : Int32) (a : Int32 × Int32 × ax_S) : Option ((Int32 × Int32 × ax_S) ⊕ (Int32 × ax_S)) := (if (a.2.2.1 0 6) ≤ a.2.1 then some (.inr (a.1, a.2.2)) else (f_X10_isKnown a.2.1 a.2.2).bind (fun q93 => (if q93 = 0 then some (.inl (a.1, (a.2.1 + 1), a.2.2)) else (ax_ai cx_R a.2.2 5 a.2.1).bind (fun v112 => (ax_ai cx_R a.2.2 25 (((40 : Int32) * l1) + v112)).bind (fun v114 => (ax_ai cx_R a.2.2 4 a.2.1).bind (fun v122 => (ax_ai cx_R a.2.2 6 a.2.1).bind (fun v130 => (if v130 = (-1 : Int32) then (ax_ai cx_R a.2.2 7 a.2.1).bind (fun v196 => (ax_ai cx_R a.2.2 14 v122).bind (fun v206 => (if (v196 - v114) ≤ v206 then (ax_ai cx_R a.2.2 14 v122).bind (fun v228 => j_X10_isFitting_83_229 l1 a.1 a.2.1 v114 v122 v228 v122 a.2.2) else (ax_ai cx_R a.2.2 7 a.2.1).bind (fun v215 => j_X10_isFitting_83_229 l1 a.1 a.2.1 v114 v122 (v215 - v114) v122 a.2.2)))) else (if a.1 = 0 then some (.inl ((0 : Int32), (a.2.1 + 1), a.2.2)) else (ax_ai cx_R a.2.2 6 a.2.1).bind (fun v154 => (ax_ai cx_R a.2.2 25 (((40 : Int32) * l1) + v154)).bind (fun v156 => (ax_ai cx_R a.2.2 7 a.2.1).bind (fun v163 => (ax_ai cx_R a.2.2 8 a.2.1).bind (fun v169 => (f_X10_in (v114 - v156) v163 v169).bind (fun q170 => (if q170 = 0 then some (.inl ((0 : Int32), (a.2.1 + 1), a.2.2)) else some (.inl ((1 : Int32), (a.2.1 + 1), a.2.2)))))))))))))))))
noncomputable def b_X10_isFitting_283 (s : ax_S) (a : Int32 × Int32) : Option ((Int32 × Int32) ⊕ (Int32)) := (if (s.1 0 2) ≤ a.2 then some (.inr a.1) else (if a.1 = 0 then some (.inl ((0 : Int32), (a.2 + 1))) else (ax_ai cx_R s 14 a.2).bind (fun v300 => (ax_ai cx_R s 15 a.2).bind (fun v306 => (if v306 < v300 then some (.inl ((0 : Int32), (a.2 + 1))) else some (.inl ((1 : Int32), (a.2 + 1))))))))
noncomputable def f_X10_isFitting (p1 : Int32) (s : ax_S) : Option (Int32 × ax_S) := (ax_lp (b_X10_isFitting_2 p1 s) (0 : Int32)).bind (Sum.elim (fun e2 => (ax_lp (b_X10_isFitting_41 p1) ((0 : Int32), s)).bind (fun e41 => (ax_lp (b_X10_isFitting_83 p1) ((1 : Int32), (0 : Int32), e41)).bind (fun e83 => (ax_lp (b_X10_isFitting_283 e83.2) (e83.1, (0 : Int32))).bind (fun e283 => (ax_zb e283).bind (fun z => some ((z, e83.2))))))) (fun r => some (r)))
theorem B_X10_isFitting_2 (X : ax_G × ax_K × Option Value × ax_S) (hV : ax_ok (cx_R, X) mu_X10_isFitting) (l1 : Int32) (s : ax_S) (P : ((Int32) ⊕ ((Unit) ⊕ (Int32 × ax_S))) → Prop) (hI : ∀ a : Int32, P (.inl a) → ax_At (cx_R, X) 2 [some (.ref (ax_ad (cx_R, X) 0)), some (.int l1), some (.int a), none, none, none] [] s) (hO : ∀ e : Unit, P (.inr (.inl e)) → ax_At (cx_R, X) 39 [some (.ref (ax_ad (cx_R, X) 0)), some (.int l1), none, none, none, none] [] s) (hR : ∀ r : Int32 × ax_S, P (.inr (.inr r)) → X.2.2 = (fun r : Int32 × ax_S => (some (Value.int r.1), r.2)) r) (a : Int32) : ax_J (cx_R, X) P 2 [some (.ref (ax_ad (cx_R, X) 0)), some (.int l1), some (.int a), none, none, none] [] s (b_X10_isFitting_2 l1 s a) := by
  unfold b_X10_isFitting_2
  refine ax_j (ax_iload_n hV dX10_isFitting_2 rfl) ?_
  refine ax_j (ax_aload_n hV dX10_isFitting_3 rfl) ?_
  refine ax_j (ax_gfi hV lf_X10_94 dX10_isFitting_4 rfl rfl) ?_
  refine ax_jif (ax_icmp_ge hV dX10_isFitting_7) ?_ ?_
  · refine ax_jf (lv' := [some (.ref (ax_ad (cx_R, X) 0)), some (.int l1), none, none, none, none]) [true, true, false, false, false, false] rfl ?_
    exact ax_jl (fun h => hO () h)
  · refine ax_j (ax_aload_n hV dX10_isFitting_10 rfl) ?_
    refine ax_j (ax_gfr hV lf_X10_88 dX10_isFitting_11 rfl rfl) ?_
    refine ax_j (ax_bipush hV (40 : Int32) dX10_isFitting_14 (by decide)) ?_
    refine ax_j (ax_iload_n hV dX10_isFitting_16 rfl) ?_
    refine ax_j (ax_imul hV dX10_isFitting_17) ?_
    refine ax_j (ax_iload_n hV dX10_isFitting_18 rfl) ?_
    refine ax_j (ax_iadd hV dX10_isFitting_19) ?_
    refine ax_jb (ax_iald hV dX10_isFitting_20) (fun v20 => ?_)
    refine ax_j (ax_ldc hV kc_X10_125 dX10_isFitting_21) ?_
    refine ax_j (ax_ldc hV kc_X10_126 dX10_isFitting_23) ?_
    refine ax_jb (fun v ho => ax_cSi hV lk_X10_97 rfl dX10_isFitting_25 [.int v20, .int (-200000 : Int32), .int (200000 : Int32)] [] (fun ad => [.int v20, .int (-200000 : Int32), .int (200000 : Int32)]) rfl rfl rfl rfl v s (T_X10_in v20 (-200000 : Int32) (200000 : Int32) s v ho)) (fun q25 => ?_)
    refine ax_jif (ax_if_ne hV dX10_isFitting_28) ?_ ?_
    · refine ax_j (ax_iconst hV (0 : Int32) dX10_isFitting_31 (by decide)) ?_
      exact ax_jl (fun h => ax_zr hV rfl (by decide) dX10_isFitting_32 (hR ((0 : Int32), s) h))
    · refine ax_j (ax_iinc hV (a + 1) [some (.ref (ax_ad (cx_R, X) 0)), some (.int l1), some (.int (a + 1)), none, none, none] dX10_isFitting_33 rfl rfl rfl rfl) ?_
      refine ax_j (ax_goto hV dX10_isFitting_36) ?_
      exact ax_jl (fun h => hI (a + 1) h)
theorem B_X10_isFitting_41 (X : ax_G × ax_K × Option Value × ax_S) (hV : ax_ok (cx_R, X) mu_X10_isFitting) (l1 : Int32) (P : ((Int32 × ax_S) ⊕ (ax_S)) → Prop) (hI : ∀ a : Int32 × ax_S, P (.inl a) → ax_At (cx_R, X) 41 [some (.ref (ax_ad (cx_R, X) 0)), some (.int l1), some (.int a.1), none, none, none] [] a.2) (hO : ∀ e : ax_S, P (.inr e) → ax_At (cx_R, X) 79 [some (.ref (ax_ad (cx_R, X) 0)), some (.int l1), none, none, none, none] [] e) (a : Int32 × ax_S) : ax_J (cx_R, X) P 41 [some (.ref (ax_ad (cx_R, X) 0)), some (.int l1), some (.int a.1), none, none, none] [] a.2 (b_X10_isFitting_41 l1 a) := by
  unfold b_X10_isFitting_41
  refine ax_j (ax_iload_n hV dX10_isFitting_41 rfl) ?_
  refine ax_j (ax_aload_n hV dX10_isFitting_42 rfl) ?_
  refine ax_j (ax_gfi hV lf_X10_101 dX10_isFitting_43 rfl rfl) ?_
  refine ax_jif (ax_icmp_ge hV dX10_isFitting_46) ?_ ?_
  · refine ax_jf (lv' := [some (.ref (ax_ad (cx_R, X) 0)), some (.int l1), none, none, none, none]) [true, true, false, false, false, false] rfl ?_
    exact ax_jl (fun h => hO a.2 h)
  · refine ax_j (ax_aload_n hV dX10_isFitting_49 rfl) ?_
    refine ax_j (ax_gfr hV lf_X10_53 dX10_isFitting_50 rfl rfl) ?_
    refine ax_j (ax_iload_n hV dX10_isFitting_53 rfl) ?_
    refine ax_j (ax_aload_n hV dX10_isFitting_54 rfl) ?_
    refine ax_j (ax_gfr hV lf_X10_9 dX10_isFitting_55 rfl rfl) ?_
    refine ax_j (ax_iload_n hV dX10_isFitting_58 rfl) ?_
    refine ax_jb (ax_iald hV dX10_isFitting_59) (fun v59 => ?_)
    refine ax_jb (ax_iast hV dX10_isFitting_60) (fun s60 => ?_)
    refine ax_j (ax_aload_n hV dX10_isFitting_61 rfl) ?_
    refine ax_j (ax_gfr hV lf_X10_56 dX10_isFitting_62 rfl rfl) ?_
    refine ax_j (ax_iload_n hV dX10_isFitting_65 rfl) ?_
    refine ax_j (ax_aload_n hV dX10_isFitting_66 rfl) ?_
    refine ax_j (ax_gfr hV lf_X10_13 dX10_isFitting_67 rfl rfl) ?_
    refine ax_j (ax_iload_n hV dX10_isFitting_70 rfl) ?_
    refine ax_jb (ax_iald hV dX10_isFitting_71) (fun v71 => ?_)
    refine ax_jb (ax_iast hV dX10_isFitting_72) (fun s72 => ?_)
    refine ax_j (ax_iinc hV (a.1 + 1) [some (.ref (ax_ad (cx_R, X) 0)), some (.int l1), some (.int (a.1 + 1)), none, none, none] dX10_isFitting_73 rfl rfl rfl rfl) ?_
    refine ax_j (ax_goto hV dX10_isFitting_76) ?_
    exact ax_jl (fun h => hI ((a.1 + 1), s72) h)
theorem N_X10_isFitting_83_229 (X : ax_G × ax_K × Option Value × ax_S) (hV : ax_ok (cx_R, X) mu_X10_isFitting) (l1 : Int32) (P : ((Int32 × Int32 × ax_S) ⊕ (Int32 × ax_S)) → Prop) (hI : ∀ a : Int32 × Int32 × ax_S, P (.inl a) → ax_At (cx_R, X) 83 [some (.ref (ax_ad (cx_R, X) 0)), some (.int l1), some (.int a.1), some (.int a.2.1), none, none] [] a.2.2) (hO : ∀ e : Int32 × ax_S, P (.inr e) → ax_At (cx_R, X) 281 [some (.ref (ax_ad (cx_R, X) 0)), none, some (.int e.1), none, none, none] [] e.2) (l2 : Int32) (l3 : Int32) (l4 : Int32) (l5 : Int32) (k0 : Int32) (k1 : Int32) (s : ax_S) : ax_J (cx_R, X) P 229 [some (.ref (ax_ad (cx_R, X) 0)), some (.int l1), some (.int l2), some (.int l3), some (.int l4), some (.int l5)] [.int k0, .int k1, .ref (ax_ad (cx_R, X) 14)] s (j_X10_isFitting_83_229 l1 l2 l3 l4 l5 k0 k1 s) := by
  unfold j_X10_isFitting_83_229
  refine ax_jb (ax_iast hV dX10_isFitting_229) (fun s229 => ?_)
  refine ax_j (ax_aload_n hV dX10_isFitting_230 rfl) ?_
  refine ax_j (ax_gfr hV lf_X10_56 dX10_isFitting_231 rfl rfl) ?_
  refine ax_j (ax_iload hV dX10_isFitting_234 rfl) ?_
  refine ax_j (ax_aload_n hV dX10_isFitting_236 rfl) ?_
  refine ax_j (ax_gfr hV lf_X10_31 dX10_isFitting_237 rfl rfl) ?_
  refine ax_j (ax_iload_n hV dX10_isFitting_240 rfl) ?_
  refine ax_jb (ax_iald hV dX10_isFitting_241) (fun v241 => ?_)
  refine ax_j (ax_iload hV dX10_isFitting_242 rfl) ?_
  refine ax_j (ax_isub hV dX10_isFitting_244) ?_
  refine ax_j (ax_aload_n hV dX10_isFitting_245 rfl) ?_
  refine ax_j (ax_gfr hV lf_X10_56 dX10_isFitting_246 rfl rfl) ?_
  refine ax_j (ax_iload hV dX10_isFitting_249 rfl) ?_
  refine ax_jb (ax_iald hV dX10_isFitting_251) (fun v251 => ?_)
  refine ax_jif (ax_icmp_ge hV dX10_isFitting_252) ?_ ?_
  · refine ax_j (ax_aload_n hV dX10_isFitting_267 rfl) ?_
    refine ax_j (ax_gfr hV lf_X10_56 dX10_isFitting_268 rfl rfl) ?_
    refine ax_j (ax_iload hV dX10_isFitting_271 rfl) ?_
    refine ax_jb (ax_iald hV dX10_isFitting_273) (fun v273 => ?_)
    refine ax_jb (ax_iast hV dX10_isFitting_274) (fun s274 => ?_)
    refine ax_j (ax_iinc hV (l3 + 1) [some (.ref (ax_ad (cx_R, X) 0)), some (.int l1), some (.int l2), some (.int (l3 + 1)), some (.int l4), some (.int l5)] dX10_isFitting_275 rfl rfl rfl rfl) ?_
    refine ax_j (ax_goto hV dX10_isFitting_278) ?_
    refine ax_jf (lv' := [some (.ref (ax_ad (cx_R, X) 0)), some (.int l1), some (.int l2), some (.int (l3 + 1)), none, none]) [true, true, true, true, false, false] rfl ?_
    exact ax_jl (fun h => hI (l2, (l3 + 1), s274) h)
  · refine ax_j (ax_aload_n hV dX10_isFitting_255 rfl) ?_
    refine ax_j (ax_gfr hV lf_X10_31 dX10_isFitting_256 rfl rfl) ?_
    refine ax_j (ax_iload_n hV dX10_isFitting_259 rfl) ?_
    refine ax_jb (ax_iald hV dX10_isFitting_260) (fun v260 => ?_)
    refine ax_j (ax_iload hV dX10_isFitting_261 rfl) ?_
    refine ax_j (ax_isub hV dX10_isFitting_263) ?_
    refine ax_j (ax_goto hV dX10_isFitting_264) ?_
    refine ax_jb (ax_iast hV dX10_isFitting_274) (fun s274 => ?_)
    refine ax_j (ax_iinc hV (l3 + 1) [some (.ref (ax_ad (cx_R, X) 0)), some (.int l1), some (.int l2), some (.int (l3 + 1)), some (.int l4), some (.int l5)] dX10_isFitting_275 rfl rfl rfl rfl) ?_
    refine ax_j (ax_goto hV dX10_isFitting_278) ?_
    refine ax_jf (lv' := [some (.ref (ax_ad (cx_R, X) 0)), some (.int l1), some (.int l2), some (.int (l3 + 1)), none, none]) [true, true, true, true, false, false] rfl ?_
    exact ax_jl (fun h => hI (l2, (l3 + 1), s274) h)
theorem B_X10_isFitting_83 (X : ax_G × ax_K × Option Value × ax_S) (hV : ax_ok (cx_R, X) mu_X10_isFitting) (l1 : Int32) (P : ((Int32 × Int32 × ax_S) ⊕ (Int32 × ax_S)) → Prop) (hI : ∀ a : Int32 × Int32 × ax_S, P (.inl a) → ax_At (cx_R, X) 83 [some (.ref (ax_ad (cx_R, X) 0)), some (.int l1), some (.int a.1), some (.int a.2.1), none, none] [] a.2.2) (hO : ∀ e : Int32 × ax_S, P (.inr e) → ax_At (cx_R, X) 281 [some (.ref (ax_ad (cx_R, X) 0)), none, some (.int e.1), none, none, none] [] e.2) (a : Int32 × Int32 × ax_S) : ax_J (cx_R, X) P 83 [some (.ref (ax_ad (cx_R, X) 0)), some (.int l1), some (.int a.1), some (.int a.2.1), none, none] [] a.2.2 (b_X10_isFitting_83 l1 a) := by
  unfold b_X10_isFitting_83
  refine ax_j (ax_iload_n hV dX10_isFitting_83 rfl) ?_
  refine ax_j (ax_aload_n hV dX10_isFitting_84 rfl) ?_
  refine ax_j (ax_gfi hV lf_X10_111 dX10_isFitting_85 rfl rfl) ?_
  refine ax_jif (ax_icmp_ge hV dX10_isFitting_88) ?_ ?_
  · refine ax_jf (lv' := [some (.ref (ax_ad (cx_R, X) 0)), none, some (.int a.1), none, none, none]) [true, false, true, false, false, false] rfl ?_
    exact ax_jl (fun h => hO (a.1, a.2.2) h)
  · refine ax_j (ax_aload_n hV dX10_isFitting_91 rfl) ?_
    refine ax_j (ax_iload_n hV dX10_isFitting_92 rfl) ?_
    refine ax_jb (fun v ho => ax_cVi hV lk_X10_147 rfl dX10_isFitting_93 rfl rfl [.int a.2.1] [] (fun ad => [.ref (ad 0), .int a.2.1]) rfl rfl rfl rfl v a.2.2 (T_X10_isKnown a.2.1 a.2.2 v ho)) (fun q93 => ?_)
    refine ax_jif (ax_if_eq hV dX10_isFitting_96) ?_ ?_
    · refine ax_j (ax_iinc hV (a.2.1 + 1) [some (.ref (ax_ad (cx_R, X) 0)), some (.int l1), some (.int a.1), some (.int (a.2.1 + 1)), none, none] dX10_isFitting_275 rfl rfl rfl rfl) ?_
      refine ax_j (ax_goto hV dX10_isFitting_278) ?_
      exact ax_jl (fun h => hI (a.1, (a.2.1 + 1), a.2.2) h)
    · refine ax_j (ax_aload_n hV dX10_isFitting_99 rfl) ?_
      refine ax_j (ax_gfr hV lf_X10_88 dX10_isFitting_100 rfl rfl) ?_
      refine ax_j (ax_bipush hV (40 : Int32) dX10_isFitting_103 (by decide)) ?_
      refine ax_j (ax_iload_n hV dX10_isFitting_105 rfl) ?_
      refine ax_j (ax_imul hV dX10_isFitting_106) ?_
      refine ax_j (ax_aload_n hV dX10_isFitting_107 rfl) ?_
      refine ax_j (ax_gfr hV lf_X10_22 dX10_isFitting_108 rfl rfl) ?_
      refine ax_j (ax_iload_n hV dX10_isFitting_111 rfl) ?_
      refine ax_jb (ax_iald hV dX10_isFitting_112) (fun v112 => ?_)
      refine ax_j (ax_iadd hV dX10_isFitting_113) ?_
      refine ax_jb (ax_iald hV dX10_isFitting_114) (fun v114 => ?_)
      refine ax_j (ax_istore hV [some (.ref (ax_ad (cx_R, X) 0)), some (.int l1), some (.int a.1), some (.int a.2.1), some (.int v114), none] dX10_isFitting_115 rfl rfl) ?_
      refine ax_j (ax_aload_n hV dX10_isFitting_117 rfl) ?_
      refine ax_j (ax_gfr hV lf_X10_19 dX10_isFitting_118 rfl rfl) ?_
      refine ax_j (ax_iload_n hV dX10_isFitting_121 rfl) ?_
      refine ax_jb (ax_iald hV dX10_isFitting_122) (fun v122 => ?_)
      refine ax_j (ax_istore hV [some (.ref (ax_ad (cx_R, X) 0)), some (.int l1), some (.int a.1), some (.int a.2.1), some (.int v114), some (.int v122)] dX10_isFitting_123 rfl rfl) ?_
      refine ax_j (ax_aload_n hV dX10_isFitting_125 rfl) ?_
      refine ax_j (ax_gfr hV lf_X10_25 dX10_isFitting_126 rfl rfl) ?_
      refine ax_j (ax_iload_n hV dX10_isFitting_129 rfl) ?_
      refine ax_jb (ax_iald hV dX10_isFitting_130) (fun v130 => ?_)
      refine ax_j (ax_iconst hV (-1 : Int32) dX10_isFitting_131 (by decide)) ?_
      refine ax_jif (ax_icmp_eq hV dX10_isFitting_132) ?_ ?_
      · refine ax_j (ax_aload_n hV dX10_isFitting_185 rfl) ?_
        refine ax_j (ax_gfr hV lf_X10_53 dX10_isFitting_186 rfl rfl) ?_
        refine ax_j (ax_iload hV dX10_isFitting_189 rfl) ?_
        refine ax_j (ax_aload_n hV dX10_isFitting_191 rfl) ?_
        refine ax_j (ax_gfr hV lf_X10_28 dX10_isFitting_192 rfl rfl) ?_
        refine ax_j (ax_iload_n hV dX10_isFitting_195 rfl) ?_
        refine ax_jb (ax_iald hV dX10_isFitting_196) (fun v196 => ?_)
        refine ax_j (ax_iload hV dX10_isFitting_197 rfl) ?_
        refine ax_j (ax_isub hV dX10_isFitting_199) ?_
        refine ax_j (ax_aload_n hV dX10_isFitting_200 rfl) ?_
        refine ax_j (ax_gfr hV lf_X10_53 dX10_isFitting_201 rfl rfl) ?_
        refine ax_j (ax_iload hV dX10_isFitting_204 rfl) ?_
        refine ax_jb (ax_iald hV dX10_isFitting_206) (fun v206 => ?_)
        refine ax_jif (ax_icmp_le hV dX10_isFitting_207) ?_ ?_
        · refine ax_j (ax_aload_n hV dX10_isFitting_222 rfl) ?_
          refine ax_j (ax_gfr hV lf_X10_53 dX10_isFitting_223 rfl rfl) ?_
          refine ax_j (ax_iload hV dX10_isFitting_226 rfl) ?_
          refine ax_jb (ax_iald hV dX10_isFitting_228) (fun v228 => ?_)
          exact N_X10_isFitting_83_229 X hV l1 P hI hO a.1 a.2.1 v114 v122 v228 v122 a.2.2
        · refine ax_j (ax_aload_n hV dX10_isFitting_210 rfl) ?_
          refine ax_j (ax_gfr hV lf_X10_28 dX10_isFitting_211 rfl rfl) ?_
          refine ax_j (ax_iload_n hV dX10_isFitting_214 rfl) ?_
          refine ax_jb (ax_iald hV dX10_isFitting_215) (fun v215 => ?_)
          refine ax_j (ax_iload hV dX10_isFitting_216 rfl) ?_
          refine ax_j (ax_isub hV dX10_isFitting_218) ?_
          refine ax_j (ax_goto hV dX10_isFitting_219) ?_
          exact N_X10_isFitting_83_229 X hV l1 P hI hO a.1 a.2.1 v114 v122 (v215 - v114) v122 a.2.2
      · refine ax_j (ax_iload_n hV dX10_isFitting_135 rfl) ?_
        refine ax_jif (ax_if_eq hV dX10_isFitting_136) ?_ ?_
        · refine ax_j (ax_iconst hV (0 : Int32) dX10_isFitting_180 (by decide)) ?_
          refine ax_j (ax_istore_n hV [some (.ref (ax_ad (cx_R, X) 0)), some (.int l1), some (.int (0 : Int32)), some (.int a.2.1), some (.int v114), some (.int v122)] dX10_isFitting_181 rfl rfl) ?_
          refine ax_j (ax_goto hV dX10_isFitting_182) ?_
          refine ax_j (ax_iinc hV (a.2.1 + 1) [some (.ref (ax_ad (cx_R, X) 0)), some (.int l1), some (.int (0 : Int32)), some (.int (a.2.1 + 1)), some (.int v114), some (.int v122)] dX10_isFitting_275 rfl rfl rfl rfl) ?_
          refine ax_j (ax_goto hV dX10_isFitting_278) ?_
          refine ax_jf (lv' := [some (.ref (ax_ad (cx_R, X) 0)), some (.int l1), some (.int (0 : Int32)), some (.int (a.2.1 + 1)), none, none]) [true, true, true, true, false, false] rfl ?_
          exact ax_jl (fun h => hI ((0 : Int32), (a.2.1 + 1), a.2.2) h)
        · refine ax_j (ax_iload hV dX10_isFitting_139 rfl) ?_
          refine ax_j (ax_aload_n hV dX10_isFitting_141 rfl) ?_
          refine ax_j (ax_gfr hV lf_X10_88 dX10_isFitting_142 rfl rfl) ?_
          refine ax_j (ax_bipush hV (40 : Int32) dX10_isFitting_145 (by decide)) ?_
          refine ax_j (ax_iload_n hV dX10_isFitting_147 rfl) ?_
          refine ax_j (ax_imul hV dX10_isFitting_148) ?_
          refine ax_j (ax_aload_n hV dX10_isFitting_149 rfl) ?_
          refine ax_j (ax_gfr hV lf_X10_25 dX10_isFitting_150 rfl rfl) ?_
          refine ax_j (ax_iload_n hV dX10_isFitting_153 rfl) ?_
          refine ax_jb (ax_iald hV dX10_isFitting_154) (fun v154 => ?_)
          refine ax_j (ax_iadd hV dX10_isFitting_155) ?_
          refine ax_jb (ax_iald hV dX10_isFitting_156) (fun v156 => ?_)
          refine ax_j (ax_isub hV dX10_isFitting_157) ?_
          refine ax_j (ax_aload_n hV dX10_isFitting_158 rfl) ?_
          refine ax_j (ax_gfr hV lf_X10_28 dX10_isFitting_159 rfl rfl) ?_
          refine ax_j (ax_iload_n hV dX10_isFitting_162 rfl) ?_
          refine ax_jb (ax_iald hV dX10_isFitting_163) (fun v163 => ?_)
          refine ax_j (ax_aload_n hV dX10_isFitting_164 rfl) ?_
          refine ax_j (ax_gfr hV lf_X10_31 dX10_isFitting_165 rfl rfl) ?_
          refine ax_j (ax_iload_n hV dX10_isFitting_168 rfl) ?_
          refine ax_jb (ax_iald hV dX10_isFitting_169) (fun v169 => ?_)
          refine ax_jb (fun v ho => ax_cSi hV lk_X10_97 rfl dX10_isFitting_170 [.int (v114 - v156), .int v163, .int v169] [] (fun ad => [.int (v114 - v156), .int v163, .int v169]) rfl rfl rfl rfl v a.2.2 (T_X10_in (v114 - v156) v163 v169 a.2.2 v ho)) (fun q170 => ?_)
          refine ax_jif (ax_if_eq hV dX10_isFitting_173) ?_ ?_
          · refine ax_j (ax_iconst hV (0 : Int32) dX10_isFitting_180 (by decide)) ?_
            refine ax_j (ax_istore_n hV [some (.ref (ax_ad (cx_R, X) 0)), some (.int l1), some (.int (0 : Int32)), some (.int a.2.1), some (.int v114), some (.int v122)] dX10_isFitting_181 rfl rfl) ?_
            refine ax_j (ax_goto hV dX10_isFitting_182) ?_
            refine ax_j (ax_iinc hV (a.2.1 + 1) [some (.ref (ax_ad (cx_R, X) 0)), some (.int l1), some (.int (0 : Int32)), some (.int (a.2.1 + 1)), some (.int v114), some (.int v122)] dX10_isFitting_275 rfl rfl rfl rfl) ?_
            refine ax_j (ax_goto hV dX10_isFitting_278) ?_
            refine ax_jf (lv' := [some (.ref (ax_ad (cx_R, X) 0)), some (.int l1), some (.int (0 : Int32)), some (.int (a.2.1 + 1)), none, none]) [true, true, true, true, false, false] rfl ?_
            exact ax_jl (fun h => hI ((0 : Int32), (a.2.1 + 1), a.2.2) h)
          · refine ax_j (ax_iconst hV (1 : Int32) dX10_isFitting_176 (by decide)) ?_
            refine ax_j (ax_goto hV dX10_isFitting_177) ?_
            refine ax_j (ax_istore_n hV [some (.ref (ax_ad (cx_R, X) 0)), some (.int l1), some (.int (1 : Int32)), some (.int a.2.1), some (.int v114), some (.int v122)] dX10_isFitting_181 rfl rfl) ?_
            refine ax_j (ax_goto hV dX10_isFitting_182) ?_
            refine ax_j (ax_iinc hV (a.2.1 + 1) [some (.ref (ax_ad (cx_R, X) 0)), some (.int l1), some (.int (1 : Int32)), some (.int (a.2.1 + 1)), some (.int v114), some (.int v122)] dX10_isFitting_275 rfl rfl rfl rfl) ?_
            refine ax_j (ax_goto hV dX10_isFitting_278) ?_
            refine ax_jf (lv' := [some (.ref (ax_ad (cx_R, X) 0)), some (.int l1), some (.int (1 : Int32)), some (.int (a.2.1 + 1)), none, none]) [true, true, true, true, false, false] rfl ?_
            exact ax_jl (fun h => hI ((1 : Int32), (a.2.1 + 1), a.2.2) h)
theorem B_X10_isFitting_283 (X : ax_G × ax_K × Option Value × ax_S) (hV : ax_ok (cx_R, X) mu_X10_isFitting) (s : ax_S) (P : ((Int32 × Int32) ⊕ (Int32)) → Prop) (hI : ∀ a : Int32 × Int32, P (.inl a) → ax_At (cx_R, X) 283 [some (.ref (ax_ad (cx_R, X) 0)), none, some (.int a.1), some (.int a.2), none, none] [] s) (hO : ∀ e : Int32, P (.inr e) → ax_At (cx_R, X) 322 [none, none, some (.int e), none, none, none] [] s) (a : Int32 × Int32) : ax_J (cx_R, X) P 283 [some (.ref (ax_ad (cx_R, X) 0)), none, some (.int a.1), some (.int a.2), none, none] [] s (b_X10_isFitting_283 s a) := by
  unfold b_X10_isFitting_283
  refine ax_j (ax_iload_n hV dX10_isFitting_283 rfl) ?_
  refine ax_j (ax_aload_n hV dX10_isFitting_284 rfl) ?_
  refine ax_j (ax_gfi hV lf_X10_101 dX10_isFitting_285 rfl rfl) ?_
  refine ax_jif (ax_icmp_ge hV dX10_isFitting_288) ?_ ?_
  · refine ax_jf (lv' := [none, none, some (.int a.1), none, none, none]) [false, false, true, false, false, false] rfl ?_
    exact ax_jl (fun h => hO a.1 h)
  · refine ax_j (ax_iload_n hV dX10_isFitting_291 rfl) ?_
    refine ax_jif (ax_if_eq hV dX10_isFitting_292) ?_ ?_
    · refine ax_j (ax_iconst hV (0 : Int32) dX10_isFitting_314 (by decide)) ?_
      refine ax_j (ax_istore_n hV [some (.ref (ax_ad (cx_R, X) 0)), none, some (.int (0 : Int32)), some (.int a.2), none, none] dX10_isFitting_315 rfl rfl) ?_
      refine ax_j (ax_iinc hV (a.2 + 1) [some (.ref (ax_ad (cx_R, X) 0)), none, some (.int (0 : Int32)), some (.int (a.2 + 1)), none, none] dX10_isFitting_316 rfl rfl rfl rfl) ?_
      refine ax_j (ax_goto hV dX10_isFitting_319) ?_
      exact ax_jl (fun h => hI ((0 : Int32), (a.2 + 1)) h)
    · refine ax_j (ax_aload_n hV dX10_isFitting_295 rfl) ?_
      refine ax_j (ax_gfr hV lf_X10_53 dX10_isFitting_296 rfl rfl) ?_
      refine ax_j (ax_iload_n hV dX10_isFitting_299 rfl) ?_
      refine ax_jb (ax_iald hV dX10_isFitting_300) (fun v300 => ?_)
      refine ax_j (ax_aload_n hV dX10_isFitting_301 rfl) ?_
      refine ax_j (ax_gfr hV lf_X10_56 dX10_isFitting_302 rfl rfl) ?_
      refine ax_j (ax_iload_n hV dX10_isFitting_305 rfl) ?_
      refine ax_jb (ax_iald hV dX10_isFitting_306) (fun v306 => ?_)
      refine ax_jif (ax_icmp_gt hV dX10_isFitting_307) ?_ ?_
      · refine ax_j (ax_iconst hV (0 : Int32) dX10_isFitting_314 (by decide)) ?_
        refine ax_j (ax_istore_n hV [some (.ref (ax_ad (cx_R, X) 0)), none, some (.int (0 : Int32)), some (.int a.2), none, none] dX10_isFitting_315 rfl rfl) ?_
        refine ax_j (ax_iinc hV (a.2 + 1) [some (.ref (ax_ad (cx_R, X) 0)), none, some (.int (0 : Int32)), some (.int (a.2 + 1)), none, none] dX10_isFitting_316 rfl rfl rfl rfl) ?_
        refine ax_j (ax_goto hV dX10_isFitting_319) ?_
        exact ax_jl (fun h => hI ((0 : Int32), (a.2 + 1)) h)
      · refine ax_j (ax_iconst hV (1 : Int32) dX10_isFitting_310 (by decide)) ?_
        refine ax_j (ax_goto hV dX10_isFitting_311) ?_
        refine ax_j (ax_istore_n hV [some (.ref (ax_ad (cx_R, X) 0)), none, some (.int (1 : Int32)), some (.int a.2), none, none] dX10_isFitting_315 rfl rfl) ?_
        refine ax_j (ax_iinc hV (a.2 + 1) [some (.ref (ax_ad (cx_R, X) 0)), none, some (.int (1 : Int32)), some (.int (a.2 + 1)), none, none] dX10_isFitting_316 rfl rfl rfl rfl) ?_
        refine ax_j (ax_goto hV dX10_isFitting_319) ?_
        exact ax_jl (fun h => hI ((1 : Int32), (a.2 + 1)) h)
theorem T_X10_isFitting (p1 : Int32) (s : ax_S) (r : Int32 × ax_S) (h : f_X10_isFitting p1 s = some r) : ax_M cx_R mu_X10_isFitting (fun ad => [.ref (ad 0), .int p1]) s (some (.int r.1)) r.2 := by
  refine ax_enter (by decide +kernel) 4 (fun ad => [some (.ref (ad 0)), some (.int p1), none, none, none, none]) (fun ad => rfl) (fun ad => Nat.le_of_ble_eq_true rfl) (fun X hV ho => ?_)
  refine ax_go (fun r : Int32 × ax_S => (some (Value.int r.1), r.2)) (fun P hP => ?_) h ho
  unfold f_X10_isFitting
  refine ax_j (ax_iconst hV (0 : Int32) dX10_isFitting_0 (by decide)) ?_
  refine ax_j (ax_istore_n hV [some (.ref (ax_ad (cx_R, X) 0)), some (.int p1), some (.int (0 : Int32)), none, none, none] dX10_isFitting_1 rfl rfl) ?_
  refine ax_jlr (0 : Int32) (fun x2 : Int32 => [some (.ref (ax_ad (cx_R, X) 0)), some (.int p1), some (.int x2), none, none, none]) (fun x2 : Int32 => s) (fun y2 : Unit => [some (.ref (ax_ad (cx_R, X) 0)), some (.int p1), none, none, none, none]) (fun y2 : Unit => s) (fun P' h1 h2 h3 w => B_X10_isFitting_2 X hV p1 s P' h1 h2 (fun r h => hP r (h3 r h)) w) (fun e2 => ?_)
  refine ax_j (ax_iconst hV (0 : Int32) dX10_isFitting_39 (by decide)) ?_
  refine ax_j (ax_istore_n hV [some (.ref (ax_ad (cx_R, X) 0)), some (.int p1), some (.int (0 : Int32)), none, none, none] dX10_isFitting_40 rfl rfl) ?_
  refine ax_jlp ((0 : Int32), s) (fun x41 : Int32 × ax_S => [some (.ref (ax_ad (cx_R, X) 0)), some (.int p1), some (.int x41.1), none, none, none]) (fun x41 : Int32 × ax_S => x41.2) (fun y41 : ax_S => [some (.ref (ax_ad (cx_R, X) 0)), some (.int p1), none, none, none, none]) (fun y41 : ax_S => y41) (fun P' h1 h2 w => B_X10_isFitting_41 X hV p1 P' h1 h2 w) (fun e41 => ?_)
  refine ax_j (ax_iconst hV (1 : Int32) dX10_isFitting_79 (by decide)) ?_
  refine ax_j (ax_istore_n hV [some (.ref (ax_ad (cx_R, X) 0)), some (.int p1), some (.int (1 : Int32)), none, none, none] dX10_isFitting_80 rfl rfl) ?_
  refine ax_j (ax_iconst hV (0 : Int32) dX10_isFitting_81 (by decide)) ?_
  refine ax_j (ax_istore_n hV [some (.ref (ax_ad (cx_R, X) 0)), some (.int p1), some (.int (1 : Int32)), some (.int (0 : Int32)), none, none] dX10_isFitting_82 rfl rfl) ?_
  refine ax_jlp ((1 : Int32), (0 : Int32), e41) (fun x83 : Int32 × Int32 × ax_S => [some (.ref (ax_ad (cx_R, X) 0)), some (.int p1), some (.int x83.1), some (.int x83.2.1), none, none]) (fun x83 : Int32 × Int32 × ax_S => x83.2.2) (fun y83 : Int32 × ax_S => [some (.ref (ax_ad (cx_R, X) 0)), none, some (.int y83.1), none, none, none]) (fun y83 : Int32 × ax_S => y83.2) (fun P' h1 h2 w => B_X10_isFitting_83 X hV p1 P' h1 h2 w) (fun e83 => ?_)
  refine ax_j (ax_iconst hV (0 : Int32) dX10_isFitting_281 (by decide)) ?_
  refine ax_j (ax_istore_n hV [some (.ref (ax_ad (cx_R, X) 0)), none, some (.int e83.1), some (.int (0 : Int32)), none, none] dX10_isFitting_282 rfl rfl) ?_
  refine ax_jlp (e83.1, (0 : Int32)) (fun x283 : Int32 × Int32 => [some (.ref (ax_ad (cx_R, X) 0)), none, some (.int x283.1), some (.int x283.2), none, none]) (fun x283 : Int32 × Int32 => e83.2) (fun y283 : Int32 => [none, none, some (.int y283), none, none, none]) (fun y283 : Int32 => e83.2) (fun P' h1 h2 w => B_X10_isFitting_283 X hV e83.2 P' h1 h2 w) (fun e283 => ?_)
  refine ax_j (ax_iload_n hV dX10_isFitting_322 rfl) ?_
  exact ax_jz (fun v hz h => ax_zr2 hV rfl dX10_isFitting_323 v hz (hP (v, e83.2) h))
theorem lk_X10_205 : ax_lkV RX10 205 mu_X10_isFitting RX10 1 := ax_lkV_of (ax_m5 226 rfl rfl) (ax_m5 228 rfl rfl) (ax_mp4 10 rfl rfl rfl) (ax_m1 10 rfl rfl) lc_X10_isFitting rfl ⟨by decide +kernel, by decide +kernel, by decide +kernel⟩
def mu_X10_fits : ax_Mu := (yX10_fits, cX10_fits, 2, some .int, 3, 68)
theorem lc_X10_fits : Cond.code mu_X10_fits.1 mu_X10_fits.2.1 mu_X10_fits.2.2.1 mu_X10_fits.2.2.2.1 ∈ ax_tb := (ax_m5 225 rfl rfl)
noncomputable def f_X10_fits (p1 : Int32) (s : ax_S) : Option (Int32 × ax_S) := (f_X10_isSheet p1).bind (fun q1 => (if q1 = 0 then some (((-2 : Int32), s)) else (ax_ab cx_R s 22 p1).bind (fun v15 => (if v15 = 0 then (f_X10_meets (1 : Int32) s).bind (fun q21 => some ((q21.1, q21.2))) else (ax_ai cx_R s 24 p1).bind (fun v30 => (if (s.1 0 1) ≤ v30 then (f_X10_isFitting p1 s).bind (fun q46 => (if q46.1 = 0 then some (((0 : Int32), q46.2)) else some (((1 : Int32), q46.2)))) else (f_X10_meets (2 : Int32) s).bind (fun q40 => some ((q40.1, q40.2)))))))))
theorem T_X10_fits (p1 : Int32) (s : ax_S) (r : Int32 × ax_S) (h : f_X10_fits p1 s = some r) : ax_M cx_R mu_X10_fits (fun ad => [.ref (ad 0), .int p1]) s (some (.int r.1)) r.2 := by
  refine ax_enter (by decide +kernel) 0 (fun ad => [some (.ref (ad 0)), some (.int p1)]) (fun ad => rfl) (fun ad => Nat.le_of_ble_eq_true rfl) (fun X hV ho => ?_)
  refine ax_go (fun r : Int32 × ax_S => (some (Value.int r.1), r.2)) (fun P hP => ?_) h ho
  unfold f_X10_fits
  refine ax_j (ax_iload_n hV dX10_fits_0 rfl) ?_
  refine ax_jb (fun v ho => ax_cSi hV lk_X10_140 rfl dX10_fits_1 [.int p1] [] (fun ad => [.int p1]) rfl rfl rfl rfl v s (T_X10_isSheet p1 s v ho)) (fun q1 => ?_)
  refine ax_jif (ax_if_ne hV dX10_fits_4) ?_ ?_
  · refine ax_j (ax_bipush hV (-2 : Int32) dX10_fits_7 (by decide)) ?_
    exact ax_jl (fun h => ax_ir hV rfl dX10_fits_9 (hP ((-2 : Int32), s) h))
  · refine ax_j (ax_aload_n hV dX10_fits_10 rfl) ?_
    refine ax_j (ax_gfr hV lf_X10_78 dX10_fits_11 rfl rfl) ?_
    refine ax_j (ax_iload_n hV dX10_fits_14 rfl) ?_
    refine ax_jb (ax_bald hV dX10_fits_15) (fun v15 => ?_)
    refine ax_jif (ax_if_ne hV dX10_fits_16) ?_ ?_
    · refine ax_j (ax_aload_n hV dX10_fits_19 rfl) ?_
      refine ax_j (ax_iconst hV (1 : Int32) dX10_fits_20 (by decide)) ?_
      refine ax_jb (fun v ho => ax_cVi hV lk_X10_143 rfl dX10_fits_21 rfl rfl [.int (1 : Int32)] [] (fun ad => [.ref (ad 0), .int (1 : Int32)]) rfl rfl rfl rfl v.1 v.2 (T_X10_meets (1 : Int32) s v ho)) (fun q21 => ?_)
      exact ax_jl (fun h => ax_ir hV rfl dX10_fits_24 (hP (q21.1, q21.2) h))
    · refine ax_j (ax_aload_n hV dX10_fits_25 rfl) ?_
      refine ax_j (ax_gfr hV lf_X10_85 dX10_fits_26 rfl rfl) ?_
      refine ax_j (ax_iload_n hV dX10_fits_29 rfl) ?_
      refine ax_jb (ax_iald hV dX10_fits_30) (fun v30 => ?_)
      refine ax_j (ax_aload_n hV dX10_fits_31 rfl) ?_
      refine ax_j (ax_gfi hV lf_X10_94 dX10_fits_32 rfl rfl) ?_
      refine ax_jif (ax_icmp_ge hV dX10_fits_35) ?_ ?_
      · refine ax_j (ax_aload_n hV dX10_fits_44 rfl) ?_
        refine ax_j (ax_iload_n hV dX10_fits_45 rfl) ?_
        refine ax_jb (fun v ho => ax_cVi hV lk_X10_205 rfl dX10_fits_46 rfl rfl [.int p1] [] (fun ad => [.ref (ad 0), .int p1]) rfl rfl rfl rfl v.1 v.2 (T_X10_isFitting p1 s v ho)) (fun q46 => ?_)
        refine ax_jif (ax_if_eq hV dX10_fits_49) ?_ ?_
        · refine ax_j (ax_iconst hV (0 : Int32) dX10_fits_56 (by decide)) ?_
          exact ax_jl (fun h => ax_ir hV rfl dX10_fits_57 (hP ((0 : Int32), q46.2) h))
        · refine ax_j (ax_iconst hV (1 : Int32) dX10_fits_52 (by decide)) ?_
          refine ax_j (ax_goto hV dX10_fits_53) ?_
          exact ax_jl (fun h => ax_ir hV rfl dX10_fits_57 (hP ((1 : Int32), q46.2) h))
      · refine ax_j (ax_aload_n hV dX10_fits_38 rfl) ?_
        refine ax_j (ax_iconst hV (2 : Int32) dX10_fits_39 (by decide)) ?_
        refine ax_jb (fun v ho => ax_cVi hV lk_X10_143 rfl dX10_fits_40 rfl rfl [.int (2 : Int32)] [] (fun ad => [.ref (ad 0), .int (2 : Int32)]) rfl rfl rfl rfl v.1 v.2 (T_X10_meets (2 : Int32) s v ho)) (fun q40 => ?_)
        exact ax_jl (fun h => ax_ir hV rfl dX10_fits_43 (hP (q40.1, q40.2) h))
def mu_X10_room : ax_Mu := (yX10_room, cX10_room, 3, some .int, 3, 68)
theorem lc_X10_room : Cond.code mu_X10_room.1 mu_X10_room.2.1 mu_X10_room.2.2.1 mu_X10_room.2.2.2.1 ∈ ax_tb := (ax_m5 233 rfl rfl)
noncomputable def f_X10_room (p1 : Int32) (p2 : Int32) (s : ax_S) : Option (Int32 × ax_S) := (f_X10_isSheet p1).bind (fun q1 => (if q1 = 0 then some (((-2 : Int32), s)) else (f_X10_isBook p2 s).bind (fun q9 => (if q9 = 0 then some (((-2 : Int32), s)) else (ax_ab cx_R s 22 p1).bind (fun v23 => (if v23 = 0 then (f_X10_meets (1 : Int32) s).bind (fun q29 => some ((q29.1, q29.2))) else (ax_ai cx_R s 24 p1).bind (fun v38 => (if (s.1 0 1) ≤ v38 then (f_X10_isFitting p1 s).bind (fun q54 => (if q54.1 = 0 then some (((-3 : Int32), q54.2)) else (ax_ai cx_R q54.2 15 p2).bind (fun v65 => (ax_ai cx_R q54.2 14 p2).bind (fun v71 => some ((((v65 - v71) + (1 : Int32)), q54.2)))))) else (f_X10_meets (2 : Int32) s).bind (fun q48 => some ((q48.1, q48.2)))))))))))
theorem T_X10_room (p1 : Int32) (p2 : Int32) (s : ax_S) (r : Int32 × ax_S) (h : f_X10_room p1 p2 s = some r) : ax_M cx_R mu_X10_room (fun ad => [.ref (ad 0), .int p1, .int p2]) s (some (.int r.1)) r.2 := by
  refine ax_enter (by decide +kernel) 0 (fun ad => [some (.ref (ad 0)), some (.int p1), some (.int p2)]) (fun ad => rfl) (fun ad => Nat.le_of_ble_eq_true rfl) (fun X hV ho => ?_)
  refine ax_go (fun r : Int32 × ax_S => (some (Value.int r.1), r.2)) (fun P hP => ?_) h ho
  unfold f_X10_room
  refine ax_j (ax_iload_n hV dX10_room_0 rfl) ?_
  refine ax_jb (fun v ho => ax_cSi hV lk_X10_140 rfl dX10_room_1 [.int p1] [] (fun ad => [.int p1]) rfl rfl rfl rfl v s (T_X10_isSheet p1 s v ho)) (fun q1 => ?_)
  refine ax_jif (ax_if_eq hV dX10_room_4) ?_ ?_
  · refine ax_j (ax_bipush hV (-2 : Int32) dX10_room_15 (by decide)) ?_
    exact ax_jl (fun h => ax_ir hV rfl dX10_room_17 (hP ((-2 : Int32), s) h))
  · refine ax_j (ax_aload_n hV dX10_room_7 rfl) ?_
    refine ax_j (ax_iload_n hV dX10_room_8 rfl) ?_
    refine ax_jb (fun v ho => ax_cVi hV lk_X10_118 rfl dX10_room_9 rfl rfl [.int p2] [] (fun ad => [.ref (ad 0), .int p2]) rfl rfl rfl rfl v s (T_X10_isBook p2 s v ho)) (fun q9 => ?_)
    refine ax_jif (ax_if_ne hV dX10_room_12) ?_ ?_
    · refine ax_j (ax_bipush hV (-2 : Int32) dX10_room_15 (by decide)) ?_
      exact ax_jl (fun h => ax_ir hV rfl dX10_room_17 (hP ((-2 : Int32), s) h))
    · refine ax_j (ax_aload_n hV dX10_room_18 rfl) ?_
      refine ax_j (ax_gfr hV lf_X10_78 dX10_room_19 rfl rfl) ?_
      refine ax_j (ax_iload_n hV dX10_room_22 rfl) ?_
      refine ax_jb (ax_bald hV dX10_room_23) (fun v23 => ?_)
      refine ax_jif (ax_if_ne hV dX10_room_24) ?_ ?_
      · refine ax_j (ax_aload_n hV dX10_room_27 rfl) ?_
        refine ax_j (ax_iconst hV (1 : Int32) dX10_room_28 (by decide)) ?_
        refine ax_jb (fun v ho => ax_cVi hV lk_X10_143 rfl dX10_room_29 rfl rfl [.int (1 : Int32)] [] (fun ad => [.ref (ad 0), .int (1 : Int32)]) rfl rfl rfl rfl v.1 v.2 (T_X10_meets (1 : Int32) s v ho)) (fun q29 => ?_)
        exact ax_jl (fun h => ax_ir hV rfl dX10_room_32 (hP (q29.1, q29.2) h))
      · refine ax_j (ax_aload_n hV dX10_room_33 rfl) ?_
        refine ax_j (ax_gfr hV lf_X10_85 dX10_room_34 rfl rfl) ?_
        refine ax_j (ax_iload_n hV dX10_room_37 rfl) ?_
        refine ax_jb (ax_iald hV dX10_room_38) (fun v38 => ?_)
        refine ax_j (ax_aload_n hV dX10_room_39 rfl) ?_
        refine ax_j (ax_gfi hV lf_X10_94 dX10_room_40 rfl rfl) ?_
        refine ax_jif (ax_icmp_ge hV dX10_room_43) ?_ ?_
        · refine ax_j (ax_aload_n hV dX10_room_52 rfl) ?_
          refine ax_j (ax_iload_n hV dX10_room_53 rfl) ?_
          refine ax_jb (fun v ho => ax_cVi hV lk_X10_205 rfl dX10_room_54 rfl rfl [.int p1] [] (fun ad => [.ref (ad 0), .int p1]) rfl rfl rfl rfl v.1 v.2 (T_X10_isFitting p1 s v ho)) (fun q54 => ?_)
          refine ax_jif (ax_if_eq hV dX10_room_57) ?_ ?_
          · refine ax_j (ax_bipush hV (-3 : Int32) dX10_room_78 (by decide)) ?_
            exact ax_jl (fun h => ax_ir hV rfl dX10_room_80 (hP ((-3 : Int32), q54.2) h))
          · refine ax_j (ax_aload_n hV dX10_room_60 rfl) ?_
            refine ax_j (ax_gfr hV lf_X10_56 dX10_room_61 rfl rfl) ?_
            refine ax_j (ax_iload_n hV dX10_room_64 rfl) ?_
            refine ax_jb (ax_iald hV dX10_room_65) (fun v65 => ?_)
            refine ax_j (ax_aload_n hV dX10_room_66 rfl) ?_
            refine ax_j (ax_gfr hV lf_X10_53 dX10_room_67 rfl rfl) ?_
            refine ax_j (ax_iload_n hV dX10_room_70 rfl) ?_
            refine ax_jb (ax_iald hV dX10_room_71) (fun v71 => ?_)
            refine ax_j (ax_isub hV dX10_room_72) ?_
            refine ax_j (ax_iconst hV (1 : Int32) dX10_room_73 (by decide)) ?_
            refine ax_j (ax_iadd hV dX10_room_74) ?_
            refine ax_j (ax_goto hV dX10_room_75) ?_
            exact ax_jl (fun h => ax_ir hV rfl dX10_room_80 (hP (((v65 - v71) + (1 : Int32)), q54.2) h))
        · refine ax_j (ax_aload_n hV dX10_room_46 rfl) ?_
          refine ax_j (ax_iconst hV (2 : Int32) dX10_room_47 (by decide)) ?_
          refine ax_jb (fun v ho => ax_cVi hV lk_X10_143 rfl dX10_room_48 rfl rfl [.int (2 : Int32)] [] (fun ad => [.ref (ad 0), .int (2 : Int32)]) rfl rfl rfl rfl v.1 v.2 (T_X10_meets (2 : Int32) s v ho)) (fun q48 => ?_)
          exact ax_jl (fun h => ax_ir hV rfl dX10_room_51 (hP (q48.1, q48.2) h))
def mu_X10_latest : ax_Mu := (yX10_latest, cX10_latest, 5, some .int, 2, 43)
theorem lc_X10_latest : Cond.code mu_X10_latest.1 mu_X10_latest.2.1 mu_X10_latest.2.2.1 mu_X10_latest.2.2.2.1 ∈ ax_tb := (ax_m6 1 rfl rfl)
noncomputable def b_X10_latest_5 (l1 : Int32) (l2 : Int32) (s : ax_S) (a : Int32 × Int32) : Option ((Int32 × Int32) ⊕ (Int32)) := (if (s.1 0 6) ≤ a.2 then some (.inr a.1) else (f_X10_isKnown a.2 s).bind (fun q17 => (if q17 = 0 then some (.inl (a.1, (a.2 + 1))) else (ax_ai cx_R s 4 a.2).bind (fun v29 => (if v29 = l1 then (ax_ai cx_R s 5 a.2).bind (fun v40 => (if v40 = l2 then (ax_ai cx_R s 6 a.2).bind (fun v51 => (if v51 = (-1 : Int32) then some (.inl (a.2, (a.2 + 1))) else some (.inl (a.1, (a.2 + 1))))) else some (.inl (a.1, (a.2 + 1))))) else some (.inl (a.1, (a.2 + 1))))))))
noncomputable def f_X10_latest (p1 : Int32) (p2 : Int32) (s : ax_S) : Option (Int32) := (ax_lp (b_X10_latest_5 p1 p2 s) ((-1 : Int32), (0 : Int32))).bind (fun e5 => some (e5))
theorem B_X10_latest_5 (X : ax_G × ax_K × Option Value × ax_S) (hV : ax_ok (cx_R, X) mu_X10_latest) (l1 : Int32) (l2 : Int32) (s : ax_S) (P : ((Int32 × Int32) ⊕ (Int32)) → Prop) (hI : ∀ a : Int32 × Int32, P (.inl a) → ax_At (cx_R, X) 5 [some (.ref (ax_ad (cx_R, X) 0)), some (.int l1), some (.int l2), some (.int a.1), some (.int a.2)] [] s) (hO : ∀ e : Int32, P (.inr e) → ax_At (cx_R, X) 69 [none, none, none, some (.int e), none] [] s) (a : Int32 × Int32) : ax_J (cx_R, X) P 5 [some (.ref (ax_ad (cx_R, X) 0)), some (.int l1), some (.int l2), some (.int a.1), some (.int a.2)] [] s (b_X10_latest_5 l1 l2 s a) := by
  unfold b_X10_latest_5
  refine ax_j (ax_iload hV dX10_latest_5 rfl) ?_
  refine ax_j (ax_aload_n hV dX10_latest_7 rfl) ?_
  refine ax_j (ax_gfi hV lf_X10_111 dX10_latest_8 rfl rfl) ?_
  refine ax_jif (ax_icmp_ge hV dX10_latest_11) ?_ ?_
  · refine ax_jf (lv' := [none, none, none, some (.int a.1), none]) [false, false, false, true, false] rfl ?_
    exact ax_jl (fun h => hO a.1 h)
  · refine ax_j (ax_aload_n hV dX10_latest_14 rfl) ?_
    refine ax_j (ax_iload hV dX10_latest_15 rfl) ?_
    refine ax_jb (fun v ho => ax_cVi hV lk_X10_147 rfl dX10_latest_17 rfl rfl [.int a.2] [] (fun ad => [.ref (ad 0), .int a.2]) rfl rfl rfl rfl v s (T_X10_isKnown a.2 s v ho)) (fun q17 => ?_)
    refine ax_jif (ax_if_eq hV dX10_latest_20) ?_ ?_
    · refine ax_j (ax_iload_n hV dX10_latest_61 rfl) ?_
      refine ax_j (ax_istore_n hV [some (.ref (ax_ad (cx_R, X) 0)), some (.int l1), some (.int l2), some (.int a.1), some (.int a.2)] dX10_latest_62 rfl rfl) ?_
      refine ax_j (ax_iinc hV (a.2 + 1) [some (.ref (ax_ad (cx_R, X) 0)), some (.int l1), some (.int l2), some (.int a.1), some (.int (a.2 + 1))] dX10_latest_63 rfl rfl rfl rfl) ?_
      refine ax_j (ax_goto hV dX10_latest_66) ?_
      exact ax_jl (fun h => hI (a.1, (a.2 + 1)) h)
    · refine ax_j (ax_aload_n hV dX10_latest_23 rfl) ?_
      refine ax_j (ax_gfr hV lf_X10_19 dX10_latest_24 rfl rfl) ?_
      refine ax_j (ax_iload hV dX10_latest_27 rfl) ?_
      refine ax_jb (ax_iald hV dX10_latest_29) (fun v29 => ?_)
      refine ax_j (ax_iload_n hV dX10_latest_30 rfl) ?_
      refine ax_jif (ax_icmp_ne hV dX10_latest_31) ?_ ?_
      · refine ax_j (ax_aload_n hV dX10_latest_34 rfl) ?_
        refine ax_j (ax_gfr hV lf_X10_22 dX10_latest_35 rfl rfl) ?_
        refine ax_j (ax_iload hV dX10_latest_38 rfl) ?_
        refine ax_jb (ax_iald hV dX10_latest_40) (fun v40 => ?_)
        refine ax_j (ax_iload_n hV dX10_latest_41 rfl) ?_
        refine ax_jif (ax_icmp_ne hV dX10_latest_42) ?_ ?_
        · refine ax_j (ax_aload_n hV dX10_latest_45 rfl) ?_
          refine ax_j (ax_gfr hV lf_X10_25 dX10_latest_46 rfl rfl) ?_
          refine ax_j (ax_iload hV dX10_latest_49 rfl) ?_
          refine ax_jb (ax_iald hV dX10_latest_51) (fun v51 => ?_)
          refine ax_j (ax_iconst hV (-1 : Int32) dX10_latest_52 (by decide)) ?_
          refine ax_jif (ax_icmp_ne hV dX10_latest_53) ?_ ?_
          · refine ax_j (ax_iload hV dX10_latest_56 rfl) ?_
            refine ax_j (ax_goto hV dX10_latest_58) ?_
            refine ax_j (ax_istore_n hV [some (.ref (ax_ad (cx_R, X) 0)), some (.int l1), some (.int l2), some (.int a.2), some (.int a.2)] dX10_latest_62 rfl rfl) ?_
            refine ax_j (ax_iinc hV (a.2 + 1) [some (.ref (ax_ad (cx_R, X) 0)), some (.int l1), some (.int l2), some (.int a.2), some (.int (a.2 + 1))] dX10_latest_63 rfl rfl rfl rfl) ?_
            refine ax_j (ax_goto hV dX10_latest_66) ?_
            exact ax_jl (fun h => hI (a.2, (a.2 + 1)) h)
          · refine ax_j (ax_iload_n hV dX10_latest_61 rfl) ?_
            refine ax_j (ax_istore_n hV [some (.ref (ax_ad (cx_R, X) 0)), some (.int l1), some (.int l2), some (.int a.1), some (.int a.2)] dX10_latest_62 rfl rfl) ?_
            refine ax_j (ax_iinc hV (a.2 + 1) [some (.ref (ax_ad (cx_R, X) 0)), some (.int l1), some (.int l2), some (.int a.1), some (.int (a.2 + 1))] dX10_latest_63 rfl rfl rfl rfl) ?_
            refine ax_j (ax_goto hV dX10_latest_66) ?_
            exact ax_jl (fun h => hI (a.1, (a.2 + 1)) h)
        · refine ax_j (ax_iload_n hV dX10_latest_61 rfl) ?_
          refine ax_j (ax_istore_n hV [some (.ref (ax_ad (cx_R, X) 0)), some (.int l1), some (.int l2), some (.int a.1), some (.int a.2)] dX10_latest_62 rfl rfl) ?_
          refine ax_j (ax_iinc hV (a.2 + 1) [some (.ref (ax_ad (cx_R, X) 0)), some (.int l1), some (.int l2), some (.int a.1), some (.int (a.2 + 1))] dX10_latest_63 rfl rfl rfl rfl) ?_
          refine ax_j (ax_goto hV dX10_latest_66) ?_
          exact ax_jl (fun h => hI (a.1, (a.2 + 1)) h)
      · refine ax_j (ax_iload_n hV dX10_latest_61 rfl) ?_
        refine ax_j (ax_istore_n hV [some (.ref (ax_ad (cx_R, X) 0)), some (.int l1), some (.int l2), some (.int a.1), some (.int a.2)] dX10_latest_62 rfl rfl) ?_
        refine ax_j (ax_iinc hV (a.2 + 1) [some (.ref (ax_ad (cx_R, X) 0)), some (.int l1), some (.int l2), some (.int a.1), some (.int (a.2 + 1))] dX10_latest_63 rfl rfl rfl rfl) ?_
        refine ax_j (ax_goto hV dX10_latest_66) ?_
        exact ax_jl (fun h => hI (a.1, (a.2 + 1)) h)
theorem T_X10_latest (p1 : Int32) (p2 : Int32) (s : ax_S) (r : Int32) (h : f_X10_latest p1 p2 s = some r) : ax_M cx_R mu_X10_latest (fun ad => [.ref (ad 0), .int p1, .int p2]) s (some (.int r)) s := by
  refine ax_enter (by decide +kernel) 2 (fun ad => [some (.ref (ad 0)), some (.int p1), some (.int p2), none, none]) (fun ad => rfl) (fun ad => Nat.le_of_ble_eq_true rfl) (fun X hV ho => ?_)
  refine ax_go (fun r : Int32 => (some (Value.int r), s)) (fun P hP => ?_) h ho
  unfold f_X10_latest
  refine ax_j (ax_iconst hV (-1 : Int32) dX10_latest_0 (by decide)) ?_
  refine ax_j (ax_istore_n hV [some (.ref (ax_ad (cx_R, X) 0)), some (.int p1), some (.int p2), some (.int (-1 : Int32)), none] dX10_latest_1 rfl rfl) ?_
  refine ax_j (ax_iconst hV (0 : Int32) dX10_latest_2 (by decide)) ?_
  refine ax_j (ax_istore hV [some (.ref (ax_ad (cx_R, X) 0)), some (.int p1), some (.int p2), some (.int (-1 : Int32)), some (.int (0 : Int32))] dX10_latest_3 rfl rfl) ?_
  refine ax_jlp ((-1 : Int32), (0 : Int32)) (fun x5 : Int32 × Int32 => [some (.ref (ax_ad (cx_R, X) 0)), some (.int p1), some (.int p2), some (.int x5.1), some (.int x5.2)]) (fun x5 : Int32 × Int32 => s) (fun y5 : Int32 => [none, none, none, some (.int y5), none]) (fun y5 : Int32 => s) (fun P' h1 h2 w => B_X10_latest_5 X hV p1 p2 s P' h1 h2 w) (fun e5 => ?_)
  refine ax_j (ax_iload_n hV dX10_latest_69 rfl) ?_
  exact ax_jl (fun h => ax_ir hV rfl dX10_latest_70 (hP e5 h))
theorem lk_X10_208 : ax_lkV RX10 208 mu_X10_latest RX10 2 := ax_lkV_of (ax_m5 238 rfl rfl) (ax_m6 0 rfl rfl) (ax_mp4 11 rfl rfl rfl) (ax_m1 10 rfl rfl) lc_X10_latest rfl ⟨by decide +kernel, by decide +kernel, by decide +kernel⟩
def mu_X10_kin : ax_Mu := (yX10_kin, cX10_kin, 10, some .int, 3, 67)
theorem lc_X10_kin : Cond.code mu_X10_kin.1 mu_X10_kin.2.1 mu_X10_kin.2.2.1 mu_X10_kin.2.2.2.1 ∈ ax_tb := (ax_m5 237 rfl rfl)
noncomputable def b_X10_kin_39 (l1 : Int32) (l2 : Int32) (l3 : Int32) (a : Int32 × Int32 × ax_S) : Option ((Int32 × Int32 × ax_S) ⊕ (Int32 × ax_S)) := (if (a.2.2.1 0 1) ≤ a.2.1 then some (.inr (a.1, a.2.2)) else (f_X10_latest l1 a.2.1 a.2.2).bind (fun q52 => (f_X10_latest l2 a.2.1 a.2.2).bind (fun q61 => (if q52 = (-1 : Int32) then some (.inl (a.1, (a.2.1 + 1), a.2.2)) else (if q61 = (-1 : Int32) then some (.inl (a.1, (a.2.1 + 1), a.2.2)) else (ax_ai cx_R a.2.2 7 q52).bind (fun v84 => (ax_ai cx_R a.2.2 8 q52).bind (fun v91 => (if v84 = v91 then (ax_ai cx_R a.2.2 7 q61).bind (fun v101 => (ax_ai cx_R a.2.2 8 q61).bind (fun v108 => (if v101 = v108 then (ax_ai cx_R a.2.2 7 q61).bind (fun v124 => (ax_ai cx_R a.2.2 7 q52).bind (fun v131 => (ax_si cx_R a.2.2 16 a.1 (v124 - v131)).bind (fun s133 => some (.inl ((a.1 + 1), (a.2.1 + 1), s133))))) else some (.inl (a.1, (a.2.1 + 1), a.2.2))))) else some (.inl (a.1, (a.2.1 + 1), a.2.2))))))))))
noncomputable def b_X10_kin_165 (l3 : Int32) (l4 : Int32) (l5 : Int32) (l6 : Int32) (l7 : Int32) (s : ax_S) (a : Int32 × Int32) : Option ((Int32 × Int32) ⊕ (Int32)) := (if l4 ≤ a.2 then some (.inr a.1) else (ax_ai cx_R s 16 a.2).bind (fun v180 => (ax_ai cx_R s 16 l7).bind (fun v187 => (if v180 = v187 then some (.inl ((a.1 + (1 : Int32)), (a.2 + 1))) else some (.inl ((a.1 + (0 : Int32)), (a.2 + 1)))))))
noncomputable def b_X10_kin_152 (l3 : Int32) (l4 : Int32) (s : ax_S) (a : Int32 × Int32 × Int32) : Option ((Int32 × Int32 × Int32) ⊕ (Int32 × Int32)) := (if l4 ≤ a.2.2 then some (.inr (a.1, a.2.1)) else (ax_lp (b_X10_kin_165 l3 l4 a.1 a.2.1 a.2.2 s) ((0 : Int32), (0 : Int32))).bind (fun e165 => (if a.1 < e165 then (ax_ai cx_R s 16 a.2.2).bind (fun v241 => some (.inl (e165, v241, (a.2.2 + 1)))) else (if e165 = a.1 then (ax_ai cx_R s 16 a.2.2).bind (fun v225 => (if a.2.1 ≤ v225 then some (.inl (a.1, a.2.1, (a.2.2 + 1))) else (ax_ai cx_R s 16 a.2.2).bind (fun v241 => some (.inl (e165, v241, (a.2.2 + 1)))))) else some (.inl (a.1, a.2.1, (a.2.2 + 1)))))))
noncomputable def f_X10_kin (p1 : Int32) (p2 : Int32) (p3 : Int32) (s : ax_S) : Option (Int32 × ax_S) := (f_X10_isBook p1 s).bind (fun q2 => (if q2 = 0 then some (((-500000 : Int32), s)) else (f_X10_isBook p2 s).bind (fun q10 => (if q10 = 0 then some (((-500000 : Int32), s)) else (if p1 = p2 then some (((-500000 : Int32), s)) else (f_X10_in p3 (0 : Int32) (2 : Int32)).bind (fun q24 => (if q24 = 0 then some (((-500000 : Int32), s)) else (ax_lp (b_X10_kin_39 p1 p2 p3) ((0 : Int32), (0 : Int32), s)).bind (fun e39 => (ax_lp (b_X10_kin_152 p3 e39.1 e39.2) ((0 : Int32), (0 : Int32), (0 : Int32))).bind (fun e152 => (if p3 = 0 then some ((e39.1, e39.2)) else (if p3 = (1 : Int32) then some ((e152.1, e39.2)) else (if e39.1 = 0 then some (((-3 : Int32), e39.2)) else some ((e152.2, e39.2))))))))))))))
theorem B_X10_kin_39 (X : ax_G × ax_K × Option Value × ax_S) (hV : ax_ok (cx_R, X) mu_X10_kin) (l1 : Int32) (l2 : Int32) (l3 : Int32) (P : ((Int32 × Int32 × ax_S) ⊕ (Int32 × ax_S)) → Prop) (hI : ∀ a : Int32 × Int32 × ax_S, P (.inl a) → ax_At (cx_R, X) 39 [some (.ref (ax_ad (cx_R, X) 0)), some (.int l1), some (.int l2), some (.int l3), some (.int a.1), some (.int a.2.1), none, none, none, none] [] a.2.2) (hO : ∀ e : Int32 × ax_S, P (.inr e) → ax_At (cx_R, X) 143 [some (.ref (ax_ad (cx_R, X) 0)), none, none, some (.int l3), some (.int e.1), none, none, none, none, none] [] e.2) (a : Int32 × Int32 × ax_S) : ax_J (cx_R, X) P 39 [some (.ref (ax_ad (cx_R, X) 0)), some (.int l1), some (.int l2), some (.int l3), some (.int a.1), some (.int a.2.1), none, none, none, none] [] a.2.2 (b_X10_kin_39 l1 l2 l3 a) := by
  unfold b_X10_kin_39
  refine ax_j (ax_iload hV dX10_kin_39 rfl) ?_
  refine ax_j (ax_aload_n hV dX10_kin_41 rfl) ?_
  refine ax_j (ax_gfi hV lf_X10_94 dX10_kin_42 rfl rfl) ?_
  refine ax_jif (ax_icmp_ge hV dX10_kin_45) ?_ ?_
  · refine ax_jf (lv' := [some (.ref (ax_ad (cx_R, X) 0)), none, none, some (.int l3), some (.int a.1), none, none, none, none, none]) [true, false, false, true, true, false, false, false, false, false] rfl ?_
    exact ax_jl (fun h => hO (a.1, a.2.2) h)
  · refine ax_j (ax_aload_n hV dX10_kin_48 rfl) ?_
    refine ax_j (ax_iload_n hV dX10_kin_49 rfl) ?_
    refine ax_j (ax_iload hV dX10_kin_50 rfl) ?_
    refine ax_jb (fun v ho => ax_cVi hV lk_X10_208 rfl dX10_kin_52 rfl rfl [.int l1, .int a.2.1] [] (fun ad => [.ref (ad 0), .int l1, .int a.2.1]) rfl rfl rfl rfl v a.2.2 (T_X10_latest l1 a.2.1 a.2.2 v ho)) (fun q52 => ?_)
    refine ax_j (ax_istore hV [some (.ref (ax_ad (cx_R, X) 0)), some (.int l1), some (.int l2), some (.int l3), some (.int a.1), some (.int a.2.1), some (.int q52), none, none, none] dX10_kin_55 rfl rfl) ?_
    refine ax_j (ax_aload_n hV dX10_kin_57 rfl) ?_
    refine ax_j (ax_iload_n hV dX10_kin_58 rfl) ?_
    refine ax_j (ax_iload hV dX10_kin_59 rfl) ?_
    refine ax_jb (fun v ho => ax_cVi hV lk_X10_208 rfl dX10_kin_61 rfl rfl [.int l2, .int a.2.1] [] (fun ad => [.ref (ad 0), .int l2, .int a.2.1]) rfl rfl rfl rfl v a.2.2 (T_X10_latest l2 a.2.1 a.2.2 v ho)) (fun q61 => ?_)
    refine ax_j (ax_istore hV [some (.ref (ax_ad (cx_R, X) 0)), some (.int l1), some (.int l2), some (.int l3), some (.int a.1), some (.int a.2.1), some (.int q52), some (.int q61), none, none] dX10_kin_64 rfl rfl) ?_
    refine ax_j (ax_iload hV dX10_kin_66 rfl) ?_
    refine ax_j (ax_iconst hV (-1 : Int32) dX10_kin_68 (by decide)) ?_
    refine ax_jif (ax_icmp_eq hV dX10_kin_69) ?_ ?_
    · refine ax_j (ax_iinc hV (a.2.1 + 1) [some (.ref (ax_ad (cx_R, X) 0)), some (.int l1), some (.int l2), some (.int l3), some (.int a.1), some (.int (a.2.1 + 1)), some (.int q52), some (.int q61), none, none] dX10_kin_137 rfl rfl rfl rfl) ?_
      refine ax_j (ax_goto hV dX10_kin_140) ?_
      refine ax_jf (lv' := [some (.ref (ax_ad (cx_R, X) 0)), some (.int l1), some (.int l2), some (.int l3), some (.int a.1), some (.int (a.2.1 + 1)), none, none, none, none]) [true, true, true, true, true, true, false, false, false, false] rfl ?_
      exact ax_jl (fun h => hI (a.1, (a.2.1 + 1), a.2.2) h)
    · refine ax_j (ax_iload hV dX10_kin_72 rfl) ?_
      refine ax_j (ax_iconst hV (-1 : Int32) dX10_kin_74 (by decide)) ?_
      refine ax_jif (ax_icmp_eq hV dX10_kin_75) ?_ ?_
      · refine ax_j (ax_iinc hV (a.2.1 + 1) [some (.ref (ax_ad (cx_R, X) 0)), some (.int l1), some (.int l2), some (.int l3), some (.int a.1), some (.int (a.2.1 + 1)), some (.int q52), some (.int q61), none, none] dX10_kin_137 rfl rfl rfl rfl) ?_
        refine ax_j (ax_goto hV dX10_kin_140) ?_
        refine ax_jf (lv' := [some (.ref (ax_ad (cx_R, X) 0)), some (.int l1), some (.int l2), some (.int l3), some (.int a.1), some (.int (a.2.1 + 1)), none, none, none, none]) [true, true, true, true, true, true, false, false, false, false] rfl ?_
        exact ax_jl (fun h => hI (a.1, (a.2.1 + 1), a.2.2) h)
      · refine ax_j (ax_aload_n hV dX10_kin_78 rfl) ?_
        refine ax_j (ax_gfr hV lf_X10_28 dX10_kin_79 rfl rfl) ?_
        refine ax_j (ax_iload hV dX10_kin_82 rfl) ?_
        refine ax_jb (ax_iald hV dX10_kin_84) (fun v84 => ?_)
        refine ax_j (ax_aload_n hV dX10_kin_85 rfl) ?_
        refine ax_j (ax_gfr hV lf_X10_31 dX10_kin_86 rfl rfl) ?_
        refine ax_j (ax_iload hV dX10_kin_89 rfl) ?_
        refine ax_jb (ax_iald hV dX10_kin_91) (fun v91 => ?_)
        refine ax_jif (ax_icmp_ne hV dX10_kin_92) ?_ ?_
        · refine ax_j (ax_aload_n hV dX10_kin_95 rfl) ?_
          refine ax_j (ax_gfr hV lf_X10_28 dX10_kin_96 rfl rfl) ?_
          refine ax_j (ax_iload hV dX10_kin_99 rfl) ?_
          refine ax_jb (ax_iald hV dX10_kin_101) (fun v101 => ?_)
          refine ax_j (ax_aload_n hV dX10_kin_102 rfl) ?_
          refine ax_j (ax_gfr hV lf_X10_31 dX10_kin_103 rfl rfl) ?_
          refine ax_j (ax_iload hV dX10_kin_106 rfl) ?_
          refine ax_jb (ax_iald hV dX10_kin_108) (fun v108 => ?_)
          refine ax_jif (ax_icmp_ne hV dX10_kin_109) ?_ ?_
          · refine ax_j (ax_aload_n hV dX10_kin_112 rfl) ?_
            refine ax_j (ax_gfr hV lf_X10_59 dX10_kin_113 rfl rfl) ?_
            refine ax_j (ax_iload hV dX10_kin_116 rfl) ?_
            refine ax_j (ax_aload_n hV dX10_kin_118 rfl) ?_
            refine ax_j (ax_gfr hV lf_X10_28 dX10_kin_119 rfl rfl) ?_
            refine ax_j (ax_iload hV dX10_kin_122 rfl) ?_
            refine ax_jb (ax_iald hV dX10_kin_124) (fun v124 => ?_)
            refine ax_j (ax_aload_n hV dX10_kin_125 rfl) ?_
            refine ax_j (ax_gfr hV lf_X10_28 dX10_kin_126 rfl rfl) ?_
            refine ax_j (ax_iload hV dX10_kin_129 rfl) ?_
            refine ax_jb (ax_iald hV dX10_kin_131) (fun v131 => ?_)
            refine ax_j (ax_isub hV dX10_kin_132) ?_
            refine ax_jb (ax_iast hV dX10_kin_133) (fun s133 => ?_)
            refine ax_j (ax_iinc hV (a.1 + 1) [some (.ref (ax_ad (cx_R, X) 0)), some (.int l1), some (.int l2), some (.int l3), some (.int (a.1 + 1)), some (.int a.2.1), some (.int q52), some (.int q61), none, none] dX10_kin_134 rfl rfl rfl rfl) ?_
            refine ax_j (ax_iinc hV (a.2.1 + 1) [some (.ref (ax_ad (cx_R, X) 0)), some (.int l1), some (.int l2), some (.int l3), some (.int (a.1 + 1)), some (.int (a.2.1 + 1)), some (.int q52), some (.int q61), none, none] dX10_kin_137 rfl rfl rfl rfl) ?_
            refine ax_j (ax_goto hV dX10_kin_140) ?_
            refine ax_jf (lv' := [some (.ref (ax_ad (cx_R, X) 0)), some (.int l1), some (.int l2), some (.int l3), some (.int (a.1 + 1)), some (.int (a.2.1 + 1)), none, none, none, none]) [true, true, true, true, true, true, false, false, false, false] rfl ?_
            exact ax_jl (fun h => hI ((a.1 + 1), (a.2.1 + 1), s133) h)
          · refine ax_j (ax_iinc hV (a.2.1 + 1) [some (.ref (ax_ad (cx_R, X) 0)), some (.int l1), some (.int l2), some (.int l3), some (.int a.1), some (.int (a.2.1 + 1)), some (.int q52), some (.int q61), none, none] dX10_kin_137 rfl rfl rfl rfl) ?_
            refine ax_j (ax_goto hV dX10_kin_140) ?_
            refine ax_jf (lv' := [some (.ref (ax_ad (cx_R, X) 0)), some (.int l1), some (.int l2), some (.int l3), some (.int a.1), some (.int (a.2.1 + 1)), none, none, none, none]) [true, true, true, true, true, true, false, false, false, false] rfl ?_
            exact ax_jl (fun h => hI (a.1, (a.2.1 + 1), a.2.2) h)
        · refine ax_j (ax_iinc hV (a.2.1 + 1) [some (.ref (ax_ad (cx_R, X) 0)), some (.int l1), some (.int l2), some (.int l3), some (.int a.1), some (.int (a.2.1 + 1)), some (.int q52), some (.int q61), none, none] dX10_kin_137 rfl rfl rfl rfl) ?_
          refine ax_j (ax_goto hV dX10_kin_140) ?_
          refine ax_jf (lv' := [some (.ref (ax_ad (cx_R, X) 0)), some (.int l1), some (.int l2), some (.int l3), some (.int a.1), some (.int (a.2.1 + 1)), none, none, none, none]) [true, true, true, true, true, true, false, false, false, false] rfl ?_
          exact ax_jl (fun h => hI (a.1, (a.2.1 + 1), a.2.2) h)
theorem B_X10_kin_165 (X : ax_G × ax_K × Option Value × ax_S) (hV : ax_ok (cx_R, X) mu_X10_kin) (l3 : Int32) (l4 : Int32) (l5 : Int32) (l6 : Int32) (l7 : Int32) (s : ax_S) (P : ((Int32 × Int32) ⊕ (Int32)) → Prop) (hI : ∀ a : Int32 × Int32, P (.inl a) → ax_At (cx_R, X) 165 [some (.ref (ax_ad (cx_R, X) 0)), none, none, some (.int l3), some (.int l4), some (.int l5), some (.int l6), some (.int l7), some (.int a.1), some (.int a.2)] [] s) (hO : ∀ e : Int32, P (.inr e) → ax_At (cx_R, X) 205 [some (.ref (ax_ad (cx_R, X) 0)), none, none, some (.int l3), some (.int l4), some (.int l5), some (.int l6), some (.int l7), some (.int e), none] [] s) (a : Int32 × Int32) : ax_J (cx_R, X) P 165 [some (.ref (ax_ad (cx_R, X) 0)), none, none, some (.int l3), some (.int l4), some (.int l5), some (.int l6), some (.int l7), some (.int a.1), some (.int a.2)] [] s (b_X10_kin_165 l3 l4 l5 l6 l7 s a) := by
  unfold b_X10_kin_165
  refine ax_j (ax_iload hV dX10_kin_165 rfl) ?_
  refine ax_j (ax_iload hV dX10_kin_167 rfl) ?_
  refine ax_jif (ax_icmp_ge hV dX10_kin_169) ?_ ?_
  · refine ax_jf (lv' := [some (.ref (ax_ad (cx_R, X) 0)), none, none, some (.int l3), some (.int l4), some (.int l5), some (.int l6), some (.int l7), some (.int a.1), none]) [true, false, false, true, true, true, true, true, true, false] rfl ?_
    exact ax_jl (fun h => hO a.1 h)
  · refine ax_j (ax_iload hV dX10_kin_172 rfl) ?_
    refine ax_j (ax_aload_n hV dX10_kin_174 rfl) ?_
    refine ax_j (ax_gfr hV lf_X10_59 dX10_kin_175 rfl rfl) ?_
    refine ax_j (ax_iload hV dX10_kin_178 rfl) ?_
    refine ax_jb (ax_iald hV dX10_kin_180) (fun v180 => ?_)
    refine ax_j (ax_aload_n hV dX10_kin_181 rfl) ?_
    refine ax_j (ax_gfr hV lf_X10_59 dX10_kin_182 rfl rfl) ?_
    refine ax_j (ax_iload hV dX10_kin_185 rfl) ?_
    refine ax_jb (ax_iald hV dX10_kin_187) (fun v187 => ?_)
    refine ax_jif (ax_icmp_ne hV dX10_kin_188) ?_ ?_
    · refine ax_j (ax_iconst hV (1 : Int32) dX10_kin_191 (by decide)) ?_
      refine ax_j (ax_goto hV dX10_kin_192) ?_
      refine ax_j (ax_iadd hV dX10_kin_196) ?_
      refine ax_j (ax_istore hV [some (.ref (ax_ad (cx_R, X) 0)), none, none, some (.int l3), some (.int l4), some (.int l5), some (.int l6), some (.int l7), some (.int (a.1 + (1 : Int32))), some (.int a.2)] dX10_kin_197 rfl rfl) ?_
      refine ax_j (ax_iinc hV (a.2 + 1) [some (.ref (ax_ad (cx_R, X) 0)), none, none, some (.int l3), some (.int l4), some (.int l5), some (.int l6), some (.int l7), some (.int (a.1 + (1 : Int32))), some (.int (a.2 + 1))] dX10_kin_199 rfl rfl rfl rfl) ?_
      refine ax_j (ax_goto hV dX10_kin_202) ?_
      exact ax_jl (fun h => hI ((a.1 + (1 : Int32)), (a.2 + 1)) h)
    · refine ax_j (ax_iconst hV (0 : Int32) dX10_kin_195 (by decide)) ?_
      refine ax_j (ax_iadd hV dX10_kin_196) ?_
      refine ax_j (ax_istore hV [some (.ref (ax_ad (cx_R, X) 0)), none, none, some (.int l3), some (.int l4), some (.int l5), some (.int l6), some (.int l7), some (.int (a.1 + (0 : Int32))), some (.int a.2)] dX10_kin_197 rfl rfl) ?_
      refine ax_j (ax_iinc hV (a.2 + 1) [some (.ref (ax_ad (cx_R, X) 0)), none, none, some (.int l3), some (.int l4), some (.int l5), some (.int l6), some (.int l7), some (.int (a.1 + (0 : Int32))), some (.int (a.2 + 1))] dX10_kin_199 rfl rfl rfl rfl) ?_
      refine ax_j (ax_goto hV dX10_kin_202) ?_
      exact ax_jl (fun h => hI ((a.1 + (0 : Int32)), (a.2 + 1)) h)
theorem B_X10_kin_152 (X : ax_G × ax_K × Option Value × ax_S) (hV : ax_ok (cx_R, X) mu_X10_kin) (l3 : Int32) (l4 : Int32) (s : ax_S) (P : ((Int32 × Int32 × Int32) ⊕ (Int32 × Int32)) → Prop) (hI : ∀ a : Int32 × Int32 × Int32, P (.inl a) → ax_At (cx_R, X) 152 [some (.ref (ax_ad (cx_R, X) 0)), none, none, some (.int l3), some (.int l4), some (.int a.1), some (.int a.2.1), some (.int a.2.2), none, none] [] s) (hO : ∀ e : Int32 × Int32, P (.inr e) → ax_At (cx_R, X) 250 [none, none, none, some (.int l3), some (.int l4), some (.int e.1), some (.int e.2), none, none, none] [] s) (a : Int32 × Int32 × Int32) : ax_J (cx_R, X) P 152 [some (.ref (ax_ad (cx_R, X) 0)), none, none, some (.int l3), some (.int l4), some (.int a.1), some (.int a.2.1), some (.int a.2.2), none, none] [] s (b_X10_kin_152 l3 l4 s a) := by
  unfold b_X10_kin_152
  refine ax_j (ax_iload hV dX10_kin_152 rfl) ?_
  refine ax_j (ax_iload hV dX10_kin_154 rfl) ?_
  refine ax_jif (ax_icmp_ge hV dX10_kin_156) ?_ ?_
  · refine ax_jf (lv' := [none, none, none, some (.int l3), some (.int l4), some (.int a.1), some (.int a.2.1), none, none, none]) [false, false, false, true, true, true, true, false, false, false] rfl ?_
    exact ax_jl (fun h => hO (a.1, a.2.1) h)
  · refine ax_j (ax_iconst hV (0 : Int32) dX10_kin_159 (by decide)) ?_
    refine ax_j (ax_istore hV [some (.ref (ax_ad (cx_R, X) 0)), none, none, some (.int l3), some (.int l4), some (.int a.1), some (.int a.2.1), some (.int a.2.2), some (.int (0 : Int32)), none] dX10_kin_160 rfl rfl) ?_
    refine ax_j (ax_iconst hV (0 : Int32) dX10_kin_162 (by decide)) ?_
    refine ax_j (ax_istore hV [some (.ref (ax_ad (cx_R, X) 0)), none, none, some (.int l3), some (.int l4), some (.int a.1), some (.int a.2.1), some (.int a.2.2), some (.int (0 : Int32)), some (.int (0 : Int32))] dX10_kin_163 rfl rfl) ?_
    refine ax_jlp ((0 : Int32), (0 : Int32)) (fun x165 : Int32 × Int32 => [some (.ref (ax_ad (cx_R, X) 0)), none, none, some (.int l3), some (.int l4), some (.int a.1), some (.int a.2.1), some (.int a.2.2), some (.int x165.1), some (.int x165.2)]) (fun x165 : Int32 × Int32 => s) (fun y165 : Int32 => [some (.ref (ax_ad (cx_R, X) 0)), none, none, some (.int l3), some (.int l4), some (.int a.1), some (.int a.2.1), some (.int a.2.2), some (.int y165), none]) (fun y165 : Int32 => s) (fun P' h1 h2 w => B_X10_kin_165 X hV l3 l4 a.1 a.2.1 a.2.2 s P' h1 h2 w) (fun e165 => ?_)
    refine ax_j (ax_iload hV dX10_kin_205 rfl) ?_
    refine ax_j (ax_iload hV dX10_kin_207 rfl) ?_
    refine ax_jif (ax_icmp_gt hV dX10_kin_209) ?_ ?_
    · refine ax_j (ax_iload hV dX10_kin_231 rfl) ?_
      refine ax_j (ax_istore hV [some (.ref (ax_ad (cx_R, X) 0)), none, none, some (.int l3), some (.int l4), some (.int e165), some (.int a.2.1), some (.int a.2.2), some (.int e165), none] dX10_kin_233 rfl rfl) ?_
      refine ax_j (ax_aload_n hV dX10_kin_235 rfl) ?_
      refine ax_j (ax_gfr hV lf_X10_59 dX10_kin_236 rfl rfl) ?_
      refine ax_j (ax_iload hV dX10_kin_239 rfl) ?_
      refine ax_jb (ax_iald hV dX10_kin_241) (fun v241 => ?_)
      refine ax_j (ax_istore hV [some (.ref (ax_ad (cx_R, X) 0)), none, none, some (.int l3), some (.int l4), some (.int e165), some (.int v241), some (.int a.2.2), some (.int e165), none] dX10_kin_242 rfl rfl) ?_
      refine ax_j (ax_iinc hV (a.2.2 + 1) [some (.ref (ax_ad (cx_R, X) 0)), none, none, some (.int l3), some (.int l4), some (.int e165), some (.int v241), some (.int (a.2.2 + 1)), some (.int e165), none] dX10_kin_244 rfl rfl rfl rfl) ?_
      refine ax_j (ax_goto hV dX10_kin_247) ?_
      refine ax_jf (lv' := [some (.ref (ax_ad (cx_R, X) 0)), none, none, some (.int l3), some (.int l4), some (.int e165), some (.int v241), some (.int (a.2.2 + 1)), none, none]) [true, false, false, true, true, true, true, true, false, false] rfl ?_
      exact ax_jl (fun h => hI (e165, v241, (a.2.2 + 1)) h)
    · refine ax_j (ax_iload hV dX10_kin_212 rfl) ?_
      refine ax_j (ax_iload hV dX10_kin_214 rfl) ?_
      refine ax_jif (ax_icmp_ne hV dX10_kin_216) ?_ ?_
      · refine ax_j (ax_aload_n hV dX10_kin_219 rfl) ?_
        refine ax_j (ax_gfr hV lf_X10_59 dX10_kin_220 rfl rfl) ?_
        refine ax_j (ax_iload hV dX10_kin_223 rfl) ?_
        refine ax_jb (ax_iald hV dX10_kin_225) (fun v225 => ?_)
        refine ax_j (ax_iload hV dX10_kin_226 rfl) ?_
        refine ax_jif (ax_icmp_ge hV dX10_kin_228) ?_ ?_
        · refine ax_j (ax_iinc hV (a.2.2 + 1) [some (.ref (ax_ad (cx_R, X) 0)), none, none, some (.int l3), some (.int l4), some (.int a.1), some (.int a.2.1), some (.int (a.2.2 + 1)), some (.int e165), none] dX10_kin_244 rfl rfl rfl rfl) ?_
          refine ax_j (ax_goto hV dX10_kin_247) ?_
          refine ax_jf (lv' := [some (.ref (ax_ad (cx_R, X) 0)), none, none, some (.int l3), some (.int l4), some (.int a.1), some (.int a.2.1), some (.int (a.2.2 + 1)), none, none]) [true, false, false, true, true, true, true, true, false, false] rfl ?_
          exact ax_jl (fun h => hI (a.1, a.2.1, (a.2.2 + 1)) h)
        · refine ax_j (ax_iload hV dX10_kin_231 rfl) ?_
          refine ax_j (ax_istore hV [some (.ref (ax_ad (cx_R, X) 0)), none, none, some (.int l3), some (.int l4), some (.int e165), some (.int a.2.1), some (.int a.2.2), some (.int e165), none] dX10_kin_233 rfl rfl) ?_
          refine ax_j (ax_aload_n hV dX10_kin_235 rfl) ?_
          refine ax_j (ax_gfr hV lf_X10_59 dX10_kin_236 rfl rfl) ?_
          refine ax_j (ax_iload hV dX10_kin_239 rfl) ?_
          refine ax_jb (ax_iald hV dX10_kin_241) (fun v241 => ?_)
          refine ax_j (ax_istore hV [some (.ref (ax_ad (cx_R, X) 0)), none, none, some (.int l3), some (.int l4), some (.int e165), some (.int v241), some (.int a.2.2), some (.int e165), none] dX10_kin_242 rfl rfl) ?_
          refine ax_j (ax_iinc hV (a.2.2 + 1) [some (.ref (ax_ad (cx_R, X) 0)), none, none, some (.int l3), some (.int l4), some (.int e165), some (.int v241), some (.int (a.2.2 + 1)), some (.int e165), none] dX10_kin_244 rfl rfl rfl rfl) ?_
          refine ax_j (ax_goto hV dX10_kin_247) ?_
          refine ax_jf (lv' := [some (.ref (ax_ad (cx_R, X) 0)), none, none, some (.int l3), some (.int l4), some (.int e165), some (.int v241), some (.int (a.2.2 + 1)), none, none]) [true, false, false, true, true, true, true, true, false, false] rfl ?_
          exact ax_jl (fun h => hI (e165, v241, (a.2.2 + 1)) h)
      · refine ax_j (ax_iinc hV (a.2.2 + 1) [some (.ref (ax_ad (cx_R, X) 0)), none, none, some (.int l3), some (.int l4), some (.int a.1), some (.int a.2.1), some (.int (a.2.2 + 1)), some (.int e165), none] dX10_kin_244 rfl rfl rfl rfl) ?_
        refine ax_j (ax_goto hV dX10_kin_247) ?_
        refine ax_jf (lv' := [some (.ref (ax_ad (cx_R, X) 0)), none, none, some (.int l3), some (.int l4), some (.int a.1), some (.int a.2.1), some (.int (a.2.2 + 1)), none, none]) [true, false, false, true, true, true, true, true, false, false] rfl ?_
        exact ax_jl (fun h => hI (a.1, a.2.1, (a.2.2 + 1)) h)
theorem T_X10_kin (p1 : Int32) (p2 : Int32) (p3 : Int32) (s : ax_S) (r : Int32 × ax_S) (h : f_X10_kin p1 p2 p3 s = some r) : ax_M cx_R mu_X10_kin (fun ad => [.ref (ad 0), .int p1, .int p2, .int p3]) s (some (.int r.1)) r.2 := by
  refine ax_enter (by decide +kernel) 6 (fun ad => [some (.ref (ad 0)), some (.int p1), some (.int p2), some (.int p3), none, none, none, none, none, none]) (fun ad => rfl) (fun ad => Nat.le_of_ble_eq_true rfl) (fun X hV ho => ?_)
  refine ax_go (fun r : Int32 × ax_S => (some (Value.int r.1), r.2)) (fun P hP => ?_) h ho
  unfold f_X10_kin
  refine ax_j (ax_aload_n hV dX10_kin_0 rfl) ?_
  refine ax_j (ax_iload_n hV dX10_kin_1 rfl) ?_
  refine ax_jb (fun v ho => ax_cVi hV lk_X10_118 rfl dX10_kin_2 rfl rfl [.int p1] [] (fun ad => [.ref (ad 0), .int p1]) rfl rfl rfl rfl v s (T_X10_isBook p1 s v ho)) (fun q2 => ?_)
  refine ax_jif (ax_if_eq hV dX10_kin_5) ?_ ?_
  · refine ax_j (ax_ldc hV kc_X10_187 dX10_kin_30) ?_
    exact ax_jl (fun h => ax_ir hV rfl dX10_kin_32 (hP ((-500000 : Int32), s) h))
  · refine ax_j (ax_aload_n hV dX10_kin_8 rfl) ?_
    refine ax_j (ax_iload_n hV dX10_kin_9 rfl) ?_
    refine ax_jb (fun v ho => ax_cVi hV lk_X10_118 rfl dX10_kin_10 rfl rfl [.int p2] [] (fun ad => [.ref (ad 0), .int p2]) rfl rfl rfl rfl v s (T_X10_isBook p2 s v ho)) (fun q10 => ?_)
    refine ax_jif (ax_if_eq hV dX10_kin_13) ?_ ?_
    · refine ax_j (ax_ldc hV kc_X10_187 dX10_kin_30) ?_
      exact ax_jl (fun h => ax_ir hV rfl dX10_kin_32 (hP ((-500000 : Int32), s) h))
    · refine ax_j (ax_iload_n hV dX10_kin_16 rfl) ?_
      refine ax_j (ax_iload_n hV dX10_kin_17 rfl) ?_
      refine ax_jif (ax_icmp_eq hV dX10_kin_18) ?_ ?_
      · refine ax_j (ax_ldc hV kc_X10_187 dX10_kin_30) ?_
        exact ax_jl (fun h => ax_ir hV rfl dX10_kin_32 (hP ((-500000 : Int32), s) h))
      · refine ax_j (ax_iload_n hV dX10_kin_21 rfl) ?_
        refine ax_j (ax_iconst hV (0 : Int32) dX10_kin_22 (by decide)) ?_
        refine ax_j (ax_iconst hV (2 : Int32) dX10_kin_23 (by decide)) ?_
        refine ax_jb (fun v ho => ax_cSi hV lk_X10_97 rfl dX10_kin_24 [.int p3, .int (0 : Int32), .int (2 : Int32)] [] (fun ad => [.int p3, .int (0 : Int32), .int (2 : Int32)]) rfl rfl rfl rfl v s (T_X10_in p3 (0 : Int32) (2 : Int32) s v ho)) (fun q24 => ?_)
        refine ax_jif (ax_if_ne hV dX10_kin_27) ?_ ?_
        · refine ax_j (ax_ldc hV kc_X10_187 dX10_kin_30) ?_
          exact ax_jl (fun h => ax_ir hV rfl dX10_kin_32 (hP ((-500000 : Int32), s) h))
        · refine ax_j (ax_iconst hV (0 : Int32) dX10_kin_33 (by decide)) ?_
          refine ax_j (ax_istore hV [some (.ref (ax_ad (cx_R, X) 0)), some (.int p1), some (.int p2), some (.int p3), some (.int (0 : Int32)), none, none, none, none, none] dX10_kin_34 rfl rfl) ?_
          refine ax_j (ax_iconst hV (0 : Int32) dX10_kin_36 (by decide)) ?_
          refine ax_j (ax_istore hV [some (.ref (ax_ad (cx_R, X) 0)), some (.int p1), some (.int p2), some (.int p3), some (.int (0 : Int32)), some (.int (0 : Int32)), none, none, none, none] dX10_kin_37 rfl rfl) ?_
          refine ax_jlp ((0 : Int32), (0 : Int32), s) (fun x39 : Int32 × Int32 × ax_S => [some (.ref (ax_ad (cx_R, X) 0)), some (.int p1), some (.int p2), some (.int p3), some (.int x39.1), some (.int x39.2.1), none, none, none, none]) (fun x39 : Int32 × Int32 × ax_S => x39.2.2) (fun y39 : Int32 × ax_S => [some (.ref (ax_ad (cx_R, X) 0)), none, none, some (.int p3), some (.int y39.1), none, none, none, none, none]) (fun y39 : Int32 × ax_S => y39.2) (fun P' h1 h2 w => B_X10_kin_39 X hV p1 p2 p3 P' h1 h2 w) (fun e39 => ?_)
          refine ax_j (ax_iconst hV (0 : Int32) dX10_kin_143 (by decide)) ?_
          refine ax_j (ax_istore hV [some (.ref (ax_ad (cx_R, X) 0)), none, none, some (.int p3), some (.int e39.1), some (.int (0 : Int32)), none, none, none, none] dX10_kin_144 rfl rfl) ?_
          refine ax_j (ax_iconst hV (0 : Int32) dX10_kin_146 (by decide)) ?_
          refine ax_j (ax_istore hV [some (.ref (ax_ad (cx_R, X) 0)), none, none, some (.int p3), some (.int e39.1), some (.int (0 : Int32)), some (.int (0 : Int32)), none, none, none] dX10_kin_147 rfl rfl) ?_
          refine ax_j (ax_iconst hV (0 : Int32) dX10_kin_149 (by decide)) ?_
          refine ax_j (ax_istore hV [some (.ref (ax_ad (cx_R, X) 0)), none, none, some (.int p3), some (.int e39.1), some (.int (0 : Int32)), some (.int (0 : Int32)), some (.int (0 : Int32)), none, none] dX10_kin_150 rfl rfl) ?_
          refine ax_jlp ((0 : Int32), (0 : Int32), (0 : Int32)) (fun x152 : Int32 × Int32 × Int32 => [some (.ref (ax_ad (cx_R, X) 0)), none, none, some (.int p3), some (.int e39.1), some (.int x152.1), some (.int x152.2.1), some (.int x152.2.2), none, none]) (fun x152 : Int32 × Int32 × Int32 => e39.2) (fun y152 : Int32 × Int32 => [none, none, none, some (.int p3), some (.int e39.1), some (.int y152.1), some (.int y152.2), none, none, none]) (fun y152 : Int32 × Int32 => e39.2) (fun P' h1 h2 w => B_X10_kin_152 X hV p3 e39.1 e39.2 P' h1 h2 w) (fun e152 => ?_)
          refine ax_j (ax_iload_n hV dX10_kin_250 rfl) ?_
          refine ax_jif (ax_if_ne hV dX10_kin_251) ?_ ?_
          · refine ax_j (ax_iload hV dX10_kin_254 rfl) ?_
            refine ax_j (ax_goto hV dX10_kin_256) ?_
            exact ax_jl (fun h => ax_ir hV rfl dX10_kin_281 (hP (e39.1, e39.2) h))
          · refine ax_j (ax_iload_n hV dX10_kin_259 rfl) ?_
            refine ax_j (ax_iconst hV (1 : Int32) dX10_kin_260 (by decide)) ?_
            refine ax_jif (ax_icmp_ne hV dX10_kin_261) ?_ ?_
            · refine ax_j (ax_iload hV dX10_kin_264 rfl) ?_
              refine ax_j (ax_goto hV dX10_kin_266) ?_
              exact ax_jl (fun h => ax_ir hV rfl dX10_kin_281 (hP (e152.1, e39.2) h))
            · refine ax_j (ax_iload hV dX10_kin_269 rfl) ?_
              refine ax_jif (ax_if_ne hV dX10_kin_271) ?_ ?_
              · refine ax_j (ax_bipush hV (-3 : Int32) dX10_kin_274 (by decide)) ?_
                refine ax_j (ax_goto hV dX10_kin_276) ?_
                exact ax_jl (fun h => ax_ir hV rfl dX10_kin_281 (hP ((-3 : Int32), e39.2) h))
              · refine ax_j (ax_iload hV dX10_kin_279 rfl) ?_
                exact ax_jl (fun h => ax_ir hV rfl dX10_kin_281 (hP (e152.2, e39.2) h))
def mu_X10_hangs : ax_Mu := (yX10_hangs, cX10_hangs, 10, some .long, 4, 86)
theorem lc_X10_hangs : Cond.code mu_X10_hangs.1 mu_X10_hangs.2.1 mu_X10_hangs.2.2.1 mu_X10_hangs.2.2.2.1 ∈ ax_tb := (ax_m6 5 rfl rfl)
noncomputable def b_X10_hangs_49 (l1 : Int32) (l2 : Int32) (l3 : Int32) (l4 : Int64) (a : Int64 × Int32 × ax_S) : Option ((Int64 × Int32 × ax_S) ⊕ (Int64 × ax_S)) := (if (a.2.2.1 0 6) ≤ a.2.1 then some (.inr (a.1, a.2.2)) else (if (lg_cmp ((ax_lshr l4 a.2.1) &&& (1 : Int64)) (1 : Int64)) = 0 then (f_X10_works (l4 &&& ((ax_lshl (1 : Int64) a.2.1) ^^^ (-1 : Int64))) a.2.2).bind (fun q82 => (f_X10_endOf l1 (0 : Int32) q82.2).bind (fun q92 => (if q92 = l2 then (f_X10_endOf l1 (1 : Int32) q82.2).bind (fun q102 => (if q102 = l3 then some (.inl ((a.1 ||| (0 : Int64)), (a.2.1 + 1), q82.2)) else some (.inl ((a.1 ||| (ax_lshl (1 : Int64) a.2.1)), (a.2.1 + 1), q82.2)))) else some (.inl ((a.1 ||| (ax_lshl (1 : Int64) a.2.1)), (a.2.1 + 1), q82.2))))) else some (.inl (a.1, (a.2.1 + 1), a.2.2))))
noncomputable def f_X10_hangs (p1 : Int32) (s : ax_S) : Option (Int64 × ax_S) := (f_X10_isThing p1 s).bind (fun q2 => (if q2 = 0 then some (((-9223372036854775806 : Int64), s)) else (f_X10_canAll s).bind (fun q13 => (if q13.1 = 0 then some (((-9223372036854775805 : Int64), q13.2)) else (f_X10_endOf p1 (0 : Int32) q13.2).bind (fun q26 => (f_X10_endOf p1 (1 : Int32) q13.2).bind (fun q33 => (f_X10_knownNow q13.2).bind (fun q38 => (ax_lp (b_X10_hangs_49 p1 q26 q33 q38) ((0 : Int64), (0 : Int32), q13.2)).bind (fun e49 => some ((e49.1, e49.2))))))))))
theorem B_X10_hangs_49 (X : ax_G × ax_K × Option Value × ax_S) (hV : ax_ok (cx_R, X) mu_X10_hangs) (l1 : Int32) (l2 : Int32) (l3 : Int32) (l4 : Int64) (P : ((Int64 × Int32 × ax_S) ⊕ (Int64 × ax_S)) → Prop) (hI : ∀ a : Int64 × Int32 × ax_S, P (.inl a) → ax_At (cx_R, X) 49 [some (.ref (ax_ad (cx_R, X) 0)), some (.int l1), some (.int l2), some (.int l3), some (.long l4), none, some (.long a.1), none, some (.int a.2.1), none] [] a.2.2) (hO : ∀ e : Int64 × ax_S, P (.inr e) → ax_At (cx_R, X) 126 [none, none, none, none, none, none, some (.long e.1), none, none, none] [] e.2) (a : Int64 × Int32 × ax_S) : ax_J (cx_R, X) P 49 [some (.ref (ax_ad (cx_R, X) 0)), some (.int l1), some (.int l2), some (.int l3), some (.long l4), none, some (.long a.1), none, some (.int a.2.1), none] [] a.2.2 (b_X10_hangs_49 l1 l2 l3 l4 a) := by
  unfold b_X10_hangs_49
  refine ax_j (ax_iload hV dX10_hangs_49 rfl) ?_
  refine ax_j (ax_aload_n hV dX10_hangs_51 rfl) ?_
  refine ax_j (ax_gfi hV lf_X10_111 dX10_hangs_52 rfl rfl) ?_
  refine ax_jif (ax_icmp_ge hV dX10_hangs_55) ?_ ?_
  · refine ax_jf (lv' := [none, none, none, none, none, none, some (.long a.1), none, none, none]) [false, false, false, false, false, false, true, false, false, false] rfl ?_
    exact ax_jl (fun h => hO (a.1, a.2.2) h)
  · refine ax_j (ax_lload hV dX10_hangs_58 rfl) ?_
    refine ax_j (ax_iload hV dX10_hangs_60 rfl) ?_
    refine ax_j (ax_lshr_ hV dX10_hangs_62) ?_
    refine ax_j (ax_lconst hV (1 : Int64) dX10_hangs_63 (by decide)) ?_
    refine ax_j (ax_land hV dX10_hangs_64) ?_
    refine ax_j (ax_lconst hV (1 : Int64) dX10_hangs_65 (by decide)) ?_
    refine ax_j (ax_lcmp hV dX10_hangs_66) ?_
    refine ax_jif (ax_if_ne hV dX10_hangs_67) ?_ ?_
    · refine ax_j (ax_aload_n hV dX10_hangs_70 rfl) ?_
      refine ax_j (ax_lload hV dX10_hangs_71 rfl) ?_
      refine ax_j (ax_lconst hV (1 : Int64) dX10_hangs_73 (by decide)) ?_
      refine ax_j (ax_iload hV dX10_hangs_74 rfl) ?_
      refine ax_j (ax_lshl_ hV dX10_hangs_76) ?_
      refine ax_j (ax_ldc2 hV kc_X10_167 dX10_hangs_77) ?_
      refine ax_j (ax_lxor hV dX10_hangs_80) ?_
      refine ax_j (ax_land hV dX10_hangs_81) ?_
      refine ax_jb (fun v ho => ax_cVi hV lk_X10_169 rfl dX10_hangs_82 rfl rfl [.long (l4 &&& ((ax_lshl (1 : Int64) a.2.1) ^^^ (-1 : Int64)))] [] (fun ad => [.ref (ad 0), .long (l4 &&& ((ax_lshl (1 : Int64) a.2.1) ^^^ (-1 : Int64)))]) rfl rfl rfl rfl v.1 v.2 (T_X10_works (l4 &&& ((ax_lshl (1 : Int64) a.2.1) ^^^ (-1 : Int64))) a.2.2 v ho)) (fun q82 => ?_)
      refine ax_j (ax_istore hV [some (.ref (ax_ad (cx_R, X) 0)), some (.int l1), some (.int l2), some (.int l3), some (.long l4), none, some (.long a.1), none, some (.int a.2.1), some (.int q82.1)] dX10_hangs_85 rfl rfl) ?_
      refine ax_j (ax_lload hV dX10_hangs_87 rfl) ?_
      refine ax_j (ax_aload_n hV dX10_hangs_89 rfl) ?_
      refine ax_j (ax_iload_n hV dX10_hangs_90 rfl) ?_
      refine ax_j (ax_iconst hV (0 : Int32) dX10_hangs_91 (by decide)) ?_
      refine ax_jb (fun v ho => ax_cVi hV lk_X10_177 rfl dX10_hangs_92 rfl rfl [.int l1, .int (0 : Int32)] [.long a.1] (fun ad => [.ref (ad 0), .int l1, .int (0 : Int32)]) rfl rfl rfl rfl v q82.2 (T_X10_endOf l1 (0 : Int32) q82.2 v ho)) (fun q92 => ?_)
      refine ax_j (ax_iload_n hV dX10_hangs_95 rfl) ?_
      refine ax_jif (ax_icmp_ne hV dX10_hangs_96) ?_ ?_
      · refine ax_j (ax_aload_n hV dX10_hangs_99 rfl) ?_
        refine ax_j (ax_iload_n hV dX10_hangs_100 rfl) ?_
        refine ax_j (ax_iconst hV (1 : Int32) dX10_hangs_101 (by decide)) ?_
        refine ax_jb (fun v ho => ax_cVi hV lk_X10_177 rfl dX10_hangs_102 rfl rfl [.int l1, .int (1 : Int32)] [.long a.1] (fun ad => [.ref (ad 0), .int l1, .int (1 : Int32)]) rfl rfl rfl rfl v q82.2 (T_X10_endOf l1 (1 : Int32) q82.2 v ho)) (fun q102 => ?_)
        refine ax_j (ax_iload_n hV dX10_hangs_105 rfl) ?_
        refine ax_jif (ax_icmp_eq hV dX10_hangs_106) ?_ ?_
        · refine ax_j (ax_lconst hV (0 : Int64) dX10_hangs_116 (by decide)) ?_
          refine ax_j (ax_lor hV dX10_hangs_117) ?_
          refine ax_j (ax_lstore hV [some (.ref (ax_ad (cx_R, X) 0)), some (.int l1), some (.int l2), some (.int l3), some (.long l4), none, some (.long (a.1 ||| (0 : Int64))), none, some (.int a.2.1), some (.int q82.1)] dX10_hangs_118 rfl rfl) ?_
          refine ax_j (ax_iinc hV (a.2.1 + 1) [some (.ref (ax_ad (cx_R, X) 0)), some (.int l1), some (.int l2), some (.int l3), some (.long l4), none, some (.long (a.1 ||| (0 : Int64))), none, some (.int (a.2.1 + 1)), some (.int q82.1)] dX10_hangs_120 rfl rfl rfl rfl) ?_
          refine ax_j (ax_goto hV dX10_hangs_123) ?_
          refine ax_jf (lv' := [some (.ref (ax_ad (cx_R, X) 0)), some (.int l1), some (.int l2), some (.int l3), some (.long l4), none, some (.long (a.1 ||| (0 : Int64))), none, some (.int (a.2.1 + 1)), none]) [true, true, true, true, true, false, true, false, true, false] rfl ?_
          exact ax_jl (fun h => hI ((a.1 ||| (0 : Int64)), (a.2.1 + 1), q82.2) h)
        · refine ax_j (ax_lconst hV (1 : Int64) dX10_hangs_109 (by decide)) ?_
          refine ax_j (ax_iload hV dX10_hangs_110 rfl) ?_
          refine ax_j (ax_lshl_ hV dX10_hangs_112) ?_
          refine ax_j (ax_goto hV dX10_hangs_113) ?_
          refine ax_j (ax_lor hV dX10_hangs_117) ?_
          refine ax_j (ax_lstore hV [some (.ref (ax_ad (cx_R, X) 0)), some (.int l1), some (.int l2), some (.int l3), some (.long l4), none, some (.long (a.1 ||| (ax_lshl (1 : Int64) a.2.1))), none, some (.int a.2.1), some (.int q82.1)] dX10_hangs_118 rfl rfl) ?_
          refine ax_j (ax_iinc hV (a.2.1 + 1) [some (.ref (ax_ad (cx_R, X) 0)), some (.int l1), some (.int l2), some (.int l3), some (.long l4), none, some (.long (a.1 ||| (ax_lshl (1 : Int64) a.2.1))), none, some (.int (a.2.1 + 1)), some (.int q82.1)] dX10_hangs_120 rfl rfl rfl rfl) ?_
          refine ax_j (ax_goto hV dX10_hangs_123) ?_
          refine ax_jf (lv' := [some (.ref (ax_ad (cx_R, X) 0)), some (.int l1), some (.int l2), some (.int l3), some (.long l4), none, some (.long (a.1 ||| (ax_lshl (1 : Int64) a.2.1))), none, some (.int (a.2.1 + 1)), none]) [true, true, true, true, true, false, true, false, true, false] rfl ?_
          exact ax_jl (fun h => hI ((a.1 ||| (ax_lshl (1 : Int64) a.2.1)), (a.2.1 + 1), q82.2) h)
      · refine ax_j (ax_lconst hV (1 : Int64) dX10_hangs_109 (by decide)) ?_
        refine ax_j (ax_iload hV dX10_hangs_110 rfl) ?_
        refine ax_j (ax_lshl_ hV dX10_hangs_112) ?_
        refine ax_j (ax_goto hV dX10_hangs_113) ?_
        refine ax_j (ax_lor hV dX10_hangs_117) ?_
        refine ax_j (ax_lstore hV [some (.ref (ax_ad (cx_R, X) 0)), some (.int l1), some (.int l2), some (.int l3), some (.long l4), none, some (.long (a.1 ||| (ax_lshl (1 : Int64) a.2.1))), none, some (.int a.2.1), some (.int q82.1)] dX10_hangs_118 rfl rfl) ?_
        refine ax_j (ax_iinc hV (a.2.1 + 1) [some (.ref (ax_ad (cx_R, X) 0)), some (.int l1), some (.int l2), some (.int l3), some (.long l4), none, some (.long (a.1 ||| (ax_lshl (1 : Int64) a.2.1))), none, some (.int (a.2.1 + 1)), some (.int q82.1)] dX10_hangs_120 rfl rfl rfl rfl) ?_
        refine ax_j (ax_goto hV dX10_hangs_123) ?_
        refine ax_jf (lv' := [some (.ref (ax_ad (cx_R, X) 0)), some (.int l1), some (.int l2), some (.int l3), some (.long l4), none, some (.long (a.1 ||| (ax_lshl (1 : Int64) a.2.1))), none, some (.int (a.2.1 + 1)), none]) [true, true, true, true, true, false, true, false, true, false] rfl ?_
        exact ax_jl (fun h => hI ((a.1 ||| (ax_lshl (1 : Int64) a.2.1)), (a.2.1 + 1), q82.2) h)
    · refine ax_j (ax_iinc hV (a.2.1 + 1) [some (.ref (ax_ad (cx_R, X) 0)), some (.int l1), some (.int l2), some (.int l3), some (.long l4), none, some (.long a.1), none, some (.int (a.2.1 + 1)), none] dX10_hangs_120 rfl rfl rfl rfl) ?_
      refine ax_j (ax_goto hV dX10_hangs_123) ?_
      exact ax_jl (fun h => hI (a.1, (a.2.1 + 1), a.2.2) h)
theorem T_X10_hangs (p1 : Int32) (s : ax_S) (r : Int64 × ax_S) (h : f_X10_hangs p1 s = some r) : ax_M cx_R mu_X10_hangs (fun ad => [.ref (ad 0), .int p1]) s (some (.long r.1)) r.2 := by
  refine ax_enter (by decide +kernel) 8 (fun ad => [some (.ref (ad 0)), some (.int p1), none, none, none, none, none, none, none, none]) (fun ad => rfl) (fun ad => Nat.le_of_ble_eq_true rfl) (fun X hV ho => ?_)
  refine ax_go (fun r : Int64 × ax_S => (some (Value.long r.1), r.2)) (fun P hP => ?_) h ho
  unfold f_X10_hangs
  refine ax_j (ax_aload_n hV dX10_hangs_0 rfl) ?_
  refine ax_j (ax_iload_n hV dX10_hangs_1 rfl) ?_
  refine ax_jb (fun v ho => ax_cVi hV lk_X10_122 rfl dX10_hangs_2 rfl rfl [.int p1] [] (fun ad => [.ref (ad 0), .int p1]) rfl rfl rfl rfl v s (T_X10_isThing p1 s v ho)) (fun q2 => ?_)
  refine ax_jif (ax_if_ne hV dX10_hangs_5) ?_ ?_
  · refine ax_j (ax_ldc2 hV kc_X10_211 dX10_hangs_8) ?_
    exact ax_jl (fun h => ax_lr hV rfl dX10_hangs_11 (hP ((-9223372036854775806 : Int64), s) h))
  · refine ax_j (ax_aload_n hV dX10_hangs_12 rfl) ?_
    refine ax_jb (fun v ho => ax_cVi hV lk_X10_173 rfl dX10_hangs_13 rfl rfl [] [] (fun ad => [.ref (ad 0)]) rfl rfl rfl rfl v.1 v.2 (T_X10_canAll s v ho)) (fun q13 => ?_)
    refine ax_jif (ax_if_ne hV dX10_hangs_16) ?_ ?_
    · refine ax_j (ax_ldc2 hV kc_X10_213 dX10_hangs_19) ?_
      exact ax_jl (fun h => ax_lr hV rfl dX10_hangs_22 (hP ((-9223372036854775805 : Int64), q13.2) h))
    · refine ax_j (ax_aload_n hV dX10_hangs_23 rfl) ?_
      refine ax_j (ax_iload_n hV dX10_hangs_24 rfl) ?_
      refine ax_j (ax_iconst hV (0 : Int32) dX10_hangs_25 (by decide)) ?_
      refine ax_jb (fun v ho => ax_cVi hV lk_X10_177 rfl dX10_hangs_26 rfl rfl [.int p1, .int (0 : Int32)] [] (fun ad => [.ref (ad 0), .int p1, .int (0 : Int32)]) rfl rfl rfl rfl v q13.2 (T_X10_endOf p1 (0 : Int32) q13.2 v ho)) (fun q26 => ?_)
      refine ax_j (ax_istore_n hV [some (.ref (ax_ad (cx_R, X) 0)), some (.int p1), some (.int q26), none, none, none, none, none, none, none] dX10_hangs_29 rfl rfl) ?_
      refine ax_j (ax_aload_n hV dX10_hangs_30 rfl) ?_
      refine ax_j (ax_iload_n hV dX10_hangs_31 rfl) ?_
      refine ax_j (ax_iconst hV (1 : Int32) dX10_hangs_32 (by decide)) ?_
      refine ax_jb (fun v ho => ax_cVi hV lk_X10_177 rfl dX10_hangs_33 rfl rfl [.int p1, .int (1 : Int32)] [] (fun ad => [.ref (ad 0), .int p1, .int (1 : Int32)]) rfl rfl rfl rfl v q13.2 (T_X10_endOf p1 (1 : Int32) q13.2 v ho)) (fun q33 => ?_)
      refine ax_j (ax_istore_n hV [some (.ref (ax_ad (cx_R, X) 0)), some (.int p1), some (.int q26), some (.int q33), none, none, none, none, none, none] dX10_hangs_36 rfl rfl) ?_
      refine ax_j (ax_aload_n hV dX10_hangs_37 rfl) ?_
      refine ax_jb (fun v ho => ax_cVl hV lk_X10_163 rfl dX10_hangs_38 rfl rfl [] [] (fun ad => [.ref (ad 0)]) rfl rfl rfl rfl v q13.2 (T_X10_knownNow q13.2 v ho)) (fun q38 => ?_)
      refine ax_j (ax_lstore hV [some (.ref (ax_ad (cx_R, X) 0)), some (.int p1), some (.int q26), some (.int q33), some (.long q38), none, none, none, none, none] dX10_hangs_41 rfl rfl) ?_
      refine ax_j (ax_lconst hV (0 : Int64) dX10_hangs_43 (by decide)) ?_
      refine ax_j (ax_lstore hV [some (.ref (ax_ad (cx_R, X) 0)), some (.int p1), some (.int q26), some (.int q33), some (.long q38), none, some (.long (0 : Int64)), none, none, none] dX10_hangs_44 rfl rfl) ?_
      refine ax_j (ax_iconst hV (0 : Int32) dX10_hangs_46 (by decide)) ?_
      refine ax_j (ax_istore hV [some (.ref (ax_ad (cx_R, X) 0)), some (.int p1), some (.int q26), some (.int q33), some (.long q38), none, some (.long (0 : Int64)), none, some (.int (0 : Int32)), none] dX10_hangs_47 rfl rfl) ?_
      refine ax_jlp ((0 : Int64), (0 : Int32), q13.2) (fun x49 : Int64 × Int32 × ax_S => [some (.ref (ax_ad (cx_R, X) 0)), some (.int p1), some (.int q26), some (.int q33), some (.long q38), none, some (.long x49.1), none, some (.int x49.2.1), none]) (fun x49 : Int64 × Int32 × ax_S => x49.2.2) (fun y49 : Int64 × ax_S => [none, none, none, none, none, none, some (.long y49.1), none, none, none]) (fun y49 : Int64 × ax_S => y49.2) (fun P' h1 h2 w => B_X10_hangs_49 X hV p1 q26 q33 q38 P' h1 h2 w) (fun e49 => ?_)
      refine ax_j (ax_lload hV dX10_hangs_126 rfl) ?_
      exact ax_jl (fun h => ax_lr hV rfl dX10_hangs_128 (hP (e49.1, e49.2) h))

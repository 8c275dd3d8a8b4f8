def mu_X5_clear : ax_Mu := (yX5_clear, cX5_clear, 2, none, 1, 23)
theorem lc_X5_clear : Cond.code mu_X5_clear.1 mu_X5_clear.2.1 mu_X5_clear.2.2.1 mu_X5_clear.2.2.2.1 ∈ ax_tb := (ax_m3 181 rfl rfl)
noncomputable def f_X5_clear (p1 : Int32) (s : ax_S) : Option (ax_S) := (f_J7_fill_53178 31 (0 : Int32) (ax_ui s 5 4 p1)).bind (fun q10 => some (q10))
theorem T_X5_clear (p1 : Int32) (s : ax_S) (r : ax_S) (h : f_X5_clear p1 s = some r) : ax_M cx_C mu_X5_clear (fun ad => [.ref (ad 5), .int p1]) s none r := by
  refine ax_enter (by decide +kernel) 0 (fun ad => [some (.ref (ad 5)), some (.int p1)]) (fun ad => rfl) (fun ad => Nat.le_of_ble_eq_true rfl) (fun X hV ho => ?_)
  refine ax_go (fun r : ax_S => ((none : Option Value), r)) (fun P hP => ?_) h ho
  unfold f_X5_clear
  refine ax_j (ax_aload_n hV dX5_clear_0 rfl) ?_
  refine ax_j (ax_iload_n hV dX5_clear_1 rfl) ?_
  refine ax_j (ax_pfi hV lp_X5_24 dX5_clear_2 rfl rfl) ?_
  refine ax_j (ax_aload_n hV dX5_clear_5 rfl) ?_
  refine ax_j (ax_gfr hV lf_X5_9 dX5_clear_6 rfl rfl) ?_
  refine ax_j (ax_iconst hV (0 : Int32) dX5_clear_9 (by decide)) ?_
  refine ax_jb (fun v ho => ax_cSv hV lk_X5_28 rfl dX5_clear_10 [.ref (ax_ad (cx_C, X) 31), .int (0 : Int32)] [] (fun ad => [.ref (ad 31), .int (0 : Int32)]) rfl rfl rfl rfl v (T_J7_fill_53178 31 (0 : Int32) (ax_ui s 5 4 p1) v ho)) (fun q10 => ?_)
  exact ax_jl (fun h => ax_vr hV rfl dX5_clear_13 (hP q10 h))
theorem lk_X9_397 : ax_lkV RX9 397 mu_X5_clear RX5 1 := ax_lkV_of (ax_m3 178 rfl rfl) (ax_m3 179 rfl rfl) (ax_m3 180 rfl rfl) (ax_m1 6 rfl rfl) lc_X5_clear rfl ⟨by decide +kernel, by decide +kernel, by decide +kernel⟩
def mu_X5_setAhead : ax_Mu := (yX5_setAhead, cX5_setAhead, 3, none, 0, 0)
theorem lc_X5_setAhead : Cond.code mu_X5_setAhead.1 mu_X5_setAhead.2.1 mu_X5_setAhead.2.2.1 mu_X5_setAhead.2.2.2.1 ∈ ax_tb := (ax_m3 186 rfl rfl)
noncomputable def f_X5_setAhead (p1 : Int32) (p2 : Int32) (s : ax_S) : Option (ax_S) := (ax_ai cx_C s 31 p2).bind (fun v6 => (ax_si cx_C s 31 p2 (v6 ||| ((1 : Int32) <<< (p1 &&& 31)))).bind (fun s11 => some (s11)))
theorem T_X5_setAhead (p1 : Int32) (p2 : Int32) (s : ax_S) (r : ax_S) (h : f_X5_setAhead p1 p2 s = some r) : ax_M cx_C mu_X5_setAhead (fun ad => [.ref (ad 5), .int p1, .int p2]) s none r := by
  refine ax_enter (by decide +kernel) 0 (fun ad => [some (.ref (ad 5)), some (.int p1), some (.int p2)]) (fun ad => rfl) (fun ad => Nat.le_of_ble_eq_true rfl) (fun X hV ho => ?_)
  refine ax_go (fun r : ax_S => ((none : Option Value), r)) (fun P hP => ?_) h ho
  unfold f_X5_setAhead
  refine ax_j (ax_aload_n hV dX5_setAhead_0 rfl) ?_
  refine ax_j (ax_gfr hV lf_X5_9 dX5_setAhead_1 rfl rfl) ?_
  refine ax_j (ax_iload_n hV dX5_setAhead_4 rfl) ?_
  refine ax_j (ax_dup2 hV dX5_setAhead_5 rfl rfl) ?_
  refine ax_jb (ax_iald hV dX5_setAhead_6) (fun v6 => ?_)
  refine ax_j (ax_iconst hV (1 : Int32) dX5_setAhead_7 (by decide)) ?_
  refine ax_j (ax_iload_n hV dX5_setAhead_8 rfl) ?_
  refine ax_j (ax_ishl hV dX5_setAhead_9) ?_
  refine ax_j (ax_ior hV dX5_setAhead_10) ?_
  refine ax_jb (ax_iast hV dX5_setAhead_11) (fun s11 => ?_)
  exact ax_jl (fun h => ax_vr hV rfl dX5_setAhead_12 (hP s11 h))
theorem lk_X9_249 : ax_lkV RX9 249 mu_X5_setAhead RX5 2 := ax_lkV_of (ax_m3 183 rfl rfl) (ax_m3 184 rfl rfl) (ax_m3 185 rfl rfl) (ax_m1 6 rfl rfl) lc_X5_setAhead rfl ⟨by decide +kernel, by decide +kernel, by decide +kernel⟩
def mu_X5_mayFollow : ax_Mu := (yX5_mayFollow, cX5_mayFollow, 3, some .boolean, 0, 0)
theorem lc_X5_mayFollow : Cond.code mu_X5_mayFollow.1 mu_X5_mayFollow.2.1 mu_X5_mayFollow.2.2.1 mu_X5_mayFollow.2.2.2.1 ∈ ax_tb := (ax_m3 194 rfl rfl)
noncomputable def f_X5_mayFollow (p1 : Int32) (p2 : Int32) (s : ax_S) : Option (Int32) := (if ((ax_iushr p2 p1) &&& (1 : Int32)) = 0 then (ax_ai cx_C s 31 p1).bind (fun v13 => (if (v13 &&& (p2 ^^^ (-1 : Int32))) = 0 then some ((1 : Int32)) else some ((0 : Int32)))) else some ((0 : Int32)))
theorem T_X5_mayFollow (p1 : Int32) (p2 : Int32) (s : ax_S) (r : Int32) (h : f_X5_mayFollow p1 p2 s = some r) : ax_M cx_C mu_X5_mayFollow (fun ad => [.ref (ad 5), .int p1, .int p2]) s (some (.int r)) s := by
  refine ax_enter (by decide +kernel) 0 (fun ad => [some (.ref (ad 5)), some (.int p1), some (.int p2)]) (fun ad => rfl) (fun ad => Nat.le_of_ble_eq_true rfl) (fun X hV ho => ?_)
  refine ax_go (fun r : Int32 => (some (Value.int r), s)) (fun P hP => ?_) h ho
  unfold f_X5_mayFollow
  refine ax_j (ax_iload_n hV dX5_mayFollow_0 rfl) ?_
  refine ax_j (ax_iload_n hV dX5_mayFollow_1 rfl) ?_
  refine ax_j (ax_iushr_ hV dX5_mayFollow_2) ?_
  refine ax_j (ax_iconst hV (1 : Int32) dX5_mayFollow_3 (by decide)) ?_
  refine ax_j (ax_iand hV dX5_mayFollow_4) ?_
  refine ax_jif (ax_if_ne hV dX5_mayFollow_5) ?_ ?_
  · refine ax_j (ax_aload_n hV dX5_mayFollow_8 rfl) ?_
    refine ax_j (ax_gfr hV lf_X5_9 dX5_mayFollow_9 rfl rfl) ?_
    refine ax_j (ax_iload_n hV dX5_mayFollow_12 rfl) ?_
    refine ax_jb (ax_iald hV dX5_mayFollow_13) (fun v13 => ?_)
    refine ax_j (ax_iload_n hV dX5_mayFollow_14 rfl) ?_
    refine ax_j (ax_iconst hV (-1 : Int32) dX5_mayFollow_15 (by decide)) ?_
    refine ax_j (ax_ixor hV dX5_mayFollow_16) ?_
    refine ax_j (ax_iand hV dX5_mayFollow_17) ?_
    refine ax_jif (ax_if_ne hV dX5_mayFollow_18) ?_ ?_
    · refine ax_j (ax_iconst hV (1 : Int32) dX5_mayFollow_21 (by decide)) ?_
      refine ax_j (ax_goto hV dX5_mayFollow_22) ?_
      exact ax_jl (fun h => ax_zr hV rfl (by decide) dX5_mayFollow_26 (hP (1 : Int32) h))
    · refine ax_j (ax_iconst hV (0 : Int32) dX5_mayFollow_25 (by decide)) ?_
      exact ax_jl (fun h => ax_zr hV rfl (by decide) dX5_mayFollow_26 (hP (0 : Int32) h))
  · refine ax_j (ax_iconst hV (0 : Int32) dX5_mayFollow_25 (by decide)) ?_
    exact ax_jl (fun h => ax_zr hV rfl (by decide) dX5_mayFollow_26 (hP (0 : Int32) h))
theorem lk_X5_34 : ax_lkV RX5 34 mu_X5_mayFollow RX5 2 := ax_lkV_of (ax_m3 191 rfl rfl) (ax_m3 193 rfl rfl) (ax_mp2 10 rfl rfl rfl) (ax_m1 6 rfl rfl) lc_X5_mayFollow rfl ⟨by decide +kernel, by decide +kernel, by decide +kernel⟩
def mu_X5_waysFrom : ax_Mu := (yX5_waysFrom, cX5_waysFrom, 5, some .int, 1, 22)
theorem lc_X5_waysFrom : Cond.code mu_X5_waysFrom.1 mu_X5_waysFrom.2.1 mu_X5_waysFrom.2.2.1 mu_X5_waysFrom.2.2.2.1 ∈ ax_tb := (ax_m3 190 rfl rfl)
noncomputable def b_X5_waysFrom_11 (l1 : Int32) (l2 : Int32) (a : Int32 × ax_S) : Option ((Int32 × ax_S) ⊕ (ax_S)) := (if l2 < a.1 then some (.inr a.2) else (ax_si cx_C a.2 32 a.1 (0 : Int32)).bind (fun s22 => some (.inl ((a.1 + 1), s22))))
noncomputable def b_X5_waysFrom_55 (l2 : Int32) (l3 : Int32) (a : Int32 × ax_S) : Option ((Int32 × ax_S) ⊕ (ax_S)) := (if (a.2.1 5 4) ≤ a.1 then some (.inr a.2) else (f_X5_mayFollow a.1 l3 a.2).bind (fun q68 => (if q68 = 0 then some (.inl ((a.1 + 1), a.2)) else (ax_ai cx_C a.2 32 (l3 ||| ((1 : Int32) <<< (a.1 &&& 31)))).bind (fun v85 => (ax_ai cx_C a.2 32 l3).bind (fun v91 => (ax_si cx_C a.2 32 (l3 ||| ((1 : Int32) <<< (a.1 &&& 31))) (v85 + v91)).bind (fun s93 => some (.inl ((a.1 + 1), s93))))))))
noncomputable def b_X5_waysFrom_38 (l2 : Int32) (a : Int32 × ax_S) : Option ((Int32 × ax_S) ⊕ (ax_S)) := (if l2 ≤ a.1 then some (.inr a.2) else (ax_ai cx_C a.2 32 a.1).bind (fun v48 => (if v48 = 0 then some (.inl ((a.1 + 1), a.2)) else (ax_lp (b_X5_waysFrom_55 l2 a.1) ((0 : Int32), a.2)).bind (fun e55 => some (.inl ((a.1 + 1), e55))))))
noncomputable def f_X5_waysFrom (p1 : Int32) (s : ax_S) : Option (Int32 × ax_S) := (ax_lp (b_X5_waysFrom_11 p1 (((1 : Int32) <<< ((s.1 5 4) &&& 31)) - (1 : Int32))) (p1, s)).bind (fun e11 => (ax_si cx_C e11 32 p1 (1 : Int32)).bind (fun s35 => (ax_lp (b_X5_waysFrom_38 (((1 : Int32) <<< ((s.1 5 4) &&& 31)) - (1 : Int32))) (p1, s35)).bind (fun e38 => (ax_ai cx_C e38 32 (((1 : Int32) <<< ((s.1 5 4) &&& 31)) - (1 : Int32))).bind (fun v111 => some ((v111, e38))))))
theorem B_X5_waysFrom_11 (X : ax_G × ax_K × Option Value × ax_S) (hV : ax_ok (cx_C, X) mu_X5_waysFrom) (l1 : Int32) (l2 : Int32) (P : ((Int32 × ax_S) ⊕ (ax_S)) → Prop) (hI : ∀ a : Int32 × ax_S, P (.inl a) → ax_At (cx_C, X) 11 [some (.ref (ax_ad (cx_C, X) 5)), some (.int l1), some (.int l2), some (.int a.1), none] [] a.2) (hO : ∀ e : ax_S, P (.inr e) → ax_At (cx_C, X) 29 [some (.ref (ax_ad (cx_C, X) 5)), some (.int l1), some (.int l2), none, none] [] e) (a : Int32 × ax_S) : ax_J (cx_C, X) P 11 [some (.ref (ax_ad (cx_C, X) 5)), some (.int l1), some (.int l2), some (.int a.1), none] [] a.2 (b_X5_waysFrom_11 l1 l2 a) := by
  unfold b_X5_waysFrom_11
  refine ax_j (ax_iload_n hV dX5_waysFrom_11 rfl) ?_
  refine ax_j (ax_iload_n hV dX5_waysFrom_12 rfl) ?_
  refine ax_jif (ax_icmp_gt hV dX5_waysFrom_13) ?_ ?_
  · refine ax_jf (lv' := [some (.ref (ax_ad (cx_C, X) 5)), some (.int l1), some (.int l2), none, none]) [true, true, true, false, false] rfl ?_
    exact ax_jl (fun h => hO a.2 h)
  · refine ax_j (ax_aload_n hV dX5_waysFrom_16 rfl) ?_
    refine ax_j (ax_gfr hV lf_X5_15 dX5_waysFrom_17 rfl rfl) ?_
    refine ax_j (ax_iload_n hV dX5_waysFrom_20 rfl) ?_
    refine ax_j (ax_iconst hV (0 : Int32) dX5_waysFrom_21 (by decide)) ?_
    refine ax_jb (ax_iast hV dX5_waysFrom_22) (fun s22 => ?_)
    refine ax_j (ax_iinc hV (a.1 + 1) [some (.ref (ax_ad (cx_C, X) 5)), some (.int l1), some (.int l2), some (.int (a.1 + 1)), none] dX5_waysFrom_23 rfl rfl rfl rfl) ?_
    refine ax_j (ax_goto hV dX5_waysFrom_26) ?_
    exact ax_jl (fun h => hI ((a.1 + 1), s22) h)
theorem B_X5_waysFrom_55 (X : ax_G × ax_K × Option Value × ax_S) (hV : ax_ok (cx_C, X) mu_X5_waysFrom) (l2 : Int32) (l3 : Int32) (P : ((Int32 × ax_S) ⊕ (ax_S)) → Prop) (hI : ∀ a : Int32 × ax_S, P (.inl a) → ax_At (cx_C, X) 55 [some (.ref (ax_ad (cx_C, X) 5)), none, some (.int l2), some (.int l3), some (.int a.1)] [] a.2) (hO : ∀ e : ax_S, P (.inr e) → ax_At (cx_C, X) 100 [some (.ref (ax_ad (cx_C, X) 5)), none, some (.int l2), some (.int l3), none] [] e) (a : Int32 × ax_S) : ax_J (cx_C, X) P 55 [some (.ref (ax_ad (cx_C, X) 5)), none, some (.int l2), some (.int l3), some (.int a.1)] [] a.2 (b_X5_waysFrom_55 l2 l3 a) := by
  unfold b_X5_waysFrom_55
  refine ax_j (ax_iload hV dX5_waysFrom_55 rfl) ?_
  refine ax_j (ax_aload_n hV dX5_waysFrom_57 rfl) ?_
  refine ax_j (ax_gfi hV lf_X5_24 dX5_waysFrom_58 rfl rfl) ?_
  refine ax_jif (ax_icmp_ge hV dX5_waysFrom_61) ?_ ?_
  · refine ax_jf (lv' := [some (.ref (ax_ad (cx_C, X) 5)), none, some (.int l2), some (.int l3), none]) [true, false, true, true, false] rfl ?_
    exact ax_jl (fun h => hO a.2 h)
  · refine ax_j (ax_aload_n hV dX5_waysFrom_64 rfl) ?_
    refine ax_j (ax_iload hV dX5_waysFrom_65 rfl) ?_
    refine ax_j (ax_iload_n hV dX5_waysFrom_67 rfl) ?_
    refine ax_jb (fun v ho => ax_cVi hV lk_X5_34 rfl dX5_waysFrom_68 rfl rfl [.int a.1, .int l3] [] (fun ad => [.ref (ad 5), .int a.1, .int l3]) rfl rfl rfl rfl v a.2 (T_X5_mayFollow a.1 l3 a.2 v ho)) (fun q68 => ?_)
    refine ax_jif (ax_if_eq hV dX5_waysFrom_71) ?_ ?_
    · refine ax_j (ax_iinc hV (a.1 + 1) [some (.ref (ax_ad (cx_C, X) 5)), none, some (.int l2), some (.int l3), some (.int (a.1 + 1))] dX5_waysFrom_94 rfl rfl rfl rfl) ?_
      refine ax_j (ax_goto hV dX5_waysFrom_97) ?_
      exact ax_jl (fun h => hI ((a.1 + 1), a.2) h)
    · refine ax_j (ax_aload_n hV dX5_waysFrom_74 rfl) ?_
      refine ax_j (ax_gfr hV lf_X5_15 dX5_waysFrom_75 rfl rfl) ?_
      refine ax_j (ax_iload_n hV dX5_waysFrom_78 rfl) ?_
      refine ax_j (ax_iconst hV (1 : Int32) dX5_waysFrom_79 (by decide)) ?_
      refine ax_j (ax_iload hV dX5_waysFrom_80 rfl) ?_
      refine ax_j (ax_ishl hV dX5_waysFrom_82) ?_
      refine ax_j (ax_ior hV dX5_waysFrom_83) ?_
      refine ax_j (ax_dup2 hV dX5_waysFrom_84 rfl rfl) ?_
      refine ax_jb (ax_iald hV dX5_waysFrom_85) (fun v85 => ?_)
      refine ax_j (ax_aload_n hV dX5_waysFrom_86 rfl) ?_
      refine ax_j (ax_gfr hV lf_X5_15 dX5_waysFrom_87 rfl rfl) ?_
      refine ax_j (ax_iload_n hV dX5_waysFrom_90 rfl) ?_
      refine ax_jb (ax_iald hV dX5_waysFrom_91) (fun v91 => ?_)
      refine ax_j (ax_iadd hV dX5_waysFrom_92) ?_
      refine ax_jb (ax_iast hV dX5_waysFrom_93) (fun s93 => ?_)
      refine ax_j (ax_iinc hV (a.1 + 1) [some (.ref (ax_ad (cx_C, X) 5)), none, some (.int l2), some (.int l3), some (.int (a.1 + 1))] dX5_waysFrom_94 rfl rfl rfl rfl) ?_
      refine ax_j (ax_goto hV dX5_waysFrom_97) ?_
      exact ax_jl (fun h => hI ((a.1 + 1), s93) h)
theorem B_X5_waysFrom_38 (X : ax_G × ax_K × Option Value × ax_S) (hV : ax_ok (cx_C, X) mu_X5_waysFrom) (l2 : Int32) (P : ((Int32 × ax_S) ⊕ (ax_S)) → Prop) (hI : ∀ a : Int32 × ax_S, P (.inl a) → ax_At (cx_C, X) 38 [some (.ref (ax_ad (cx_C, X) 5)), none, some (.int l2), some (.int a.1), none] [] a.2) (hO : ∀ e : ax_S, P (.inr e) → ax_At (cx_C, X) 106 [some (.ref (ax_ad (cx_C, X) 5)), none, some (.int l2), none, none] [] e) (a : Int32 × ax_S) : ax_J (cx_C, X) P 38 [some (.ref (ax_ad (cx_C, X) 5)), none, some (.int l2), some (.int a.1), none] [] a.2 (b_X5_waysFrom_38 l2 a) := by
  unfold b_X5_waysFrom_38
  refine ax_j (ax_iload_n hV dX5_waysFrom_38 rfl) ?_
  refine ax_j (ax_iload_n hV dX5_waysFrom_39 rfl) ?_
  refine ax_jif (ax_icmp_ge hV dX5_waysFrom_40) ?_ ?_
  · refine ax_jf (lv' := [some (.ref (ax_ad (cx_C, X) 5)), none, some (.int l2), none, none]) [true, false, true, false, false] rfl ?_
    exact ax_jl (fun h => hO a.2 h)
  · refine ax_j (ax_aload_n hV dX5_waysFrom_43 rfl) ?_
    refine ax_j (ax_gfr hV lf_X5_15 dX5_waysFrom_44 rfl rfl) ?_
    refine ax_j (ax_iload_n hV dX5_waysFrom_47 rfl) ?_
    refine ax_jb (ax_iald hV dX5_waysFrom_48) (fun v48 => ?_)
    refine ax_jif (ax_if_eq hV dX5_waysFrom_49) ?_ ?_
    · refine ax_j (ax_iinc hV (a.1 + 1) [some (.ref (ax_ad (cx_C, X) 5)), none, some (.int l2), some (.int (a.1 + 1)), none] dX5_waysFrom_100 rfl rfl rfl rfl) ?_
      refine ax_j (ax_goto hV dX5_waysFrom_103) ?_
      exact ax_jl (fun h => hI ((a.1 + 1), a.2) h)
    · refine ax_j (ax_iconst hV (0 : Int32) dX5_waysFrom_52 (by decide)) ?_
      refine ax_j (ax_istore hV [some (.ref (ax_ad (cx_C, X) 5)), none, some (.int l2), some (.int a.1), some (.int (0 : Int32))] dX5_waysFrom_53 rfl rfl) ?_
      refine ax_jlp ((0 : Int32), a.2) (fun x55 : Int32 × ax_S => [some (.ref (ax_ad (cx_C, X) 5)), none, some (.int l2), some (.int a.1), some (.int x55.1)]) (fun x55 : Int32 × ax_S => x55.2) (fun y55 : ax_S => [some (.ref (ax_ad (cx_C, X) 5)), none, some (.int l2), some (.int a.1), none]) (fun y55 : ax_S => y55) (fun P' h1 h2 w => B_X5_waysFrom_55 X hV l2 a.1 P' h1 h2 w) (fun e55 => ?_)
      refine ax_j (ax_iinc hV (a.1 + 1) [some (.ref (ax_ad (cx_C, X) 5)), none, some (.int l2), some (.int (a.1 + 1)), none] dX5_waysFrom_100 rfl rfl rfl rfl) ?_
      refine ax_j (ax_goto hV dX5_waysFrom_103) ?_
      exact ax_jl (fun h => hI ((a.1 + 1), e55) h)
theorem T_X5_waysFrom (p1 : Int32) (s : ax_S) (r : Int32 × ax_S) (h : f_X5_waysFrom p1 s = some r) : ax_M cx_C mu_X5_waysFrom (fun ad => [.ref (ad 5), .int p1]) s (some (.int r.1)) r.2 := by
  refine ax_enter (by decide +kernel) 3 (fun ad => [some (.ref (ad 5)), some (.int p1), none, none, none]) (fun ad => rfl) (fun ad => Nat.le_of_ble_eq_true rfl) (fun X hV ho => ?_)
  refine ax_go (fun r : Int32 × ax_S => (some (Value.int r.1), r.2)) (fun P hP => ?_) h ho
  unfold f_X5_waysFrom
  refine ax_j (ax_iconst hV (1 : Int32) dX5_waysFrom_0 (by decide)) ?_
  refine ax_j (ax_aload_n hV dX5_waysFrom_1 rfl) ?_
  refine ax_j (ax_gfi hV lf_X5_24 dX5_waysFrom_2 rfl rfl) ?_
  refine ax_j (ax_ishl hV dX5_waysFrom_5) ?_
  refine ax_j (ax_iconst hV (1 : Int32) dX5_waysFrom_6 (by decide)) ?_
  refine ax_j (ax_isub hV dX5_waysFrom_7) ?_
  refine ax_j (ax_istore_n hV [some (.ref (ax_ad (cx_C, X) 5)), some (.int p1), some (.int (((1 : Int32) <<< ((s.1 5 4) &&& 31)) - (1 : Int32))), none, none] dX5_waysFrom_8 rfl rfl) ?_
  refine ax_j (ax_iload_n hV dX5_waysFrom_9 rfl) ?_
  refine ax_j (ax_istore_n hV [some (.ref (ax_ad (cx_C, X) 5)), some (.int p1), some (.int (((1 : Int32) <<< ((s.1 5 4) &&& 31)) - (1 : Int32))), some (.int p1), none] dX5_waysFrom_10 rfl rfl) ?_
  refine ax_jlp (p1, s) (fun x11 : Int32 × ax_S => [some (.ref (ax_ad (cx_C, X) 5)), some (.int p1), some (.int (((1 : Int32) <<< ((s.1 5 4) &&& 31)) - (1 : Int32))), some (.int x11.1), none]) (fun x11 : Int32 × ax_S => x11.2) (fun y11 : ax_S => [some (.ref (ax_ad (cx_C, X) 5)), some (.int p1), some (.int (((1 : Int32) <<< ((s.1 5 4) &&& 31)) - (1 : Int32))), none, none]) (fun y11 : ax_S => y11) (fun P' h1 h2 w => B_X5_waysFrom_11 X hV p1 (((1 : Int32) <<< ((s.1 5 4) &&& 31)) - (1 : Int32)) P' h1 h2 w) (fun e11 => ?_)
  refine ax_j (ax_aload_n hV dX5_waysFrom_29 rfl) ?_
  refine ax_j (ax_gfr hV lf_X5_15 dX5_waysFrom_30 rfl rfl) ?_
  refine ax_j (ax_iload_n hV dX5_waysFrom_33 rfl) ?_
  refine ax_j (ax_iconst hV (1 : Int32) dX5_waysFrom_34 (by decide)) ?_
  refine ax_jb (ax_iast hV dX5_waysFrom_35) (fun s35 => ?_)
  refine ax_j (ax_iload_n hV dX5_waysFrom_36 rfl) ?_
  refine ax_j (ax_istore_n hV [some (.ref (ax_ad (cx_C, X) 5)), some (.int p1), some (.int (((1 : Int32) <<< ((s.1 5 4) &&& 31)) - (1 : Int32))), some (.int p1), none] dX5_waysFrom_37 rfl rfl) ?_
  refine ax_jf (lv' := [some (.ref (ax_ad (cx_C, X) 5)), none, some (.int (((1 : Int32) <<< ((s.1 5 4) &&& 31)) - (1 : Int32))), some (.int p1), none]) [true, false, true, true, false] rfl ?_
  refine ax_jlp (p1, s35) (fun x38 : Int32 × ax_S => [some (.ref (ax_ad (cx_C, X) 5)), none, some (.int (((1 : Int32) <<< ((s.1 5 4) &&& 31)) - (1 : Int32))), some (.int x38.1), none]) (fun x38 : Int32 × ax_S => x38.2) (fun y38 : ax_S => [some (.ref (ax_ad (cx_C, X) 5)), none, some (.int (((1 : Int32) <<< ((s.1 5 4) &&& 31)) - (1 : Int32))), none, none]) (fun y38 : ax_S => y38) (fun P' h1 h2 w => B_X5_waysFrom_38 X hV (((1 : Int32) <<< ((s.1 5 4) &&& 31)) - (1 : Int32)) P' h1 h2 w) (fun e38 => ?_)
  refine ax_j (ax_aload_n hV dX5_waysFrom_106 rfl) ?_
  refine ax_j (ax_gfr hV lf_X5_15 dX5_waysFrom_107 rfl rfl) ?_
  refine ax_j (ax_iload_n hV dX5_waysFrom_110 rfl) ?_
  refine ax_jb (ax_iald hV dX5_waysFrom_111) (fun v111 => ?_)
  exact ax_jl (fun h => ax_ir hV rfl dX5_waysFrom_112 (hP (v111, e38) h))
theorem lk_X5_38 : ax_lkV RX5 38 mu_X5_waysFrom RX5 1 := ax_lkV_of (ax_m3 214 rfl rfl) (ax_m3 188 rfl rfl) (ax_m3 189 rfl rfl) (ax_m1 6 rfl rfl) lc_X5_waysFrom rfl ⟨by decide +kernel, by decide +kernel, by decide +kernel⟩
theorem lk_X9_246 : ax_lkV RX9 246 mu_X5_waysFrom RX5 1 := ax_lkV_of (ax_m3 187 rfl rfl) (ax_m3 188 rfl rfl) (ax_m3 189 rfl rfl) (ax_m1 6 rfl rfl) lc_X5_waysFrom rfl ⟨by decide +kernel, by decide +kernel, by decide +kernel⟩
def mu_X5_countWaysOn : ax_Mu := (yX5_countWaysOn, cX5_countWaysOn, 5, none, 1, 22)
theorem lc_X5_countWaysOn : Cond.code mu_X5_countWaysOn.1 mu_X5_countWaysOn.2.1 mu_X5_countWaysOn.2.2.1 mu_X5_countWaysOn.2.2.2.1 ∈ ax_tb := (ax_m3 218 rfl rfl)
noncomputable def b_X5_countWaysOn_29 (l2 : Int32) (s : ax_S) (a : Int32 × Int32) : Option ((Int32 × Int32) ⊕ (Int32)) := (if (s.1 5 4) ≤ a.2 then some (.inr a.1) else (f_X5_mayFollow a.2 l2 s).bind (fun q42 => (if q42 = 0 then some (.inl (a.1, (a.2 + 1))) else (ax_ai cx_C s 33 (l2 ||| ((1 : Int32) <<< (a.2 &&& 31)))).bind (fun v59 => some (.inl ((a.1 + v59), (a.2 + 1)))))))
noncomputable def b_X5_countWaysOn_20  (a : Int32 × ax_S) : Option ((Int32 × ax_S) ⊕ (ax_S)) := (if a.1 < 0 then some (.inr a.2) else (ax_lp (b_X5_countWaysOn_29 a.1 a.2) ((0 : Int32), (0 : Int32))).bind (fun e29 => (ax_si cx_C a.2 33 a.1 e29).bind (fun s74 => some (.inl ((a.1 + (-1)), s74)))))
noncomputable def f_X5_countWaysOn  (s : ax_S) : Option (ax_S) := (ax_si cx_C s 33 (((1 : Int32) <<< ((s.1 5 4) &&& 31)) - (1 : Int32)) (1 : Int32)).bind (fun s15 => (ax_lp (b_X5_countWaysOn_20) (((((1 : Int32) <<< ((s.1 5 4) &&& 31)) - (1 : Int32)) - (1 : Int32)), s15)).bind (fun e20 => some (e20)))
theorem B_X5_countWaysOn_29 (X : ax_G × ax_K × Option Value × ax_S) (hV : ax_ok (cx_C, X) mu_X5_countWaysOn) (l2 : Int32) (s : ax_S) (P : ((Int32 × Int32) ⊕ (Int32)) → Prop) (hI : ∀ a : Int32 × Int32, P (.inl a) → ax_At (cx_C, X) 29 [some (.ref (ax_ad (cx_C, X) 5)), none, some (.int l2), some (.int a.1), some (.int a.2)] [] s) (hO : ∀ e : Int32, P (.inr e) → ax_At (cx_C, X) 68 [some (.ref (ax_ad (cx_C, X) 5)), none, some (.int l2), some (.int e), none] [] s) (a : Int32 × Int32) : ax_J (cx_C, X) P 29 [some (.ref (ax_ad (cx_C, X) 5)), none, some (.int l2), some (.int a.1), some (.int a.2)] [] s (b_X5_countWaysOn_29 l2 s a) := by
  unfold b_X5_countWaysOn_29
  refine ax_j (ax_iload hV dX5_countWaysOn_29 rfl) ?_
  refine ax_j (ax_aload_n hV dX5_countWaysOn_31 rfl) ?_
  refine ax_j (ax_gfi hV lf_X5_24 dX5_countWaysOn_32 rfl rfl) ?_
  refine ax_jif (ax_icmp_ge hV dX5_countWaysOn_35) ?_ ?_
  · refine ax_jf (lv' := [some (.ref (ax_ad (cx_C, X) 5)), none, some (.int l2), some (.int a.1), none]) [true, false, true, true, false] rfl ?_
    exact ax_jl (fun h => hO a.1 h)
  · refine ax_j (ax_aload_n hV dX5_countWaysOn_38 rfl) ?_
    refine ax_j (ax_iload hV dX5_countWaysOn_39 rfl) ?_
    refine ax_j (ax_iload_n hV dX5_countWaysOn_41 rfl) ?_
    refine ax_jb (fun v ho => ax_cVi hV lk_X5_34 rfl dX5_countWaysOn_42 rfl rfl [.int a.2, .int l2] [] (fun ad => [.ref (ad 5), .int a.2, .int l2]) rfl rfl rfl rfl v s (T_X5_mayFollow a.2 l2 s v ho)) (fun q42 => ?_)
    refine ax_jif (ax_if_eq hV dX5_countWaysOn_45) ?_ ?_
    · refine ax_j (ax_iinc hV (a.2 + 1) [some (.ref (ax_ad (cx_C, X) 5)), none, some (.int l2), some (.int a.1), some (.int (a.2 + 1))] dX5_countWaysOn_62 rfl rfl rfl rfl) ?_
      refine ax_j (ax_goto hV dX5_countWaysOn_65) ?_
      exact ax_jl (fun h => hI (a.1, (a.2 + 1)) h)
    · refine ax_j (ax_iload_n hV dX5_countWaysOn_48 rfl) ?_
      refine ax_j (ax_aload_n hV dX5_countWaysOn_49 rfl) ?_
      refine ax_j (ax_gfr hV lf_X5_18 dX5_countWaysOn_50 rfl rfl) ?_
      refine ax_j (ax_iload_n hV dX5_countWaysOn_53 rfl) ?_
      refine ax_j (ax_iconst hV (1 : Int32) dX5_countWaysOn_54 (by decide)) ?_
      refine ax_j (ax_iload hV dX5_countWaysOn_55 rfl) ?_
      refine ax_j (ax_ishl hV dX5_countWaysOn_57) ?_
      refine ax_j (ax_ior hV dX5_countWaysOn_58) ?_
      refine ax_jb (ax_iald hV dX5_countWaysOn_59) (fun v59 => ?_)
      refine ax_j (ax_iadd hV dX5_countWaysOn_60) ?_
      refine ax_j (ax_istore_n hV [some (.ref (ax_ad (cx_C, X) 5)), none, some (.int l2), some (.int (a.1 + v59)), some (.int a.2)] dX5_countWaysOn_61 rfl rfl) ?_
      refine ax_j (ax_iinc hV (a.2 + 1) [some (.ref (ax_ad (cx_C, X) 5)), none, some (.int l2), some (.int (a.1 + v59)), some (.int (a.2 + 1))] dX5_countWaysOn_62 rfl rfl rfl rfl) ?_
      refine ax_j (ax_goto hV dX5_countWaysOn_65) ?_
      exact ax_jl (fun h => hI ((a.1 + v59), (a.2 + 1)) h)
theorem B_X5_countWaysOn_20 (X : ax_G × ax_K × Option Value × ax_S) (hV : ax_ok (cx_C, X) mu_X5_countWaysOn)  (P : ((Int32 × ax_S) ⊕ (ax_S)) → Prop) (hI : ∀ a : Int32 × ax_S, P (.inl a) → ax_At (cx_C, X) 20 [some (.ref (ax_ad (cx_C, X) 5)), none, some (.int a.1), none, none] [] a.2) (hO : ∀ e : ax_S, P (.inr e) → ax_At (cx_C, X) 81 [none, none, none, none, none] [] e) (a : Int32 × ax_S) : ax_J (cx_C, X) P 20 [some (.ref (ax_ad (cx_C, X) 5)), none, some (.int a.1), none, none] [] a.2 (b_X5_countWaysOn_20 a) := by
  unfold b_X5_countWaysOn_20
  refine ax_j (ax_iload_n hV dX5_countWaysOn_20 rfl) ?_
  refine ax_jif (ax_if_lt hV dX5_countWaysOn_21) ?_ ?_
  · refine ax_jf (lv' := [none, none, none, none, none]) [false, false, false, false, false] rfl ?_
    exact ax_jl (fun h => hO a.2 h)
  · refine ax_j (ax_iconst hV (0 : Int32) dX5_countWaysOn_24 (by decide)) ?_
    refine ax_j (ax_istore_n hV [some (.ref (ax_ad (cx_C, X) 5)), none, some (.int a.1), some (.int (0 : Int32)), none] dX5_countWaysOn_25 rfl rfl) ?_
    refine ax_j (ax_iconst hV (0 : Int32) dX5_countWaysOn_26 (by decide)) ?_
    refine ax_j (ax_istore hV [some (.ref (ax_ad (cx_C, X) 5)), none, some (.int a.1), some (.int (0 : Int32)), some (.int (0 : Int32))] dX5_countWaysOn_27 rfl rfl) ?_
    refine ax_jlp ((0 : Int32), (0 : Int32)) (fun x29 : Int32 × Int32 => [some (.ref (ax_ad (cx_C, X) 5)), none, some (.int a.1), some (.int x29.1), some (.int x29.2)]) (fun x29 : Int32 × Int32 => a.2) (fun y29 : Int32 => [some (.ref (ax_ad (cx_C, X) 5)), none, some (.int a.1), some (.int y29), none]) (fun y29 : Int32 => a.2) (fun P' h1 h2 w => B_X5_countWaysOn_29 X hV a.1 a.2 P' h1 h2 w) (fun e29 => ?_)
    refine ax_j (ax_aload_n hV dX5_countWaysOn_68 rfl) ?_
    refine ax_j (ax_gfr hV lf_X5_18 dX5_countWaysOn_69 rfl rfl) ?_
    refine ax_j (ax_iload_n hV dX5_countWaysOn_72 rfl) ?_
    refine ax_j (ax_iload_n hV dX5_countWaysOn_73 rfl) ?_
    refine ax_jb (ax_iast hV dX5_countWaysOn_74) (fun s74 => ?_)
    refine ax_j (ax_iinc hV (a.1 + (-1)) [some (.ref (ax_ad (cx_C, X) 5)), none, some (.int (a.1 + (-1))), some (.int e29), none] dX5_countWaysOn_75 rfl rfl rfl rfl) ?_
    refine ax_j (ax_goto hV dX5_countWaysOn_78) ?_
    refine ax_jf (lv' := [some (.ref (ax_ad (cx_C, X) 5)), none, some (.int (a.1 + (-1))), none, none]) [true, false, true, false, false] rfl ?_
    exact ax_jl (fun h => hI ((a.1 + (-1)), s74) h)
theorem T_X5_countWaysOn  (s : ax_S) (r : ax_S) (h : f_X5_countWaysOn s = some r) : ax_M cx_C mu_X5_countWaysOn (fun ad => [.ref (ad 5)]) s none r := by
  refine ax_enter (by decide +kernel) 4 (fun ad => [some (.ref (ad 5)), none, none, none, none]) (fun ad => rfl) (fun ad => Nat.le_of_ble_eq_true rfl) (fun X hV ho => ?_)
  refine ax_go (fun r : ax_S => ((none : Option Value), r)) (fun P hP => ?_) h ho
  unfold f_X5_countWaysOn
  refine ax_j (ax_iconst hV (1 : Int32) dX5_countWaysOn_0 (by decide)) ?_
  refine ax_j (ax_aload_n hV dX5_countWaysOn_1 rfl) ?_
  refine ax_j (ax_gfi hV lf_X5_24 dX5_countWaysOn_2 rfl rfl) ?_
  refine ax_j (ax_ishl hV dX5_countWaysOn_5) ?_
  refine ax_j (ax_iconst hV (1 : Int32) dX5_countWaysOn_6 (by decide)) ?_
  refine ax_j (ax_isub hV dX5_countWaysOn_7) ?_
  refine ax_j (ax_istore_n hV [some (.ref (ax_ad (cx_C, X) 5)), some (.int (((1 : Int32) <<< ((s.1 5 4) &&& 31)) - (1 : Int32))), none, none, none] dX5_countWaysOn_8 rfl rfl) ?_
  refine ax_j (ax_aload_n hV dX5_countWaysOn_9 rfl) ?_
  refine ax_j (ax_gfr hV lf_X5_18 dX5_countWaysOn_10 rfl rfl) ?_
  refine ax_j (ax_iload_n hV dX5_countWaysOn_13 rfl) ?_
  refine ax_j (ax_iconst hV (1 : Int32) dX5_countWaysOn_14 (by decide)) ?_
  refine ax_jb (ax_iast hV dX5_countWaysOn_15) (fun s15 => ?_)
  refine ax_j (ax_iload_n hV dX5_countWaysOn_16 rfl) ?_
  refine ax_j (ax_iconst hV (1 : Int32) dX5_countWaysOn_17 (by decide)) ?_
  refine ax_j (ax_isub hV dX5_countWaysOn_18) ?_
  refine ax_j (ax_istore_n hV [some (.ref (ax_ad (cx_C, X) 5)), some (.int (((1 : Int32) <<< ((s.1 5 4) &&& 31)) - (1 : Int32))), some (.int ((((1 : Int32) <<< ((s.1 5 4) &&& 31)) - (1 : Int32)) - (1 : Int32))), none, none] dX5_countWaysOn_19 rfl rfl) ?_
  refine ax_jf (lv' := [some (.ref (ax_ad (cx_C, X) 5)), none, some (.int ((((1 : Int32) <<< ((s.1 5 4) &&& 31)) - (1 : Int32)) - (1 : Int32))), none, none]) [true, false, true, false, false] rfl ?_
  refine ax_jlp (((((1 : Int32) <<< ((s.1 5 4) &&& 31)) - (1 : Int32)) - (1 : Int32)), s15) (fun x20 : Int32 × ax_S => [some (.ref (ax_ad (cx_C, X) 5)), none, some (.int x20.1), none, none]) (fun x20 : Int32 × ax_S => x20.2) (fun y20 : ax_S => [none, none, none, none, none]) (fun y20 : ax_S => y20) (fun P' h1 h2 w => B_X5_countWaysOn_20 X hV  P' h1 h2 w) (fun e20 => ?_)
  exact ax_jl (fun h => ax_vr hV rfl dX5_countWaysOn_81 (hP e20 h))
theorem lk_X5_42 : ax_lkV RX5 42 mu_X5_countWaysOn RX5 0 := ax_lkV_of (ax_m3 215 rfl rfl) (ax_m3 217 rfl rfl) (ax_mp2 11 rfl rfl rfl) (ax_m1 6 rfl rfl) lc_X5_countWaysOn rfl ⟨by decide +kernel, by decide +kernel, by decide +kernel⟩
def mu_X5_addToPairs : ax_Mu := (yX5_addToPairs, cX5_addToPairs, 5, none, 0, 0)
theorem lc_X5_addToPairs : Cond.code mu_X5_addToPairs.1 mu_X5_addToPairs.2.1 mu_X5_addToPairs.2.2.1 mu_X5_addToPairs.2.2.2.1 ∈ ax_tb := (ax_m3 226 rfl rfl)
noncomputable def b_X5_addToPairs_3 (l1 : Int32) (l2 : Int32) (l3 : Int32) (a : Int32 × ax_S) : Option ((Int32 × ax_S) ⊕ (ax_S)) := (if l2 ≤ a.1 then some (.inr a.2) else (if ((ax_iushr l1 a.1) &&& (1 : Int32)) = 0 then some (.inl ((a.1 + 1), a.2)) else (ax_ai cx_C a.2 34 ((a.1 * (12 : Int32)) + l2)).bind (fun v30 => (ax_si cx_C a.2 34 ((a.1 * (12 : Int32)) + l2) (v30 + l3)).bind (fun s33 => some (.inl ((a.1 + 1), s33))))))
noncomputable def f_X5_addToPairs (p1 : Int32) (p2 : Int32) (p3 : Int32) (s : ax_S) : Option (ax_S) := (ax_lp (b_X5_addToPairs_3 p1 p2 p3) ((0 : Int32), s)).bind (fun e3 => some (e3))
theorem B_X5_addToPairs_3 (X : ax_G × ax_K × Option Value × ax_S) (hV : ax_ok (cx_C, X) mu_X5_addToPairs) (l1 : Int32) (l2 : Int32) (l3 : Int32) (P : ((Int32 × ax_S) ⊕ (ax_S)) → Prop) (hI : ∀ a : Int32 × ax_S, P (.inl a) → ax_At (cx_C, X) 3 [some (.ref (ax_ad (cx_C, X) 5)), some (.int l1), some (.int l2), some (.int l3), some (.int a.1)] [] a.2) (hO : ∀ e : ax_S, P (.inr e) → ax_At (cx_C, X) 40 [none, none, none, none, none] [] e) (a : Int32 × ax_S) : ax_J (cx_C, X) P 3 [some (.ref (ax_ad (cx_C, X) 5)), some (.int l1), some (.int l2), some (.int l3), some (.int a.1)] [] a.2 (b_X5_addToPairs_3 l1 l2 l3 a) := by
  unfold b_X5_addToPairs_3
  refine ax_j (ax_iload hV dX5_addToPairs_3 rfl) ?_
  refine ax_j (ax_iload_n hV dX5_addToPairs_5 rfl) ?_
  refine ax_jif (ax_icmp_ge hV dX5_addToPairs_6) ?_ ?_
  · refine ax_jf (lv' := [none, none, none, none, none]) [false, false, false, false, false] rfl ?_
    exact ax_jl (fun h => hO a.2 h)
  · refine ax_j (ax_iload_n hV dX5_addToPairs_9 rfl) ?_
    refine ax_j (ax_iload hV dX5_addToPairs_10 rfl) ?_
    refine ax_j (ax_iushr_ hV dX5_addToPairs_12) ?_
    refine ax_j (ax_iconst hV (1 : Int32) dX5_addToPairs_13 (by decide)) ?_
    refine ax_j (ax_iand hV dX5_addToPairs_14) ?_
    refine ax_jif (ax_if_eq hV dX5_addToPairs_15) ?_ ?_
    · refine ax_j (ax_iinc hV (a.1 + 1) [some (.ref (ax_ad (cx_C, X) 5)), some (.int l1), some (.int l2), some (.int l3), some (.int (a.1 + 1))] dX5_addToPairs_34 rfl rfl rfl rfl) ?_
      refine ax_j (ax_goto hV dX5_addToPairs_37) ?_
      exact ax_jl (fun h => hI ((a.1 + 1), a.2) h)
    · refine ax_j (ax_aload_n hV dX5_addToPairs_18 rfl) ?_
      refine ax_j (ax_gfr hV lf_X5_21 dX5_addToPairs_19 rfl rfl) ?_
      refine ax_j (ax_iload hV dX5_addToPairs_22 rfl) ?_
      refine ax_j (ax_bipush hV (12 : Int32) dX5_addToPairs_24 (by decide)) ?_
      refine ax_j (ax_imul hV dX5_addToPairs_26) ?_
      refine ax_j (ax_iload_n hV dX5_addToPairs_27 rfl) ?_
      refine ax_j (ax_iadd hV dX5_addToPairs_28) ?_
      refine ax_j (ax_dup2 hV dX5_addToPairs_29 rfl rfl) ?_
      refine ax_jb (ax_iald hV dX5_addToPairs_30) (fun v30 => ?_)
      refine ax_j (ax_iload_n hV dX5_addToPairs_31 rfl) ?_
      refine ax_j (ax_iadd hV dX5_addToPairs_32) ?_
      refine ax_jb (ax_iast hV dX5_addToPairs_33) (fun s33 => ?_)
      refine ax_j (ax_iinc hV (a.1 + 1) [some (.ref (ax_ad (cx_C, X) 5)), some (.int l1), some (.int l2), some (.int l3), some (.int (a.1 + 1))] dX5_addToPairs_34 rfl rfl rfl rfl) ?_
      refine ax_j (ax_goto hV dX5_addToPairs_37) ?_
      exact ax_jl (fun h => hI ((a.1 + 1), s33) h)
theorem T_X5_addToPairs (p1 : Int32) (p2 : Int32) (p3 : Int32) (s : ax_S) (r : ax_S) (h : f_X5_addToPairs p1 p2 p3 s = some r) : ax_M cx_C mu_X5_addToPairs (fun ad => [.ref (ad 5), .int p1, .int p2, .int p3]) s none r := by
  refine ax_enter (by decide +kernel) 1 (fun ad => [some (.ref (ad 5)), some (.int p1), some (.int p2), some (.int p3), none]) (fun ad => rfl) (fun ad => Nat.le_of_ble_eq_true rfl) (fun X hV ho => ?_)
  refine ax_go (fun r : ax_S => ((none : Option Value), r)) (fun P hP => ?_) h ho
  unfold f_X5_addToPairs
  refine ax_j (ax_iconst hV (0 : Int32) dX5_addToPairs_0 (by decide)) ?_
  refine ax_j (ax_istore hV [some (.ref (ax_ad (cx_C, X) 5)), some (.int p1), some (.int p2), some (.int p3), some (.int (0 : Int32))] dX5_addToPairs_1 rfl rfl) ?_
  refine ax_jlp ((0 : Int32), s) (fun x3 : Int32 × ax_S => [some (.ref (ax_ad (cx_C, X) 5)), some (.int p1), some (.int p2), some (.int p3), some (.int x3.1)]) (fun x3 : Int32 × ax_S => x3.2) (fun y3 : ax_S => [none, none, none, none, none]) (fun y3 : ax_S => y3) (fun P' h1 h2 w => B_X5_addToPairs_3 X hV p1 p2 p3 P' h1 h2 w) (fun e3 => ?_)
  exact ax_jl (fun h => ax_vr hV rfl dX5_addToPairs_40 (hP e3 h))
theorem lk_X5_57 : ax_lkV RX5 57 mu_X5_addToPairs RX5 3 := ax_lkV_of (ax_m3 223 rfl rfl) (ax_m3 225 rfl rfl) (ax_mp2 13 rfl rfl rfl) (ax_m1 6 rfl rfl) lc_X5_addToPairs rfl ⟨by decide +kernel, by decide +kernel, by decide +kernel⟩
def mu_X5_countPairs : ax_Mu := (yX5_countPairs, cX5_countPairs, 3, none, 1, 24)
theorem lc_X5_countPairs : Cond.code mu_X5_countPairs.1 mu_X5_countPairs.2.1 mu_X5_countPairs.2.2.1 mu_X5_countPairs.2.2.2.1 ∈ ax_tb := (ax_m3 222 rfl rfl)
noncomputable def b_X5_countPairs_31 (l1 : Int32) (a : Int32 × ax_S) : Option ((Int32 × ax_S) ⊕ (ax_S)) := (if (a.2.1 5 4) ≤ a.1 then some (.inr a.2) else (f_X5_mayFollow a.1 l1 a.2).bind (fun q42 => (if q42 = 0 then some (.inl ((a.1 + 1), a.2)) else (ax_ai cx_C a.2 32 l1).bind (fun v56 => (ax_ai cx_C a.2 33 (l1 ||| ((1 : Int32) <<< (a.1 &&& 31)))).bind (fun v66 => (f_X5_addToPairs l1 a.1 (v56 * v66) a.2).bind (fun q68 => some (.inl ((a.1 + 1), q68))))))))
noncomputable def b_X5_countPairs_10  (a : Int32 × ax_S) : Option ((Int32 × ax_S) ⊕ (ax_S)) := (if ((1 : Int32) <<< ((a.2.1 5 4) &&& 31)) ≤ a.1 then some (.inr a.2) else (ax_ai cx_C a.2 32 a.1).bind (fun v25 => (if v25 = 0 then some (.inl ((a.1 + 1), a.2)) else (ax_lp (b_X5_countPairs_31 a.1) ((0 : Int32), a.2)).bind (fun e31 => some (.inl ((a.1 + 1), e31))))))
noncomputable def f_X5_countPairs  (s : ax_S) : Option (ax_S) := (f_J7_fill_53178 34 (0 : Int32) s).bind (fun q5 => (ax_lp (b_X5_countPairs_10) ((0 : Int32), q5)).bind (fun e10 => some (e10)))
theorem B_X5_countPairs_31 (X : ax_G × ax_K × Option Value × ax_S) (hV : ax_ok (cx_C, X) mu_X5_countPairs) (l1 : Int32) (P : ((Int32 × ax_S) ⊕ (ax_S)) → Prop) (hI : ∀ a : Int32 × ax_S, P (.inl a) → ax_At (cx_C, X) 31 [some (.ref (ax_ad (cx_C, X) 5)), some (.int l1), some (.int a.1)] [] a.2) (hO : ∀ e : ax_S, P (.inr e) → ax_At (cx_C, X) 77 [some (.ref (ax_ad (cx_C, X) 5)), some (.int l1), none] [] e) (a : Int32 × ax_S) : ax_J (cx_C, X) P 31 [some (.ref (ax_ad (cx_C, X) 5)), some (.int l1), some (.int a.1)] [] a.2 (b_X5_countPairs_31 l1 a) := by
  unfold b_X5_countPairs_31
  refine ax_j (ax_iload_n hV dX5_countPairs_31 rfl) ?_
  refine ax_j (ax_aload_n hV dX5_countPairs_32 rfl) ?_
  refine ax_j (ax_gfi hV lf_X5_24 dX5_countPairs_33 rfl rfl) ?_
  refine ax_jif (ax_icmp_ge hV dX5_countPairs_36) ?_ ?_
  · refine ax_jf (lv' := [some (.ref (ax_ad (cx_C, X) 5)), some (.int l1), none]) [true, true, false] rfl ?_
    exact ax_jl (fun h => hO a.2 h)
  · refine ax_j (ax_aload_n hV dX5_countPairs_39 rfl) ?_
    refine ax_j (ax_iload_n hV dX5_countPairs_40 rfl) ?_
    refine ax_j (ax_iload_n hV dX5_countPairs_41 rfl) ?_
    refine ax_jb (fun v ho => ax_cVi hV lk_X5_34 rfl dX5_countPairs_42 rfl rfl [.int a.1, .int l1] [] (fun ad => [.ref (ad 5), .int a.1, .int l1]) rfl rfl rfl rfl v a.2 (T_X5_mayFollow a.1 l1 a.2 v ho)) (fun q42 => ?_)
    refine ax_jif (ax_if_eq hV dX5_countPairs_45) ?_ ?_
    · refine ax_j (ax_iinc hV (a.1 + 1) [some (.ref (ax_ad (cx_C, X) 5)), some (.int l1), some (.int (a.1 + 1))] dX5_countPairs_71 rfl rfl rfl rfl) ?_
      refine ax_j (ax_goto hV dX5_countPairs_74) ?_
      exact ax_jl (fun h => hI ((a.1 + 1), a.2) h)
    · refine ax_j (ax_aload_n hV dX5_countPairs_48 rfl) ?_
      refine ax_j (ax_iload_n hV dX5_countPairs_49 rfl) ?_
      refine ax_j (ax_iload_n hV dX5_countPairs_50 rfl) ?_
      refine ax_j (ax_aload_n hV dX5_countPairs_51 rfl) ?_
      refine ax_j (ax_gfr hV lf_X5_15 dX5_countPairs_52 rfl rfl) ?_
      refine ax_j (ax_iload_n hV dX5_countPairs_55 rfl) ?_
      refine ax_jb (ax_iald hV dX5_countPairs_56) (fun v56 => ?_)
      refine ax_j (ax_aload_n hV dX5_countPairs_57 rfl) ?_
      refine ax_j (ax_gfr hV lf_X5_18 dX5_countPairs_58 rfl rfl) ?_
      refine ax_j (ax_iload_n hV dX5_countPairs_61 rfl) ?_
      refine ax_j (ax_iconst hV (1 : Int32) dX5_countPairs_62 (by decide)) ?_
      refine ax_j (ax_iload_n hV dX5_countPairs_63 rfl) ?_
      refine ax_j (ax_ishl hV dX5_countPairs_64) ?_
      refine ax_j (ax_ior hV dX5_countPairs_65) ?_
      refine ax_jb (ax_iald hV dX5_countPairs_66) (fun v66 => ?_)
      refine ax_j (ax_imul hV dX5_countPairs_67) ?_
      refine ax_jb (fun v ho => ax_cVv hV lk_X5_57 rfl dX5_countPairs_68 rfl rfl [.int l1, .int a.1, .int (v56 * v66)] [] (fun ad => [.ref (ad 5), .int l1, .int a.1, .int (v56 * v66)]) rfl rfl rfl rfl v (T_X5_addToPairs l1 a.1 (v56 * v66) a.2 v ho)) (fun q68 => ?_)
      refine ax_j (ax_iinc hV (a.1 + 1) [some (.ref (ax_ad (cx_C, X) 5)), some (.int l1), some (.int (a.1 + 1))] dX5_countPairs_71 rfl rfl rfl rfl) ?_
      refine ax_j (ax_goto hV dX5_countPairs_74) ?_
      exact ax_jl (fun h => hI ((a.1 + 1), q68) h)
theorem B_X5_countPairs_10 (X : ax_G × ax_K × Option Value × ax_S) (hV : ax_ok (cx_C, X) mu_X5_countPairs)  (P : ((Int32 × ax_S) ⊕ (ax_S)) → Prop) (hI : ∀ a : Int32 × ax_S, P (.inl a) → ax_At (cx_C, X) 10 [some (.ref (ax_ad (cx_C, X) 5)), some (.int a.1), none] [] a.2) (hO : ∀ e : ax_S, P (.inr e) → ax_At (cx_C, X) 83 [none, none, none] [] e) (a : Int32 × ax_S) : ax_J (cx_C, X) P 10 [some (.ref (ax_ad (cx_C, X) 5)), some (.int a.1), none] [] a.2 (b_X5_countPairs_10 a) := by
  unfold b_X5_countPairs_10
  refine ax_j (ax_iload_n hV dX5_countPairs_10 rfl) ?_
  refine ax_j (ax_iconst hV (1 : Int32) dX5_countPairs_11 (by decide)) ?_
  refine ax_j (ax_aload_n hV dX5_countPairs_12 rfl) ?_
  refine ax_j (ax_gfi hV lf_X5_24 dX5_countPairs_13 rfl rfl) ?_
  refine ax_j (ax_ishl hV dX5_countPairs_16) ?_
  refine ax_jif (ax_icmp_ge hV dX5_countPairs_17) ?_ ?_
  · refine ax_jf (lv' := [none, none, none]) [false, false, false] rfl ?_
    exact ax_jl (fun h => hO a.2 h)
  · refine ax_j (ax_aload_n hV dX5_countPairs_20 rfl) ?_
    refine ax_j (ax_gfr hV lf_X5_15 dX5_countPairs_21 rfl rfl) ?_
    refine ax_j (ax_iload_n hV dX5_countPairs_24 rfl) ?_
    refine ax_jb (ax_iald hV dX5_countPairs_25) (fun v25 => ?_)
    refine ax_jif (ax_if_eq hV dX5_countPairs_26) ?_ ?_
    · refine ax_j (ax_iinc hV (a.1 + 1) [some (.ref (ax_ad (cx_C, X) 5)), some (.int (a.1 + 1)), none] dX5_countPairs_77 rfl rfl rfl rfl) ?_
      refine ax_j (ax_goto hV dX5_countPairs_80) ?_
      exact ax_jl (fun h => hI ((a.1 + 1), a.2) h)
    · refine ax_j (ax_iconst hV (0 : Int32) dX5_countPairs_29 (by decide)) ?_
      refine ax_j (ax_istore_n hV [some (.ref (ax_ad (cx_C, X) 5)), some (.int a.1), some (.int (0 : Int32))] dX5_countPairs_30 rfl rfl) ?_
      refine ax_jlp ((0 : Int32), a.2) (fun x31 : Int32 × ax_S => [some (.ref (ax_ad (cx_C, X) 5)), some (.int a.1), some (.int x31.1)]) (fun x31 : Int32 × ax_S => x31.2) (fun y31 : ax_S => [some (.ref (ax_ad (cx_C, X) 5)), some (.int a.1), none]) (fun y31 : ax_S => y31) (fun P' h1 h2 w => B_X5_countPairs_31 X hV a.1 P' h1 h2 w) (fun e31 => ?_)
      refine ax_j (ax_iinc hV (a.1 + 1) [some (.ref (ax_ad (cx_C, X) 5)), some (.int (a.1 + 1)), none] dX5_countPairs_77 rfl rfl rfl rfl) ?_
      refine ax_j (ax_goto hV dX5_countPairs_80) ?_
      exact ax_jl (fun h => hI ((a.1 + 1), e31) h)
theorem T_X5_countPairs  (s : ax_S) (r : ax_S) (h : f_X5_countPairs s = some r) : ax_M cx_C mu_X5_countPairs (fun ad => [.ref (ad 5)]) s none r := by
  refine ax_enter (by decide +kernel) 2 (fun ad => [some (.ref (ad 5)), none, none]) (fun ad => rfl) (fun ad => Nat.le_of_ble_eq_true rfl) (fun X hV ho => ?_)
  refine ax_go (fun r : ax_S => ((none : Option Value), r)) (fun P hP => ?_) h ho
  unfold f_X5_countPairs
  refine ax_j (ax_aload_n hV dX5_countPairs_0 rfl) ?_
  refine ax_j (ax_gfr hV lf_X5_21 dX5_countPairs_1 rfl rfl) ?_
  refine ax_j (ax_iconst hV (0 : Int32) dX5_countPairs_4 (by decide)) ?_
  refine ax_jb (fun v ho => ax_cSv hV lk_X5_28 rfl dX5_countPairs_5 [.ref (ax_ad (cx_C, X) 34), .int (0 : Int32)] [] (fun ad => [.ref (ad 34), .int (0 : Int32)]) rfl rfl rfl rfl v (T_J7_fill_53178 34 (0 : Int32) s v ho)) (fun q5 => ?_)
  refine ax_j (ax_iconst hV (0 : Int32) dX5_countPairs_8 (by decide)) ?_
  refine ax_j (ax_istore_n hV [some (.ref (ax_ad (cx_C, X) 5)), some (.int (0 : Int32)), none] dX5_countPairs_9 rfl rfl) ?_
  refine ax_jlp ((0 : Int32), q5) (fun x10 : Int32 × ax_S => [some (.ref (ax_ad (cx_C, X) 5)), some (.int x10.1), none]) (fun x10 : Int32 × ax_S => x10.2) (fun y10 : ax_S => [none, none, none]) (fun y10 : ax_S => y10) (fun P' h1 h2 w => B_X5_countPairs_10 X hV  P' h1 h2 w) (fun e10 => ?_)
  exact ax_jl (fun h => ax_vr hV rfl dX5_countPairs_83 (hP e10 h))
theorem lk_X5_45 : ax_lkV RX5 45 mu_X5_countPairs RX5 0 := ax_lkV_of (ax_m3 219 rfl rfl) (ax_m3 221 rfl rfl) (ax_mp2 12 rfl rfl rfl) (ax_m1 6 rfl rfl) lc_X5_countPairs rfl ⟨by decide +kernel, by decide +kernel, by decide +kernel⟩
def mu_X5_isSure : ax_Mu := (yX5_isSure, cX5_isSure, 3, some .boolean, 0, 0)
theorem lc_X5_isSure : Cond.code mu_X5_isSure.1 mu_X5_isSure.2.1 mu_X5_isSure.2.2.1 mu_X5_isSure.2.2.2.1 ∈ ax_tb := (ax_m3 231 rfl rfl)
noncomputable def f_X5_isSure (p1 : Int32) (p2 : Int32) (s : ax_S) : Option (Int32) := (ax_ai cx_C s 31 p2).bind (fun v5 => (if ((ax_iushr v5 p1) &&& (1 : Int32)) = 0 then (ax_ai cx_C s 31 p1).bind (fun v18 => (if ((ax_iushr v18 p2) &&& (1 : Int32)) = 0 then some ((0 : Int32)) else some ((1 : Int32)))) else some ((1 : Int32))))
theorem T_X5_isSure (p1 : Int32) (p2 : Int32) (s : ax_S) (r : Int32) (h : f_X5_isSure p1 p2 s = some r) : ax_M cx_C mu_X5_isSure (fun ad => [.ref (ad 5), .int p1, .int p2]) s (some (.int r)) s := by
  refine ax_enter (by decide +kernel) 0 (fun ad => [some (.ref (ad 5)), some (.int p1), some (.int p2)]) (fun ad => rfl) (fun ad => Nat.le_of_ble_eq_true rfl) (fun X hV ho => ?_)
  refine ax_go (fun r : Int32 => (some (Value.int r), s)) (fun P hP => ?_) h ho
  unfold f_X5_isSure
  refine ax_j (ax_aload_n hV dX5_isSure_0 rfl) ?_
  refine ax_j (ax_gfr hV lf_X5_9 dX5_isSure_1 rfl rfl) ?_
  refine ax_j (ax_iload_n hV dX5_isSure_4 rfl) ?_
  refine ax_jb (ax_iald hV dX5_isSure_5) (fun v5 => ?_)
  refine ax_j (ax_iload_n hV dX5_isSure_6 rfl) ?_
  refine ax_j (ax_iushr_ hV dX5_isSure_7) ?_
  refine ax_j (ax_iconst hV (1 : Int32) dX5_isSure_8 (by decide)) ?_
  refine ax_j (ax_iand hV dX5_isSure_9) ?_
  refine ax_jif (ax_if_ne hV dX5_isSure_10) ?_ ?_
  · refine ax_j (ax_aload_n hV dX5_isSure_13 rfl) ?_
    refine ax_j (ax_gfr hV lf_X5_9 dX5_isSure_14 rfl rfl) ?_
    refine ax_j (ax_iload_n hV dX5_isSure_17 rfl) ?_
    refine ax_jb (ax_iald hV dX5_isSure_18) (fun v18 => ?_)
    refine ax_j (ax_iload_n hV dX5_isSure_19 rfl) ?_
    refine ax_j (ax_iushr_ hV dX5_isSure_20) ?_
    refine ax_j (ax_iconst hV (1 : Int32) dX5_isSure_21 (by decide)) ?_
    refine ax_j (ax_iand hV dX5_isSure_22) ?_
    refine ax_jif (ax_if_eq hV dX5_isSure_23) ?_ ?_
    · refine ax_j (ax_iconst hV (0 : Int32) dX5_isSure_30 (by decide)) ?_
      exact ax_jl (fun h => ax_zr hV rfl (by decide) dX5_isSure_31 (hP (0 : Int32) h))
    · refine ax_j (ax_iconst hV (1 : Int32) dX5_isSure_26 (by decide)) ?_
      refine ax_j (ax_goto hV dX5_isSure_27) ?_
      exact ax_jl (fun h => ax_zr hV rfl (by decide) dX5_isSure_31 (hP (1 : Int32) h))
  · refine ax_j (ax_iconst hV (1 : Int32) dX5_isSure_26 (by decide)) ?_
    refine ax_j (ax_goto hV dX5_isSure_27) ?_
    exact ax_jl (fun h => ax_zr hV rfl (by decide) dX5_isSure_31 (hP (1 : Int32) h))
theorem lk_X5_54 : ax_lkV RX5 54 mu_X5_isSure RX5 2 := ax_lkV_of (ax_m3 228 rfl rfl) (ax_m3 230 rfl rfl) (ax_mp2 14 rfl rfl rfl) (ax_m1 6 rfl rfl) lc_X5_isSure rfl ⟨by decide +kernel, by decide +kernel, by decide +kernel⟩
def mu_X5_bestPair : ax_Mu := (yX5_bestPair, cX5_bestPair, 8, some .int, 2, 46)
theorem lc_X5_bestPair : Cond.code mu_X5_bestPair.1 mu_X5_bestPair.2.1 mu_X5_bestPair.2.2.1 mu_X5_bestPair.2.2.2.1 ∈ ax_tb := (ax_m3 213 rfl rfl)
noncomputable def b_X5_bestPair_36 (l1 : Int32) (l4 : Int32) (s : ax_S) (a : Int32 × Int32 × Int32) : Option ((Int32 × Int32 × Int32) ⊕ (Int32 × Int32)) := (if (s.1 5 4) ≤ a.2.2 then some (.inr (a.1, a.2.1)) else (ax_ai cx_C s 34 ((l4 * (12 : Int32)) + a.2.2)).bind (fun v57 => (f_X5_isSure l4 a.2.2 s).bind (fun q76 => (if q76 = 0 then (if a.1 = (-1 : Int32) then some (.inl ((((100 : Int32) * l4) + a.2.2), (ax_max v57 (l1 - v57)), (a.2.2 + 1))) else (if a.2.1 ≤ (ax_max v57 (l1 - v57)) then some (.inl (a.1, a.2.1, (a.2.2 + 1))) else some (.inl ((((100 : Int32) * l4) + a.2.2), (ax_max v57 (l1 - v57)), (a.2.2 + 1))))) else some (.inl (a.1, a.2.1, (a.2.2 + 1)))))))
noncomputable def b_X5_bestPair_21 (l1 : Int32) (s : ax_S) (a : Int32 × Int32 × Int32) : Option ((Int32 × Int32 × Int32) ⊕ (Int32)) := (if (s.1 5 4) ≤ a.2.2 then some (.inr a.1) else (ax_lp (b_X5_bestPair_36 l1 a.2.2 s) (a.1, a.2.1, (a.2.2 + (1 : Int32)))).bind (fun e36 => some (.inl (e36.1, e36.2, (a.2.2 + 1)))))
noncomputable def f_X5_bestPair  (s : ax_S) : Option (Int32 × ax_S) := (f_X5_waysFrom (0 : Int32) s).bind (fun q2 => (f_X5_countWaysOn q2.2).bind (fun q7 => (f_X5_countPairs q7).bind (fun q11 => (ax_lp (b_X5_bestPair_21 q2.1 q11) ((-1 : Int32), (0 : Int32), (0 : Int32))).bind (fun e21 => some ((e21, q11))))))
theorem B_X5_bestPair_36 (X : ax_G × ax_K × Option Value × ax_S) (hV : ax_ok (cx_C, X) mu_X5_bestPair) (l1 : Int32) (l4 : Int32) (s : ax_S) (P : ((Int32 × Int32 × Int32) ⊕ (Int32 × Int32)) → Prop) (hI : ∀ a : Int32 × Int32 × Int32, P (.inl a) → ax_At (cx_C, X) 36 [some (.ref (ax_ad (cx_C, X) 5)), some (.int l1), some (.int a.1), some (.int a.2.1), some (.int l4), some (.int a.2.2), none, none] [] s) (hO : ∀ e : Int32 × Int32, P (.inr e) → ax_At (cx_C, X) 111 [some (.ref (ax_ad (cx_C, X) 5)), some (.int l1), some (.int e.1), some (.int e.2), some (.int l4), none, none, none] [] s) (a : Int32 × Int32 × Int32) : ax_J (cx_C, X) P 36 [some (.ref (ax_ad (cx_C, X) 5)), some (.int l1), some (.int a.1), some (.int a.2.1), some (.int l4), some (.int a.2.2), none, none] [] s (b_X5_bestPair_36 l1 l4 s a) := by
  unfold b_X5_bestPair_36
  refine ax_j (ax_iload hV dX5_bestPair_36 rfl) ?_
  refine ax_j (ax_aload_n hV dX5_bestPair_38 rfl) ?_
  refine ax_j (ax_gfi hV lf_X5_24 dX5_bestPair_39 rfl rfl) ?_
  refine ax_jif (ax_icmp_ge hV dX5_bestPair_42) ?_ ?_
  · refine ax_jf (lv' := [some (.ref (ax_ad (cx_C, X) 5)), some (.int l1), some (.int a.1), some (.int a.2.1), some (.int l4), none, none, none]) [true, true, true, true, true, false, false, false] rfl ?_
    exact ax_jl (fun h => hO (a.1, a.2.1) h)
  · refine ax_j (ax_aload_n hV dX5_bestPair_45 rfl) ?_
    refine ax_j (ax_gfr hV lf_X5_21 dX5_bestPair_46 rfl rfl) ?_
    refine ax_j (ax_iload hV dX5_bestPair_49 rfl) ?_
    refine ax_j (ax_bipush hV (12 : Int32) dX5_bestPair_51 (by decide)) ?_
    refine ax_j (ax_imul hV dX5_bestPair_53) ?_
    refine ax_j (ax_iload hV dX5_bestPair_54 rfl) ?_
    refine ax_j (ax_iadd hV dX5_bestPair_56) ?_
    refine ax_jb (ax_iald hV dX5_bestPair_57) (fun v57 => ?_)
    refine ax_j (ax_istore hV [some (.ref (ax_ad (cx_C, X) 5)), some (.int l1), some (.int a.1), some (.int a.2.1), some (.int l4), some (.int a.2.2), some (.int v57), none] dX5_bestPair_58 rfl rfl) ?_
    refine ax_j (ax_iload hV dX5_bestPair_60 rfl) ?_
    refine ax_j (ax_iload_n hV dX5_bestPair_62 rfl) ?_
    refine ax_j (ax_iload hV dX5_bestPair_63 rfl) ?_
    refine ax_j (ax_isub hV dX5_bestPair_65) ?_
    refine ax_j (ax_mmax hV lm_X5_48 rfl dX5_bestPair_66) ?_
    refine ax_j (ax_istore hV [some (.ref (ax_ad (cx_C, X) 5)), some (.int l1), some (.int a.1), some (.int a.2.1), some (.int l4), some (.int a.2.2), some (.int v57), some (.int (ax_max v57 (l1 - v57)))] dX5_bestPair_69 rfl rfl) ?_
    refine ax_j (ax_aload_n hV dX5_bestPair_71 rfl) ?_
    refine ax_j (ax_iload hV dX5_bestPair_72 rfl) ?_
    refine ax_j (ax_iload hV dX5_bestPair_74 rfl) ?_
    refine ax_jb (fun v ho => ax_cVi hV lk_X5_54 rfl dX5_bestPair_76 rfl rfl [.int l4, .int a.2.2] [] (fun ad => [.ref (ad 5), .int l4, .int a.2.2]) rfl rfl rfl rfl v s (T_X5_isSure l4 a.2.2 s v ho)) (fun q76 => ?_)
    refine ax_jif (ax_if_ne hV dX5_bestPair_79) ?_ ?_
    · refine ax_j (ax_iload_n hV dX5_bestPair_82 rfl) ?_
      refine ax_j (ax_iconst hV (-1 : Int32) dX5_bestPair_83 (by decide)) ?_
      refine ax_jif (ax_icmp_eq hV dX5_bestPair_84) ?_ ?_
      · refine ax_j (ax_bipush hV (100 : Int32) dX5_bestPair_93 (by decide)) ?_
        refine ax_j (ax_iload hV dX5_bestPair_95 rfl) ?_
        refine ax_j (ax_imul hV dX5_bestPair_97) ?_
        refine ax_j (ax_iload hV dX5_bestPair_98 rfl) ?_
        refine ax_j (ax_iadd hV dX5_bestPair_100) ?_
        refine ax_j (ax_istore_n hV [some (.ref (ax_ad (cx_C, X) 5)), some (.int l1), some (.int (((100 : Int32) * l4) + a.2.2)), some (.int a.2.1), some (.int l4), some (.int a.2.2), some (.int v57), some (.int (ax_max v57 (l1 - v57)))] dX5_bestPair_101 rfl rfl) ?_
        refine ax_j (ax_iload hV dX5_bestPair_102 rfl) ?_
        refine ax_j (ax_istore_n hV [some (.ref (ax_ad (cx_C, X) 5)), some (.int l1), some (.int (((100 : Int32) * l4) + a.2.2)), some (.int (ax_max v57 (l1 - v57))), some (.int l4), some (.int a.2.2), some (.int v57), some (.int (ax_max v57 (l1 - v57)))] dX5_bestPair_104 rfl rfl) ?_
        refine ax_j (ax_iinc hV (a.2.2 + 1) [some (.ref (ax_ad (cx_C, X) 5)), some (.int l1), some (.int (((100 : Int32) * l4) + a.2.2)), some (.int (ax_max v57 (l1 - v57))), some (.int l4), some (.int (a.2.2 + 1)), some (.int v57), some (.int (ax_max v57 (l1 - v57)))] dX5_bestPair_105 rfl rfl rfl rfl) ?_
        refine ax_j (ax_goto hV dX5_bestPair_108) ?_
        refine ax_jf (lv' := [some (.ref (ax_ad (cx_C, X) 5)), some (.int l1), some (.int (((100 : Int32) * l4) + a.2.2)), some (.int (ax_max v57 (l1 - v57))), some (.int l4), some (.int (a.2.2 + 1)), none, none]) [true, true, true, true, true, true, false, false] rfl ?_
        exact ax_jl (fun h => hI ((((100 : Int32) * l4) + a.2.2), (ax_max v57 (l1 - v57)), (a.2.2 + 1)) h)
      · refine ax_j (ax_iload hV dX5_bestPair_87 rfl) ?_
        refine ax_j (ax_iload_n hV dX5_bestPair_89 rfl) ?_
        refine ax_jif (ax_icmp_ge hV dX5_bestPair_90) ?_ ?_
        · refine ax_j (ax_iinc hV (a.2.2 + 1) [some (.ref (ax_ad (cx_C, X) 5)), some (.int l1), some (.int a.1), some (.int a.2.1), some (.int l4), some (.int (a.2.2 + 1)), some (.int v57), some (.int (ax_max v57 (l1 - v57)))] dX5_bestPair_105 rfl rfl rfl rfl) ?_
          refine ax_j (ax_goto hV dX5_bestPair_108) ?_
          refine ax_jf (lv' := [some (.ref (ax_ad (cx_C, X) 5)), some (.int l1), some (.int a.1), some (.int a.2.1), some (.int l4), some (.int (a.2.2 + 1)), none, none]) [true, true, true, true, true, true, false, false] rfl ?_
          exact ax_jl (fun h => hI (a.1, a.2.1, (a.2.2 + 1)) h)
        · refine ax_j (ax_bipush hV (100 : Int32) dX5_bestPair_93 (by decide)) ?_
          refine ax_j (ax_iload hV dX5_bestPair_95 rfl) ?_
          refine ax_j (ax_imul hV dX5_bestPair_97) ?_
          refine ax_j (ax_iload hV dX5_bestPair_98 rfl) ?_
          refine ax_j (ax_iadd hV dX5_bestPair_100) ?_
          refine ax_j (ax_istore_n hV [some (.ref (ax_ad (cx_C, X) 5)), some (.int l1), some (.int (((100 : Int32) * l4) + a.2.2)), some (.int a.2.1), some (.int l4), some (.int a.2.2), some (.int v57), some (.int (ax_max v57 (l1 - v57)))] dX5_bestPair_101 rfl rfl) ?_
          refine ax_j (ax_iload hV dX5_bestPair_102 rfl) ?_
          refine ax_j (ax_istore_n hV [some (.ref (ax_ad (cx_C, X) 5)), some (.int l1), some (.int (((100 : Int32) * l4) + a.2.2)), some (.int (ax_max v57 (l1 - v57))), some (.int l4), some (.int a.2.2), some (.int v57), some (.int (ax_max v57 (l1 - v57)))] dX5_bestPair_104 rfl rfl) ?_
          refine ax_j (ax_iinc hV (a.2.2 + 1) [some (.ref (ax_ad (cx_C, X) 5)), some (.int l1), some (.int (((100 : Int32) * l4) + a.2.2)), some (.int (ax_max v57 (l1 - v57))), some (.int l4), some (.int (a.2.2 + 1)), some (.int v57), some (.int (ax_max v57 (l1 - v57)))] dX5_bestPair_105 rfl rfl rfl rfl) ?_
          refine ax_j (ax_goto hV dX5_bestPair_108) ?_
          refine ax_jf (lv' := [some (.ref (ax_ad (cx_C, X) 5)), some (.int l1), some (.int (((100 : Int32) * l4) + a.2.2)), some (.int (ax_max v57 (l1 - v57))), some (.int l4), some (.int (a.2.2 + 1)), none, none]) [true, true, true, true, true, true, false, false] rfl ?_
          exact ax_jl (fun h => hI ((((100 : Int32) * l4) + a.2.2), (ax_max v57 (l1 - v57)), (a.2.2 + 1)) h)
    · refine ax_j (ax_iinc hV (a.2.2 + 1) [some (.ref (ax_ad (cx_C, X) 5)), some (.int l1), some (.int a.1), some (.int a.2.1), some (.int l4), some (.int (a.2.2 + 1)), some (.int v57), some (.int (ax_max v57 (l1 - v57)))] dX5_bestPair_105 rfl rfl rfl rfl) ?_
      refine ax_j (ax_goto hV dX5_bestPair_108) ?_
      refine ax_jf (lv' := [some (.ref (ax_ad (cx_C, X) 5)), some (.int l1), some (.int a.1), some (.int a.2.1), some (.int l4), some (.int (a.2.2 + 1)), none, none]) [true, true, true, true, true, true, false, false] rfl ?_
      exact ax_jl (fun h => hI (a.1, a.2.1, (a.2.2 + 1)) h)
theorem B_X5_bestPair_21 (X : ax_G × ax_K × Option Value × ax_S) (hV : ax_ok (cx_C, X) mu_X5_bestPair) (l1 : Int32) (s : ax_S) (P : ((Int32 × Int32 × Int32) ⊕ (Int32)) → Prop) (hI : ∀ a : Int32 × Int32 × Int32, P (.inl a) → ax_At (cx_C, X) 21 [some (.ref (ax_ad (cx_C, X) 5)), some (.int l1), some (.int a.1), some (.int a.2.1), some (.int a.2.2), none, none, none] [] s) (hO : ∀ e : Int32, P (.inr e) → ax_At (cx_C, X) 117 [none, none, some (.int e), none, none, none, none, none] [] s) (a : Int32 × Int32 × Int32) : ax_J (cx_C, X) P 21 [some (.ref (ax_ad (cx_C, X) 5)), some (.int l1), some (.int a.1), some (.int a.2.1), some (.int a.2.2), none, none, none] [] s (b_X5_bestPair_21 l1 s a) := by
  unfold b_X5_bestPair_21
  refine ax_j (ax_iload hV dX5_bestPair_21 rfl) ?_
  refine ax_j (ax_aload_n hV dX5_bestPair_23 rfl) ?_
  refine ax_j (ax_gfi hV lf_X5_24 dX5_bestPair_24 rfl rfl) ?_
  refine ax_jif (ax_icmp_ge hV dX5_bestPair_27) ?_ ?_
  · refine ax_jf (lv' := [none, none, some (.int a.1), none, none, none, none, none]) [false, false, true, false, false, false, false, false] rfl ?_
    exact ax_jl (fun h => hO a.1 h)
  · refine ax_j (ax_iload hV dX5_bestPair_30 rfl) ?_
    refine ax_j (ax_iconst hV (1 : Int32) dX5_bestPair_32 (by decide)) ?_
    refine ax_j (ax_iadd hV dX5_bestPair_33) ?_
    refine ax_j (ax_istore hV [some (.ref (ax_ad (cx_C, X) 5)), some (.int l1), some (.int a.1), some (.int a.2.1), some (.int a.2.2), some (.int (a.2.2 + (1 : Int32))), none, none] dX5_bestPair_34 rfl rfl) ?_
    refine ax_jlp (a.1, a.2.1, (a.2.2 + (1 : Int32))) (fun x36 : Int32 × Int32 × Int32 => [some (.ref (ax_ad (cx_C, X) 5)), some (.int l1), some (.int x36.1), some (.int x36.2.1), some (.int a.2.2), some (.int x36.2.2), none, none]) (fun x36 : Int32 × Int32 × Int32 => s) (fun y36 : Int32 × Int32 => [some (.ref (ax_ad (cx_C, X) 5)), some (.int l1), some (.int y36.1), some (.int y36.2), some (.int a.2.2), none, none, none]) (fun y36 : Int32 × Int32 => s) (fun P' h1 h2 w => B_X5_bestPair_36 X hV l1 a.2.2 s P' h1 h2 w) (fun e36 => ?_)
    refine ax_j (ax_iinc hV (a.2.2 + 1) [some (.ref (ax_ad (cx_C, X) 5)), some (.int l1), some (.int e36.1), some (.int e36.2), some (.int (a.2.2 + 1)), none, none, none] dX5_bestPair_111 rfl rfl rfl rfl) ?_
    refine ax_j (ax_goto hV dX5_bestPair_114) ?_
    exact ax_jl (fun h => hI (e36.1, e36.2, (a.2.2 + 1)) h)
theorem T_X5_bestPair  (s : ax_S) (r : Int32 × ax_S) (h : f_X5_bestPair s = some r) : ax_M cx_C mu_X5_bestPair (fun ad => [.ref (ad 5)]) s (some (.int r.1)) r.2 := by
  refine ax_enter (by decide +kernel) 7 (fun ad => [some (.ref (ad 5)), none, none, none, none, none, none, none]) (fun ad => rfl) (fun ad => Nat.le_of_ble_eq_true rfl) (fun X hV ho => ?_)
  refine ax_go (fun r : Int32 × ax_S => (some (Value.int r.1), r.2)) (fun P hP => ?_) h ho
  unfold f_X5_bestPair
  refine ax_j (ax_aload_n hV dX5_bestPair_0 rfl) ?_
  refine ax_j (ax_iconst hV (0 : Int32) dX5_bestPair_1 (by decide)) ?_
  refine ax_jb (fun v ho => ax_cVi hV lk_X5_38 rfl dX5_bestPair_2 rfl rfl [.int (0 : Int32)] [] (fun ad => [.ref (ad 5), .int (0 : Int32)]) rfl rfl rfl rfl v.1 v.2 (T_X5_waysFrom (0 : Int32) s v ho)) (fun q2 => ?_)
  refine ax_j (ax_istore_n hV [some (.ref (ax_ad (cx_C, X) 5)), some (.int q2.1), none, none, none, none, none, none] dX5_bestPair_5 rfl rfl) ?_
  refine ax_j (ax_aload_n hV dX5_bestPair_6 rfl) ?_
  refine ax_jb (fun v ho => ax_cVv hV lk_X5_42 rfl dX5_bestPair_7 rfl rfl [] [] (fun ad => [.ref (ad 5)]) rfl rfl rfl rfl v (T_X5_countWaysOn q2.2 v ho)) (fun q7 => ?_)
  refine ax_j (ax_aload_n hV dX5_bestPair_10 rfl) ?_
  refine ax_jb (fun v ho => ax_cVv hV lk_X5_45 rfl dX5_bestPair_11 rfl rfl [] [] (fun ad => [.ref (ad 5)]) rfl rfl rfl rfl v (T_X5_countPairs q7 v ho)) (fun q11 => ?_)
  refine ax_j (ax_iconst hV (-1 : Int32) dX5_bestPair_14 (by decide)) ?_
  refine ax_j (ax_istore_n hV [some (.ref (ax_ad (cx_C, X) 5)), some (.int q2.1), some (.int (-1 : Int32)), none, none, none, none, none] dX5_bestPair_15 rfl rfl) ?_
  refine ax_j (ax_iconst hV (0 : Int32) dX5_bestPair_16 (by decide)) ?_
  refine ax_j (ax_istore_n hV [some (.ref (ax_ad (cx_C, X) 5)), some (.int q2.1), some (.int (-1 : Int32)), some (.int (0 : Int32)), none, none, none, none] dX5_bestPair_17 rfl rfl) ?_
  refine ax_j (ax_iconst hV (0 : Int32) dX5_bestPair_18 (by decide)) ?_
  refine ax_j (ax_istore hV [some (.ref (ax_ad (cx_C, X) 5)), some (.int q2.1), some (.int (-1 : Int32)), some (.int (0 : Int32)), some (.int (0 : Int32)), none, none, none] dX5_bestPair_19 rfl rfl) ?_
  refine ax_jlp ((-1 : Int32), (0 : Int32), (0 : Int32)) (fun x21 : Int32 × Int32 × Int32 => [some (.ref (ax_ad (cx_C, X) 5)), some (.int q2.1), some (.int x21.1), some (.int x21.2.1), some (.int x21.2.2), none, none, none]) (fun x21 : Int32 × Int32 × Int32 => q11) (fun y21 : Int32 => [none, none, some (.int y21), none, none, none, none, none]) (fun y21 : Int32 => q11) (fun P' h1 h2 w => B_X5_bestPair_21 X hV q2.1 q11 P' h1 h2 w) (fun e21 => ?_)
  refine ax_j (ax_iload_n hV dX5_bestPair_117 rfl) ?_
  exact ax_jl (fun h => ax_ir hV rfl dX5_bestPair_118 (hP (e21, q11) h))
theorem lk_X9_260 : ax_lkV RX9 260 mu_X5_bestPair RX5 0 := ax_lkV_of (ax_m3 210 rfl rfl) (ax_m3 211 rfl rfl) (ax_m3 212 rfl rfl) (ax_m1 6 rfl rfl) lc_X5_bestPair rfl ⟨by decide +kernel, by decide +kernel, by decide +kernel⟩
def mu_X6_turnFloorInto : ax_Mu := (yX6_turnFloorInto, cX6_turnFloorInto, 3, none, 0, 0)
theorem lc_X6_turnFloorInto : Cond.code mu_X6_turnFloorInto.1 mu_X6_turnFloorInto.2.1 mu_X6_turnFloorInto.2.2.1 mu_X6_turnFloorInto.2.2.2.1 ∈ ax_tb := (ax_m2 231 rfl rfl)
noncomputable def b_X6_turnFloorInto_2 (p1 : Nat) (a : Int32 × ax_S) : Option ((Int32 × ax_S) ⊕ (ax_S)) := (if (18 : Int32) ≤ a.1 then some (.inr a.2) else (ax_ai cx_C a.2 13 a.1).bind (fun v15 => (ax_si cx_C a.2 p1 a.1 (-v15)).bind (fun s17 => some (.inl ((a.1 + 1), s17)))))
noncomputable def f_X6_turnFloorInto (p1 : Nat) (s : ax_S) : Option (ax_S) := (ax_lp (b_X6_turnFloorInto_2 p1) ((0 : Int32), s)).bind (fun e2 => some (e2))
theorem B_X6_turnFloorInto_2 (X : ax_G × ax_K × Option Value × ax_S) (hV : ax_ok (cx_C, X) mu_X6_turnFloorInto) (p1 : Nat) (P : ((Int32 × ax_S) ⊕ (ax_S)) → Prop) (hI : ∀ a : Int32 × ax_S, P (.inl a) → ax_At (cx_C, X) 2 [some (.ref (ax_ad (cx_C, X) 1)), some (.ref (ax_ad (cx_C, X) p1)), some (.int a.1)] [] a.2) (hO : ∀ e : ax_S, P (.inr e) → ax_At (cx_C, X) 24 [none, none, none] [] e) (a : Int32 × ax_S) : ax_J (cx_C, X) P 2 [some (.ref (ax_ad (cx_C, X) 1)), some (.ref (ax_ad (cx_C, X) p1)), some (.int a.1)] [] a.2 (b_X6_turnFloorInto_2 p1 a) := by
  unfold b_X6_turnFloorInto_2
  refine ax_j (ax_iload_n hV dX6_turnFloorInto_2 rfl) ?_
  refine ax_j (ax_bipush hV (18 : Int32) dX6_turnFloorInto_3 (by decide)) ?_
  refine ax_jif (ax_icmp_ge hV dX6_turnFloorInto_5) ?_ ?_
  · refine ax_jf (lv' := [none, none, none]) [false, false, false] rfl ?_
    exact ax_jl (fun h => hO a.2 h)
  · refine ax_j (ax_aload_n hV dX6_turnFloorInto_8 rfl) ?_
    refine ax_j (ax_iload_n hV dX6_turnFloorInto_9 rfl) ?_
    refine ax_j (ax_aload_n hV dX6_turnFloorInto_10 rfl) ?_
    refine ax_j (ax_gfr hV lf_X6_42 dX6_turnFloorInto_11 rfl rfl) ?_
    refine ax_j (ax_iload_n hV dX6_turnFloorInto_14 rfl) ?_
    refine ax_jb (ax_iald hV dX6_turnFloorInto_15) (fun v15 => ?_)
    refine ax_j (ax_ineg hV dX6_turnFloorInto_16) ?_
    refine ax_jb (ax_iast hV dX6_turnFloorInto_17) (fun s17 => ?_)
    refine ax_j (ax_iinc hV (a.1 + 1) [some (.ref (ax_ad (cx_C, X) 1)), some (.ref (ax_ad (cx_C, X) p1)), some (.int (a.1 + 1))] dX6_turnFloorInto_18 rfl rfl rfl rfl) ?_
    refine ax_j (ax_goto hV dX6_turnFloorInto_21) ?_
    exact ax_jl (fun h => hI ((a.1 + 1), s17) h)
theorem T_X6_turnFloorInto (p1 : Nat) (s : ax_S) (r : ax_S) (h : f_X6_turnFloorInto p1 s = some r) : ax_M cx_C mu_X6_turnFloorInto (fun ad => [.ref (ad 1), .ref (ad p1)]) s none r := by
  refine ax_enter (by decide +kernel) 1 (fun ad => [some (.ref (ad 1)), some (.ref (ad p1)), none]) (fun ad => rfl) (fun ad => Nat.le_of_ble_eq_true rfl) (fun X hV ho => ?_)
  refine ax_go (fun r : ax_S => ((none : Option Value), r)) (fun P hP => ?_) h ho
  unfold f_X6_turnFloorInto
  refine ax_j (ax_iconst hV (0 : Int32) dX6_turnFloorInto_0 (by decide)) ?_
  refine ax_j (ax_istore_n hV [some (.ref (ax_ad (cx_C, X) 1)), some (.ref (ax_ad (cx_C, X) p1)), some (.int (0 : Int32))] dX6_turnFloorInto_1 rfl rfl) ?_
  refine ax_jlp ((0 : Int32), s) (fun x2 : Int32 × ax_S => [some (.ref (ax_ad (cx_C, X) 1)), some (.ref (ax_ad (cx_C, X) p1)), some (.int x2.1)]) (fun x2 : Int32 × ax_S => x2.2) (fun y2 : ax_S => [none, none, none]) (fun y2 : ax_S => y2) (fun P' h1 h2 w => B_X6_turnFloorInto_2 X hV p1 P' h1 h2 w) (fun e2 => ?_)
  exact ax_jl (fun h => ax_vr hV rfl dX6_turnFloorInto_24 (hP e2 h))
theorem lk_X6_78 : ax_lkV RX6 78 mu_X6_turnFloorInto RX6 1 := ax_lkV_of (ax_m2 228 rfl rfl) (ax_m2 230 rfl rfl) (ax_mp1 12 rfl rfl rfl) (ax_m1 2 rfl rfl) lc_X6_turnFloorInto rfl ⟨by decide +kernel, by decide +kernel, by decide +kernel⟩
def mu_X6_solve : ax_Mu := (yX6_solve, cX6_solve, 3, some .boolean, 3, 75)
theorem lc_X6_solve : Cond.code mu_X6_solve.1 mu_X6_solve.2.1 mu_X6_solve.2.2.1 mu_X6_solve.2.2.2.1 ∈ ax_tb := (ax_m2 226 rfl rfl)
noncomputable def f_X6_solve (p1 : Int64) (s : ax_S) : Option (Int32 × ax_S) := (f_X6_canHold p1 s).bind (fun q2 => (if q2.1 = 0 then some (((0 : Int32), q2.2)) else (f_X6_turnFloorInto 16 q2.2).bind (fun q15 => (f_X6_settle 16 (0 : Int32) q15).bind (fun q24 => (ax_zb q24.1).bind (fun z => some ((z, q24.2)))))))
theorem T_X6_solve (p1 : Int64) (s : ax_S) (r : Int32 × ax_S) (h : f_X6_solve p1 s = some r) : ax_M cx_C mu_X6_solve (fun ad => [.ref (ad 1), .long p1]) s (some (.int r.1)) r.2 := by
  refine ax_enter (by decide +kernel) 0 (fun ad => [some (.ref (ad 1)), some (.long p1), none]) (fun ad => rfl) (fun ad => Nat.le_of_ble_eq_true rfl) (fun X hV ho => ?_)
  refine ax_go (fun r : Int32 × ax_S => (some (Value.int r.1), r.2)) (fun P hP => ?_) h ho
  unfold f_X6_solve
  refine ax_j (ax_aload_n hV dX6_solve_0 rfl) ?_
  refine ax_j (ax_lload_n hV dX6_solve_1 rfl) ?_
  refine ax_jb (fun v ho => ax_cVi hV lk_X6_74 rfl dX6_solve_2 rfl rfl [.long p1] [] (fun ad => [.ref (ad 1), .long p1]) rfl rfl rfl rfl v.1 v.2 (T_X6_canHold p1 s v ho)) (fun q2 => ?_)
  refine ax_jif (ax_if_ne hV dX6_solve_5) ?_ ?_
  · refine ax_j (ax_iconst hV (0 : Int32) dX6_solve_8 (by decide)) ?_
    exact ax_jl (fun h => ax_zr hV rfl (by decide) dX6_solve_9 (hP ((0 : Int32), q2.2) h))
  · refine ax_j (ax_aload_n hV dX6_solve_10 rfl) ?_
    refine ax_j (ax_aload_n hV dX6_solve_11 rfl) ?_
    refine ax_j (ax_gfr hV lf_X6_51 dX6_solve_12 rfl rfl) ?_
    refine ax_jb (fun v ho => ax_cVv hV lk_X6_78 rfl dX6_solve_15 rfl rfl [.ref (ax_ad (cx_C, X) 16)] [] (fun ad => [.ref (ad 1), .ref (ad 16)]) rfl rfl rfl rfl v (T_X6_turnFloorInto 16 q2.2 v ho)) (fun q15 => ?_)
    refine ax_j (ax_aload_n hV dX6_solve_18 rfl) ?_
    refine ax_j (ax_aload_n hV dX6_solve_19 rfl) ?_
    refine ax_j (ax_gfr hV lf_X6_51 dX6_solve_20 rfl rfl) ?_
    refine ax_j (ax_iconst hV (0 : Int32) dX6_solve_23 (by decide)) ?_
    refine ax_jb (fun v ho => ax_cVi hV lk_X6_70 rfl dX6_solve_24 rfl rfl [.ref (ax_ad (cx_C, X) 16), .int (0 : Int32)] [] (fun ad => [.ref (ad 1), .ref (ad 16), .int (0 : Int32)]) rfl rfl rfl rfl v.1 v.2 (T_X6_settle 16 (0 : Int32) q15 v ho)) (fun q24 => ?_)
    exact ax_jz (fun v hz h => ax_zr2 hV rfl dX6_solve_27 v hz (hP (v, q24.2) h))
theorem lk_X6_82 : ax_lkV RX6 82 mu_X6_solve RX6 1 := ax_lkV_of (ax_m3 39 rfl rfl) (ax_m2 224 rfl rfl) (ax_m2 225 rfl rfl) (ax_m1 2 rfl rfl) lc_X6_solve rfl ⟨by decide +kernel, by decide +kernel, by decide +kernel⟩
theorem lk_X9_174 : ax_lkV RX9 174 mu_X6_solve RX6 1 := ax_lkV_of (ax_m2 223 rfl rfl) (ax_m2 224 rfl rfl) (ax_m2 225 rfl rfl) (ax_m1 2 rfl rfl) lc_X6_solve rfl ⟨by decide +kernel, by decide +kernel, by decide +kernel⟩
def mu_X6_endOfThing : ax_Mu := (yX6_endOfThing, cX6_endOfThing, 3, some .int, 0, 0)
theorem lc_X6_endOfThing : Cond.code mu_X6_endOfThing.1 mu_X6_endOfThing.2.1 mu_X6_endOfThing.2.2.1 mu_X6_endOfThing.2.2.2.1 ∈ ax_tb := (ax_m2 236 rfl rfl)
noncomputable def f_X6_endOfThing (p1 : Int32) (p2 : Int32) (s : ax_S) : Option (Int32) := (if p2 = (1 : Int32) then (ax_ai cx_C s 15 p1).bind (fun v10 => some (v10)) else (ax_ai cx_C s 16 p1).bind (fun v19 => some ((-v19))))
theorem T_X6_endOfThing (p1 : Int32) (p2 : Int32) (s : ax_S) (r : Int32) (h : f_X6_endOfThing p1 p2 s = some r) : ax_M cx_C mu_X6_endOfThing (fun ad => [.ref (ad 1), .int p1, .int p2]) s (some (.int r)) s := by
  refine ax_enter (by decide +kernel) 0 (fun ad => [some (.ref (ad 1)), some (.int p1), some (.int p2)]) (fun ad => rfl) (fun ad => Nat.le_of_ble_eq_true rfl) (fun X hV ho => ?_)
  refine ax_go (fun r : Int32 => (some (Value.int r), s)) (fun P hP => ?_) h ho
  unfold f_X6_endOfThing
  refine ax_j (ax_iload_n hV dX6_endOfThing_0 rfl) ?_
  refine ax_j (ax_iconst hV (1 : Int32) dX6_endOfThing_1 (by decide)) ?_
  refine ax_jif (ax_icmp_ne hV dX6_endOfThing_2) ?_ ?_
  · refine ax_j (ax_aload_n hV dX6_endOfThing_5 rfl) ?_
    refine ax_j (ax_gfr hV lf_X6_48 dX6_endOfThing_6 rfl rfl) ?_
    refine ax_j (ax_iload_n hV dX6_endOfThing_9 rfl) ?_
    refine ax_jb (ax_iald hV dX6_endOfThing_10) (fun v10 => ?_)
    refine ax_j (ax_goto hV dX6_endOfThing_11) ?_
    exact ax_jl (fun h => ax_ir hV rfl dX6_endOfThing_21 (hP v10 h))
  · refine ax_j (ax_aload_n hV dX6_endOfThing_14 rfl) ?_
    refine ax_j (ax_gfr hV lf_X6_51 dX6_endOfThing_15 rfl rfl) ?_
    refine ax_j (ax_iload_n hV dX6_endOfThing_18 rfl) ?_
    refine ax_jb (ax_iald hV dX6_endOfThing_19) (fun v19 => ?_)
    refine ax_j (ax_ineg hV dX6_endOfThing_20) ?_
    exact ax_jl (fun h => ax_ir hV rfl dX6_endOfThing_21 (hP (-v19) h))
theorem lk_X6_87 : ax_lkV RX6 87 mu_X6_endOfThing RX6 2 := ax_lkV_of (ax_m3 41 rfl rfl) (ax_m2 234 rfl rfl) (ax_m2 235 rfl rfl) (ax_m1 2 rfl rfl) lc_X6_endOfThing rfl ⟨by decide +kernel, by decide +kernel, by decide +kernel⟩
theorem lk_X9_178 : ax_lkV RX9 178 mu_X6_endOfThing RX6 2 := ax_lkV_of (ax_m2 233 rfl rfl) (ax_m2 234 rfl rfl) (ax_m2 235 rfl rfl) (ax_m1 2 rfl rfl) lc_X6_endOfThing rfl ⟨by decide +kernel, by decide +kernel, by decide +kernel⟩
def mu_X6_endOfClock : ax_Mu := (yX6_endOfClock, cX6_endOfClock, 4, some .int, 0, 0)
theorem lc_X6_endOfClock : Cond.code mu_X6_endOfClock.1 mu_X6_endOfClock.2.1 mu_X6_endOfClock.2.2.1 mu_X6_endOfClock.2.2.2.1 ∈ ax_tb := (ax_m3 4 rfl rfl)
noncomputable def f_X6_endOfClock (p1 : Int32) (p2 : Int32) (s : ax_S) : Option (Int32) := (if p2 = (1 : Int32) then (ax_ai cx_C s 16 ((12 : Int32) + p1)).bind (fun v15 => some (v15)) else (ax_ai cx_C s 15 ((12 : Int32) + p1)).bind (fun v24 => some ((-v24))))
theorem T_X6_endOfClock (p1 : Int32) (p2 : Int32) (s : ax_S) (r : Int32) (h : f_X6_endOfClock p1 p2 s = some r) : ax_M cx_C mu_X6_endOfClock (fun ad => [.ref (ad 1), .int p1, .int p2]) s (some (.int r)) s := by
  refine ax_enter (by decide +kernel) 1 (fun ad => [some (.ref (ad 1)), some (.int p1), some (.int p2), none]) (fun ad => rfl) (fun ad => Nat.le_of_ble_eq_true rfl) (fun X hV ho => ?_)
  refine ax_go (fun r : Int32 => (some (Value.int r), s)) (fun P hP => ?_) h ho
  unfold f_X6_endOfClock
  refine ax_j (ax_bipush hV (12 : Int32) dX6_endOfClock_0 (by decide)) ?_
  refine ax_j (ax_iload_n hV dX6_endOfClock_2 rfl) ?_
  refine ax_j (ax_iadd hV dX6_endOfClock_3) ?_
  refine ax_j (ax_istore_n hV [some (.ref (ax_ad (cx_C, X) 1)), some (.int p1), some (.int p2), some (.int ((12 : Int32) + p1))] dX6_endOfClock_4 rfl rfl) ?_
  refine ax_j (ax_iload_n hV dX6_endOfClock_5 rfl) ?_
  refine ax_j (ax_iconst hV (1 : Int32) dX6_endOfClock_6 (by decide)) ?_
  refine ax_jif (ax_icmp_ne hV dX6_endOfClock_7) ?_ ?_
  · refine ax_j (ax_aload_n hV dX6_endOfClock_10 rfl) ?_
    refine ax_j (ax_gfr hV lf_X6_51 dX6_endOfClock_11 rfl rfl) ?_
    refine ax_j (ax_iload_n hV dX6_endOfClock_14 rfl) ?_
    refine ax_jb (ax_iald hV dX6_endOfClock_15) (fun v15 => ?_)
    refine ax_j (ax_goto hV dX6_endOfClock_16) ?_
    exact ax_jl (fun h => ax_ir hV rfl dX6_endOfClock_26 (hP v15 h))
  · refine ax_j (ax_aload_n hV dX6_endOfClock_19 rfl) ?_
    refine ax_j (ax_gfr hV lf_X6_48 dX6_endOfClock_20 rfl rfl) ?_
    refine ax_j (ax_iload_n hV dX6_endOfClock_23 rfl) ?_
    refine ax_jb (ax_iald hV dX6_endOfClock_24) (fun v24 => ?_)
    refine ax_j (ax_ineg hV dX6_endOfClock_25) ?_
    exact ax_jl (fun h => ax_ir hV rfl dX6_endOfClock_26 (hP (-v24) h))
theorem lk_X9_181 : ax_lkV RX9 181 mu_X6_endOfClock RX6 2 := ax_lkV_of (ax_m3 1 rfl rfl) (ax_m3 2 rfl rfl) (ax_m3 3 rfl rfl) (ax_m1 2 rfl rfl) lc_X6_endOfClock rfl ⟨by decide +kernel, by decide +kernel, by decide +kernel⟩
def mu_X6_spanKey : ax_Mu := (yX6_spanKey, cX6_spanKey, 4, some .long, 4, 97)
theorem lc_X6_spanKey : Cond.code mu_X6_spanKey.1 mu_X6_spanKey.2.1 mu_X6_spanKey.2.2.1 mu_X6_spanKey.2.2.2.1 ∈ ax_tb := (ax_m3 38 rfl rfl)
noncomputable def f_X6_spanKey (p1 : Int32) (p2 : Int64) (s : ax_S) : Option (Int64 × ax_S) := (f_X6_solve p2 s).bind (fun q2 => (if q2.1 = 0 then some (((-9223372036854775808 : Int64), q2.2)) else (f_X6_endOfThing p1 (0 : Int32) q2.2).bind (fun q15 => (f_X6_endOfThing p1 (1 : Int32) q2.2).bind (fun q26 => some ((((q15.toInt64 * (1000000 : Int64)) + q26.toInt64), q2.2))))))
theorem T_X6_spanKey (p1 : Int32) (p2 : Int64) (s : ax_S) (r : Int64 × ax_S) (h : f_X6_spanKey p1 p2 s = some r) : ax_M cx_C mu_X6_spanKey (fun ad => [.ref (ad 1), .int p1, .long p2]) s (some (.long r.1)) r.2 := by
  refine ax_enter (by decide +kernel) 0 (fun ad => [some (.ref (ad 1)), some (.int p1), some (.long p2), none]) (fun ad => rfl) (fun ad => Nat.le_of_ble_eq_true rfl) (fun X hV ho => ?_)
  refine ax_go (fun r : Int64 × ax_S => (some (Value.long r.1), r.2)) (fun P hP => ?_) h ho
  unfold f_X6_spanKey
  refine ax_j (ax_aload_n hV dX6_spanKey_0 rfl) ?_
  refine ax_j (ax_lload_n hV dX6_spanKey_1 rfl) ?_
  refine ax_jb (fun v ho => ax_cVi hV lk_X6_82 rfl dX6_spanKey_2 rfl rfl [.long p2] [] (fun ad => [.ref (ad 1), .long p2]) rfl rfl rfl rfl v.1 v.2 (T_X6_solve p2 s v ho)) (fun q2 => ?_)
  refine ax_jif (ax_if_ne hV dX6_spanKey_5) ?_ ?_
  · refine ax_j (ax_ldc2 hV kc_X6_85 dX6_spanKey_8) ?_
    exact ax_jl (fun h => ax_lr hV rfl dX6_spanKey_11 (hP ((-9223372036854775808 : Int64), q2.2) h))
  · refine ax_j (ax_aload_n hV dX6_spanKey_12 rfl) ?_
    refine ax_j (ax_iload_n hV dX6_spanKey_13 rfl) ?_
    refine ax_j (ax_iconst hV (0 : Int32) dX6_spanKey_14 (by decide)) ?_
    refine ax_jb (fun v ho => ax_cVi hV lk_X6_87 rfl dX6_spanKey_15 rfl rfl [.int p1, .int (0 : Int32)] [] (fun ad => [.ref (ad 1), .int p1, .int (0 : Int32)]) rfl rfl rfl rfl v q2.2 (T_X6_endOfThing p1 (0 : Int32) q2.2 v ho)) (fun q15 => ?_)
    refine ax_j (ax_i2l hV dX6_spanKey_18) ?_
    refine ax_j (ax_ldc2 hV kc_X6_91 dX6_spanKey_19) ?_
    refine ax_j (ax_lmul hV dX6_spanKey_22) ?_
    refine ax_j (ax_aload_n hV dX6_spanKey_23 rfl) ?_
    refine ax_j (ax_iload_n hV dX6_spanKey_24 rfl) ?_
    refine ax_j (ax_iconst hV (1 : Int32) dX6_spanKey_25 (by decide)) ?_
    refine ax_jb (fun v ho => ax_cVi hV lk_X6_87 rfl dX6_spanKey_26 rfl rfl [.int p1, .int (1 : Int32)] [.long (q15.toInt64 * (1000000 : Int64))] (fun ad => [.ref (ad 1), .int p1, .int (1 : Int32)]) rfl rfl rfl rfl v q2.2 (T_X6_endOfThing p1 (1 : Int32) q2.2 v ho)) (fun q26 => ?_)
    refine ax_j (ax_i2l hV dX6_spanKey_29) ?_
    refine ax_j (ax_ladd hV dX6_spanKey_30) ?_
    exact ax_jl (fun h => ax_lr hV rfl dX6_spanKey_31 (hP (((q15.toInt64 * (1000000 : Int64)) + q26.toInt64), q2.2) h))
theorem lk_X9_201 : ax_lkV RX9 201 mu_X6_spanKey RX6 2 := ax_lkV_of (ax_m3 35 rfl rfl) (ax_m3 36 rfl rfl) (ax_m3 37 rfl rfl) (ax_m1 2 rfl rfl) lc_X6_spanKey rfl ⟨by decide +kernel, by decide +kernel, by decide +kernel⟩
def mu_X6_measureFrom : ax_Mu := (yX6_measureFrom, cX6_measureFrom, 2, none, 2, 52)
theorem lc_X6_measureFrom : Cond.code mu_X6_measureFrom.1 mu_X6_measureFrom.2.1 mu_X6_measureFrom.2.2.1 mu_X6_measureFrom.2.2.2.1 ∈ ax_tb := (ax_m3 14 rfl rfl)
noncomputable def f_X6_measureFrom (p1 : Int32) (s : ax_S) : Option (ax_S) := (f_J7_fill_53178 17 (1000000000 : Int32) s).bind (fun q6 => (ax_si cx_C q6 17 p1 (0 : Int32)).bind (fun s15 => (f_X6_settle 17 (1 : Int32) s15).bind (fun q22 => some (q22.2))))
theorem T_X6_measureFrom (p1 : Int32) (s : ax_S) (r : ax_S) (h : f_X6_measureFrom p1 s = some r) : ax_M cx_C mu_X6_measureFrom (fun ad => [.ref (ad 1), .int p1]) s none r := by
  refine ax_enter (by decide +kernel) 0 (fun ad => [some (.ref (ad 1)), some (.int p1)]) (fun ad => rfl) (fun ad => Nat.le_of_ble_eq_true rfl) (fun X hV ho => ?_)
  refine ax_go (fun r : ax_S => ((none : Option Value), r)) (fun P hP => ?_) h ho
  unfold f_X6_measureFrom
  refine ax_j (ax_aload_n hV dX6_measureFrom_0 rfl) ?_
  refine ax_j (ax_gfr hV lf_X6_54 dX6_measureFrom_1 rfl rfl) ?_
  refine ax_j (ax_ldc hV kc_X6_93 dX6_measureFrom_4) ?_
  refine ax_jb (fun v ho => ax_cSv hV lk_X6_94 rfl dX6_measureFrom_6 [.ref (ax_ad (cx_C, X) 17), .int (1000000000 : Int32)] [] (fun ad => [.ref (ad 17), .int (1000000000 : Int32)]) rfl rfl rfl rfl v (T_J7_fill_53178 17 (1000000000 : Int32) s v ho)) (fun q6 => ?_)
  refine ax_j (ax_aload_n hV dX6_measureFrom_9 rfl) ?_
  refine ax_j (ax_gfr hV lf_X6_54 dX6_measureFrom_10 rfl rfl) ?_
  refine ax_j (ax_iload_n hV dX6_measureFrom_13 rfl) ?_
  refine ax_j (ax_iconst hV (0 : Int32) dX6_measureFrom_14 (by decide)) ?_
  refine ax_jb (ax_iast hV dX6_measureFrom_15) (fun s15 => ?_)
  refine ax_j (ax_aload_n hV dX6_measureFrom_16 rfl) ?_
  refine ax_j (ax_aload_n hV dX6_measureFrom_17 rfl) ?_
  refine ax_j (ax_gfr hV lf_X6_54 dX6_measureFrom_18 rfl rfl) ?_
  refine ax_j (ax_iconst hV (1 : Int32) dX6_measureFrom_21 (by decide)) ?_
  refine ax_jb (fun v ho => ax_cVi hV lk_X6_70 rfl dX6_measureFrom_22 rfl rfl [.ref (ax_ad (cx_C, X) 17), .int (1 : Int32)] [] (fun ad => [.ref (ad 1), .ref (ad 17), .int (1 : Int32)]) rfl rfl rfl rfl v.1 v.2 (T_X6_settle 17 (1 : Int32) s15 v ho)) (fun q22 => ?_)
  refine ax_j (ax_pop hV dX6_measureFrom_25 rfl) ?_
  exact ax_jl (fun h => ax_vr hV rfl dX6_measureFrom_26 (hP q22.2 h))
theorem lk_X9_186 : ax_lkV RX9 186 mu_X6_measureFrom RX6 1 := ax_lkV_of (ax_m3 11 rfl rfl) (ax_m3 12 rfl rfl) (ax_m3 13 rfl rfl) (ax_m1 2 rfl rfl) lc_X6_measureFrom rfl ⟨by decide +kernel, by decide +kernel, by decide +kernel⟩
def mu_X6_mostBehind : ax_Mu := (yX6_mostBehind, cX6_mostBehind, 4, some .int, 1, 13)
theorem lc_X6_mostBehind : Cond.code mu_X6_mostBehind.1 mu_X6_mostBehind.2.1 mu_X6_mostBehind.2.2.1 mu_X6_mostBehind.2.2.2.1 ∈ ax_tb := (ax_m3 18 rfl rfl)
noncomputable def f_X6_mostBehind (p1 : Int32) (p2 : Int32) (s : ax_S) : Option (Int32) := (ax_ai cx_C s 15 p2).bind (fun v5 => (ax_ai cx_C s 16 p1).bind (fun v11 => (ax_ai cx_C s 17 p2).bind (fun v19 => some ((ax_min v19 (v5 + v11))))))
theorem T_X6_mostBehind (p1 : Int32) (p2 : Int32) (s : ax_S) (r : Int32) (h : f_X6_mostBehind p1 p2 s = some r) : ax_M cx_C mu_X6_mostBehind (fun ad => [.ref (ad 1), .int p1, .int p2]) s (some (.int r)) s := by
  refine ax_enter (by decide +kernel) 1 (fun ad => [some (.ref (ad 1)), some (.int p1), some (.int p2), none]) (fun ad => rfl) (fun ad => Nat.le_of_ble_eq_true rfl) (fun X hV ho => ?_)
  refine ax_go (fun r : Int32 => (some (Value.int r), s)) (fun P hP => ?_) h ho
  unfold f_X6_mostBehind
  refine ax_j (ax_aload_n hV dX6_mostBehind_0 rfl) ?_
  refine ax_j (ax_gfr hV lf_X6_48 dX6_mostBehind_1 rfl rfl) ?_
  refine ax_j (ax_iload_n hV dX6_mostBehind_4 rfl) ?_
  refine ax_jb (ax_iald hV dX6_mostBehind_5) (fun v5 => ?_)
  refine ax_j (ax_aload_n hV dX6_mostBehind_6 rfl) ?_
  refine ax_j (ax_gfr hV lf_X6_51 dX6_mostBehind_7 rfl rfl) ?_
  refine ax_j (ax_iload_n hV dX6_mostBehind_10 rfl) ?_
  refine ax_jb (ax_iald hV dX6_mostBehind_11) (fun v11 => ?_)
  refine ax_j (ax_iadd hV dX6_mostBehind_12) ?_
  refine ax_j (ax_istore_n hV [some (.ref (ax_ad (cx_C, X) 1)), some (.int p1), some (.int p2), some (.int (v5 + v11))] dX6_mostBehind_13 rfl rfl) ?_
  refine ax_j (ax_aload_n hV dX6_mostBehind_14 rfl) ?_
  refine ax_j (ax_gfr hV lf_X6_54 dX6_mostBehind_15 rfl rfl) ?_
  refine ax_j (ax_iload_n hV dX6_mostBehind_18 rfl) ?_
  refine ax_jb (ax_iald hV dX6_mostBehind_19) (fun v19 => ?_)
  refine ax_j (ax_iload_n hV dX6_mostBehind_20 rfl) ?_
  refine ax_j (ax_mmin hV lm_X6_100 rfl dX6_mostBehind_21) ?_
  exact ax_jl (fun h => ax_ir hV rfl dX6_mostBehind_24 (hP (ax_min v19 (v5 + v11)) h))
theorem lk_X9_190 : ax_lkV RX9 190 mu_X6_mostBehind RX6 2 := ax_lkV_of (ax_m3 15 rfl rfl) (ax_m3 16 rfl rfl) (ax_m3 17 rfl rfl) (ax_m1 2 rfl rfl) lc_X6_mostBehind rfl ⟨by decide +kernel, by decide +kernel, by decide +kernel⟩
def mu_X6_stepOnce : ax_Mu := (yX6_stepOnce, cX6_stepOnce, 5, none, 1, 18)
theorem lc_X6_stepOnce : Cond.code mu_X6_stepOnce.1 mu_X6_stepOnce.2.1 mu_X6_stepOnce.2.2.1 mu_X6_stepOnce.2.2.2.1 ∈ ax_tb := (ax_m3 30 rfl rfl)
noncomputable def j_X6_stepOnce_17_79 (l1 : Int32) (l2 : Int32) (l3 : Int32) (l4 : Int32) (k0 : Int32) (k1 : Int32) (k2 : Int32) (k3 : Int32) (s : ax_S) : Option ((Int32 × ax_S) ⊕ (ax_S)) := (ax_si cx_C s 18 k3 (ax_min k2 (k1 + k0))).bind (fun s83 => (ax_ai cx_C s83 18 l3).bind (fun v94 => (ax_ai cx_C s83 17 l4).bind (fun v101 => (if l1 = 0 then (ax_ai cx_C s83 12 l2).bind (fun v121 => (ax_si cx_C s83 18 l3 (ax_min v94 (v101 + v121))).bind (fun s126 => some (.inl ((l2 + 1), s126)))) else (ax_ai cx_C s83 11 l2).bind (fun v111 => (ax_si cx_C s83 18 l3 (ax_min v94 (v101 + (-v111)))).bind (fun s126 => some (.inl ((l2 + 1), s126))))))))
noncomputable def b_X6_stepOnce_17 (l1 : Int32) (a : Int32 × ax_S) : Option ((Int32 × ax_S) ⊕ (ax_S)) := (if (a.2.1 1 6) ≤ a.1 then some (.inr a.2) else (ax_ai cx_C a.2 9 a.1).bind (fun v30 => (ax_ai cx_C a.2 10 a.1).bind (fun v37 => (ax_ai cx_C a.2 18 v37).bind (fun v52 => (ax_ai cx_C a.2 17 v30).bind (fun v58 => (if l1 = 0 then (ax_ai cx_C a.2 11 a.1).bind (fun v77 => j_X6_stepOnce_17_79 l1 a.1 v30 v37 (-v77) v58 v52 v37 a.2) else (ax_ai cx_C a.2 12 a.1).bind (fun v68 => j_X6_stepOnce_17_79 l1 a.1 v30 v37 v68 v58 v52 v37 a.2)))))))
noncomputable def f_X6_stepOnce (p1 : Int32) (s : ax_S) : Option (ax_S) := (ax_cp cx_C s 17 (0 : Int32) 18 (0 : Int32) (18 : Int32)).bind (fun s12 => (ax_lp (b_X6_stepOnce_17 p1) ((0 : Int32), s12)).bind (fun e17 => (ax_cp cx_C e17 18 (0 : Int32) 17 (0 : Int32) (18 : Int32)).bind (fun s145 => some (s145))))
theorem N_X6_stepOnce_17_79 (X : ax_G × ax_K × Option Value × ax_S) (hV : ax_ok (cx_C, X) mu_X6_stepOnce) (l1 : Int32) (P : ((Int32 × ax_S) ⊕ (ax_S)) → Prop) (hI : ∀ a : Int32 × ax_S, P (.inl a) → ax_At (cx_C, X) 17 [some (.ref (ax_ad (cx_C, X) 1)), some (.int l1), some (.int a.1), none, none] [] a.2) (hO : ∀ e : ax_S, P (.inr e) → ax_At (cx_C, X) 133 [some (.ref (ax_ad (cx_C, X) 1)), none, none, none, none] [] e) (l2 : Int32) (l3 : Int32) (l4 : Int32) (k0 : Int32) (k1 : Int32) (k2 : Int32) (k3 : Int32) (s : ax_S) : ax_J (cx_C, X) P 79 [some (.ref (ax_ad (cx_C, X) 1)), some (.int l1), some (.int l2), some (.int l3), some (.int l4)] [.int k0, .int k1, .int k2, .int k3, .ref (ax_ad (cx_C, X) 18)] s (j_X6_stepOnce_17_79 l1 l2 l3 l4 k0 k1 k2 k3 s) := by
  unfold j_X6_stepOnce_17_79
  refine ax_j (ax_iadd hV dX6_stepOnce_79) ?_
  refine ax_j (ax_mmin hV lm_X6_100 rfl dX6_stepOnce_80) ?_
  refine ax_jb (ax_iast hV dX6_stepOnce_83) (fun s83 => ?_)
  refine ax_j (ax_aload_n hV dX6_stepOnce_84 rfl) ?_
  refine ax_j (ax_gfr hV lf_X6_57 dX6_stepOnce_85 rfl rfl) ?_
  refine ax_j (ax_iload_n hV dX6_stepOnce_88 rfl) ?_
  refine ax_j (ax_aload_n hV dX6_stepOnce_89 rfl) ?_
  refine ax_j (ax_gfr hV lf_X6_57 dX6_stepOnce_90 rfl rfl) ?_
  refine ax_j (ax_iload_n hV dX6_stepOnce_93 rfl) ?_
  refine ax_jb (ax_iald hV dX6_stepOnce_94) (fun v94 => ?_)
  refine ax_j (ax_aload_n hV dX6_stepOnce_95 rfl) ?_
  refine ax_j (ax_gfr hV lf_X6_54 dX6_stepOnce_96 rfl rfl) ?_
  refine ax_j (ax_iload hV dX6_stepOnce_99 rfl) ?_
  refine ax_jb (ax_iald hV dX6_stepOnce_101) (fun v101 => ?_)
  refine ax_j (ax_iload_n hV dX6_stepOnce_102 rfl) ?_
  refine ax_jif (ax_if_eq hV dX6_stepOnce_103) ?_ ?_
  · refine ax_j (ax_aload_n hV dX6_stepOnce_116 rfl) ?_
    refine ax_j (ax_gfr hV lf_X6_35 dX6_stepOnce_117 rfl rfl) ?_
    refine ax_j (ax_iload_n hV dX6_stepOnce_120 rfl) ?_
    refine ax_jb (ax_iald hV dX6_stepOnce_121) (fun v121 => ?_)
    refine ax_j (ax_iadd hV dX6_stepOnce_122) ?_
    refine ax_j (ax_mmin hV lm_X6_100 rfl dX6_stepOnce_123) ?_
    refine ax_jb (ax_iast hV dX6_stepOnce_126) (fun s126 => ?_)
    refine ax_j (ax_iinc hV (l2 + 1) [some (.ref (ax_ad (cx_C, X) 1)), some (.int l1), some (.int (l2 + 1)), some (.int l3), some (.int l4)] dX6_stepOnce_127 rfl rfl rfl rfl) ?_
    refine ax_j (ax_goto hV dX6_stepOnce_130) ?_
    refine ax_jf (lv' := [some (.ref (ax_ad (cx_C, X) 1)), some (.int l1), some (.int (l2 + 1)), none, none]) [true, true, true, false, false] rfl ?_
    exact ax_jl (fun h => hI ((l2 + 1), s126) h)
  · refine ax_j (ax_aload_n hV dX6_stepOnce_106 rfl) ?_
    refine ax_j (ax_gfr hV lf_X6_32 dX6_stepOnce_107 rfl rfl) ?_
    refine ax_j (ax_iload_n hV dX6_stepOnce_110 rfl) ?_
    refine ax_jb (ax_iald hV dX6_stepOnce_111) (fun v111 => ?_)
    refine ax_j (ax_ineg hV dX6_stepOnce_112) ?_
    refine ax_j (ax_goto hV dX6_stepOnce_113) ?_
    refine ax_j (ax_iadd hV dX6_stepOnce_122) ?_
    refine ax_j (ax_mmin hV lm_X6_100 rfl dX6_stepOnce_123) ?_
    refine ax_jb (ax_iast hV dX6_stepOnce_126) (fun s126 => ?_)
    refine ax_j (ax_iinc hV (l2 + 1) [some (.ref (ax_ad (cx_C, X) 1)), some (.int l1), some (.int (l2 + 1)), some (.int l3), some (.int l4)] dX6_stepOnce_127 rfl rfl rfl rfl) ?_
    refine ax_j (ax_goto hV dX6_stepOnce_130) ?_
    refine ax_jf (lv' := [some (.ref (ax_ad (cx_C, X) 1)), some (.int l1), some (.int (l2 + 1)), none, none]) [true, true, true, false, false] rfl ?_
    exact ax_jl (fun h => hI ((l2 + 1), s126) h)
theorem B_X6_stepOnce_17 (X : ax_G × ax_K × Option Value × ax_S) (hV : ax_ok (cx_C, X) mu_X6_stepOnce) (l1 : Int32) (P : ((Int32 × ax_S) ⊕ (ax_S)) → Prop) (hI : ∀ a : Int32 × ax_S, P (.inl a) → ax_At (cx_C, X) 17 [some (.ref (ax_ad (cx_C, X) 1)), some (.int l1), some (.int a.1), none, none] [] a.2) (hO : ∀ e : ax_S, P (.inr e) → ax_At (cx_C, X) 133 [some (.ref (ax_ad (cx_C, X) 1)), none, none, none, none] [] e) (a : Int32 × ax_S) : ax_J (cx_C, X) P 17 [some (.ref (ax_ad (cx_C, X) 1)), some (.int l1), some (.int a.1), none, none] [] a.2 (b_X6_stepOnce_17 l1 a) := by
  unfold b_X6_stepOnce_17
  refine ax_j (ax_iload_n hV dX6_stepOnce_17 rfl) ?_
  refine ax_j (ax_aload_n hV dX6_stepOnce_18 rfl) ?_
  refine ax_j (ax_gfi hV lf_X6_38 dX6_stepOnce_19 rfl rfl) ?_
  refine ax_jif (ax_icmp_ge hV dX6_stepOnce_22) ?_ ?_
  · refine ax_jf (lv' := [some (.ref (ax_ad (cx_C, X) 1)), none, none, none, none]) [true, false, false, false, false] rfl ?_
    exact ax_jl (fun h => hO a.2 h)
  · refine ax_j (ax_aload_n hV dX6_stepOnce_25 rfl) ?_
    refine ax_j (ax_gfr hV lf_X6_25 dX6_stepOnce_26 rfl rfl) ?_
    refine ax_j (ax_iload_n hV dX6_stepOnce_29 rfl) ?_
    refine ax_jb (ax_iald hV dX6_stepOnce_30) (fun v30 => ?_)
    refine ax_j (ax_istore_n hV [some (.ref (ax_ad (cx_C, X) 1)), some (.int l1), some (.int a.1), some (.int v30), none] dX6_stepOnce_31 rfl rfl) ?_
    refine ax_j (ax_aload_n hV dX6_stepOnce_32 rfl) ?_
    refine ax_j (ax_gfr hV lf_X6_29 dX6_stepOnce_33 rfl rfl) ?_
    refine ax_j (ax_iload_n hV dX6_stepOnce_36 rfl) ?_
    refine ax_jb (ax_iald hV dX6_stepOnce_37) (fun v37 => ?_)
    refine ax_j (ax_istore hV [some (.ref (ax_ad (cx_C, X) 1)), some (.int l1), some (.int a.1), some (.int v30), some (.int v37)] dX6_stepOnce_38 rfl rfl) ?_
    refine ax_j (ax_aload_n hV dX6_stepOnce_40 rfl) ?_
    refine ax_j (ax_gfr hV lf_X6_57 dX6_stepOnce_41 rfl rfl) ?_
    refine ax_j (ax_iload hV dX6_stepOnce_44 rfl) ?_
    refine ax_j (ax_aload_n hV dX6_stepOnce_46 rfl) ?_
    refine ax_j (ax_gfr hV lf_X6_57 dX6_stepOnce_47 rfl rfl) ?_
    refine ax_j (ax_iload hV dX6_stepOnce_50 rfl) ?_
    refine ax_jb (ax_iald hV dX6_stepOnce_52) (fun v52 => ?_)
    refine ax_j (ax_aload_n hV dX6_stepOnce_53 rfl) ?_
    refine ax_j (ax_gfr hV lf_X6_54 dX6_stepOnce_54 rfl rfl) ?_
    refine ax_j (ax_iload_n hV dX6_stepOnce_57 rfl) ?_
    refine ax_jb (ax_iald hV dX6_stepOnce_58) (fun v58 => ?_)
    refine ax_j (ax_iload_n hV dX6_stepOnce_59 rfl) ?_
    refine ax_jif (ax_if_eq hV dX6_stepOnce_60) ?_ ?_
    · refine ax_j (ax_aload_n hV dX6_stepOnce_72 rfl) ?_
      refine ax_j (ax_gfr hV lf_X6_32 dX6_stepOnce_73 rfl rfl) ?_
      refine ax_j (ax_iload_n hV dX6_stepOnce_76 rfl) ?_
      refine ax_jb (ax_iald hV dX6_stepOnce_77) (fun v77 => ?_)
      refine ax_j (ax_ineg hV dX6_stepOnce_78) ?_
      exact N_X6_stepOnce_17_79 X hV l1 P hI hO a.1 v30 v37 (-v77) v58 v52 v37 a.2
    · refine ax_j (ax_aload_n hV dX6_stepOnce_63 rfl) ?_
      refine ax_j (ax_gfr hV lf_X6_35 dX6_stepOnce_64 rfl rfl) ?_
      refine ax_j (ax_iload_n hV dX6_stepOnce_67 rfl) ?_
      refine ax_jb (ax_iald hV dX6_stepOnce_68) (fun v68 => ?_)
      refine ax_j (ax_goto hV dX6_stepOnce_69) ?_
      exact N_X6_stepOnce_17_79 X hV l1 P hI hO a.1 v30 v37 v68 v58 v52 v37 a.2
theorem T_X6_stepOnce (p1 : Int32) (s : ax_S) (r : ax_S) (h : f_X6_stepOnce p1 s = some r) : ax_M cx_C mu_X6_stepOnce (fun ad => [.ref (ad 1), .int p1]) s none r := by
  refine ax_enter (by decide +kernel) 3 (fun ad => [some (.ref (ad 1)), some (.int p1), none, none, none]) (fun ad => rfl) (fun ad => Nat.le_of_ble_eq_true rfl) (fun X hV ho => ?_)
  refine ax_go (fun r : ax_S => ((none : Option Value), r)) (fun P hP => ?_) h ho
  unfold f_X6_stepOnce
  refine ax_j (ax_aload_n hV dX6_stepOnce_0 rfl) ?_
  refine ax_j (ax_gfr hV lf_X6_54 dX6_stepOnce_1 rfl rfl) ?_
  refine ax_j (ax_iconst hV (0 : Int32) dX6_stepOnce_4 (by decide)) ?_
  refine ax_j (ax_aload_n hV dX6_stepOnce_5 rfl) ?_
  refine ax_j (ax_gfr hV lf_X6_57 dX6_stepOnce_6 rfl rfl) ?_
  refine ax_j (ax_iconst hV (0 : Int32) dX6_stepOnce_9 (by decide)) ?_
  refine ax_j (ax_bipush hV (18 : Int32) dX6_stepOnce_10 (by decide)) ?_
  refine ax_jb (ax_copy hV lm_X6_64 rfl dX6_stepOnce_12) (fun s12 => ?_)
  refine ax_j (ax_iconst hV (0 : Int32) dX6_stepOnce_15 (by decide)) ?_
  refine ax_j (ax_istore_n hV [some (.ref (ax_ad (cx_C, X) 1)), some (.int p1), some (.int (0 : Int32)), none, none] dX6_stepOnce_16 rfl rfl) ?_
  refine ax_jlp ((0 : Int32), s12) (fun x17 : Int32 × ax_S => [some (.ref (ax_ad (cx_C, X) 1)), some (.int p1), some (.int x17.1), none, none]) (fun x17 : Int32 × ax_S => x17.2) (fun y17 : ax_S => [some (.ref (ax_ad (cx_C, X) 1)), none, none, none, none]) (fun y17 : ax_S => y17) (fun P' h1 h2 w => B_X6_stepOnce_17 X hV p1 P' h1 h2 w) (fun e17 => ?_)
  refine ax_j (ax_aload_n hV dX6_stepOnce_133 rfl) ?_
  refine ax_j (ax_gfr hV lf_X6_57 dX6_stepOnce_134 rfl rfl) ?_
  refine ax_j (ax_iconst hV (0 : Int32) dX6_stepOnce_137 (by decide)) ?_
  refine ax_j (ax_aload_n hV dX6_stepOnce_138 rfl) ?_
  refine ax_j (ax_gfr hV lf_X6_54 dX6_stepOnce_139 rfl rfl) ?_
  refine ax_j (ax_iconst hV (0 : Int32) dX6_stepOnce_142 (by decide)) ?_
  refine ax_j (ax_bipush hV (18 : Int32) dX6_stepOnce_143 (by decide)) ?_
  refine ax_jb (ax_copy hV lm_X6_64 rfl dX6_stepOnce_145) (fun s145 => ?_)
  exact ax_jl (fun h => ax_vr hV rfl dX6_stepOnce_148 (hP s145 h))
theorem lk_X6_105 : ax_lkV RX6 105 mu_X6_stepOnce RX6 1 := ax_lkV_of (ax_m3 27 rfl rfl) (ax_m3 29 rfl rfl) (ax_mp1 13 rfl rfl rfl) (ax_m1 2 rfl rfl) lc_X6_stepOnce rfl ⟨by decide +kernel, by decide +kernel, by decide +kernel⟩
def mu_X6_stepsToEnd : ax_Mu := (yX6_stepsToEnd, cX6_stepsToEnd, 5, some .int, 2, 42)
theorem lc_X6_stepsToEnd : Cond.code mu_X6_stepsToEnd.1 mu_X6_stepsToEnd.2.1 mu_X6_stepsToEnd.2.2.1 mu_X6_stepsToEnd.2.2.2.1 ∈ ax_tb := (ax_m3 26 rfl rfl)
noncomputable def b_X6_stepsToEnd_53 (l1 : Int32) (l2 : Int32) (l3 : Int32) (a : Int32 × ax_S) : Option ((Int32 × ax_S) ⊕ ((ax_S) ⊕ (Int32 × ax_S))) := (if (18 : Int32) ≤ a.1 then some (.inr (.inl a.2)) else (ax_ai cx_C a.2 17 l1).bind (fun v65 => (if v65 = l3 then some (.inr (.inr (a.1, a.2))) else (f_X6_stepOnce l2 a.2).bind (fun q75 => some (.inl ((a.1 + 1), q75))))))
noncomputable def j_X6_stepsToEnd_30 (l1 : Int32) (l2 : Int32) (s : ax_S) : Option (Int32 × ax_S) := (if l2 = 0 then (ax_ai cx_C s 16 l1).bind (fun v48 => (ax_lp (b_X6_stepsToEnd_53 l1 l2 v48) ((0 : Int32), s)).bind (Sum.elim (fun e53 => some (((18 : Int32), e53))) (fun r => some (r)))) else (ax_ai cx_C s 15 l1).bind (fun v39 => (ax_lp (b_X6_stepsToEnd_53 l1 l2 v39) ((0 : Int32), s)).bind (Sum.elim (fun e53 => some (((18 : Int32), e53))) (fun r => some (r)))))
noncomputable def f_X6_stepsToEnd (p1 : Int32) (p2 : Int32) (s : ax_S) : Option (Int32 × ax_S) := (if p2 = 0 then (f_X6_turnFloorInto 17 s).bind (fun q27 => j_X6_stepsToEnd_30 p1 p2 q27) else (ax_cp cx_C s 14 (0 : Int32) 17 (0 : Int32) (18 : Int32)).bind (fun s16 => j_X6_stepsToEnd_30 p1 p2 s16))
theorem B_X6_stepsToEnd_53 (X : ax_G × ax_K × Option Value × ax_S) (hV : ax_ok (cx_C, X) mu_X6_stepsToEnd) (l1 : Int32) (l2 : Int32) (l3 : Int32) (P : ((Int32 × ax_S) ⊕ ((ax_S) ⊕ (Int32 × ax_S))) → Prop) (hI : ∀ a : Int32 × ax_S, P (.inl a) → ax_At (cx_C, X) 53 [some (.ref (ax_ad (cx_C, X) 1)), some (.int l1), some (.int l2), some (.int l3), some (.int a.1)] [] a.2) (hO : ∀ e : ax_S, P (.inr (.inl e)) → ax_At (cx_C, X) 84 [none, none, none, none, none] [] e) (hR : ∀ r : Int32 × ax_S, P (.inr (.inr r)) → X.2.2 = (fun r : Int32 × ax_S => (some (Value.int r.1), r.2)) r) (a : Int32 × ax_S) : ax_J (cx_C, X) P 53 [some (.ref (ax_ad (cx_C, X) 1)), some (.int l1), some (.int l2), some (.int l3), some (.int a.1)] [] a.2 (b_X6_stepsToEnd_53 l1 l2 l3 a) := by
  unfold b_X6_stepsToEnd_53
  refine ax_j (ax_iload hV dX6_stepsToEnd_53 rfl) ?_
  refine ax_j (ax_bipush hV (18 : Int32) dX6_stepsToEnd_55 (by decide)) ?_
  refine ax_jif (ax_icmp_ge hV dX6_stepsToEnd_57) ?_ ?_
  · refine ax_jf (lv' := [none, none, none, none, none]) [false, false, false, false, false] rfl ?_
    exact ax_jl (fun h => hO a.2 h)
  · refine ax_j (ax_aload_n hV dX6_stepsToEnd_60 rfl) ?_
    refine ax_j (ax_gfr hV lf_X6_54 dX6_stepsToEnd_61 rfl rfl) ?_
    refine ax_j (ax_iload_n hV dX6_stepsToEnd_64 rfl) ?_
    refine ax_jb (ax_iald hV dX6_stepsToEnd_65) (fun v65 => ?_)
    refine ax_j (ax_iload_n hV dX6_stepsToEnd_66 rfl) ?_
    refine ax_jif (ax_icmp_ne hV dX6_stepsToEnd_67) ?_ ?_
    · refine ax_j (ax_iload hV dX6_stepsToEnd_70 rfl) ?_
      exact ax_jl (fun h => ax_ir hV rfl dX6_stepsToEnd_72 (hR (a.1, a.2) h))
    · refine ax_j (ax_aload_n hV dX6_stepsToEnd_73 rfl) ?_
      refine ax_j (ax_iload_n hV dX6_stepsToEnd_74 rfl) ?_
      refine ax_jb (fun v ho => ax_cVv hV lk_X6_105 rfl dX6_stepsToEnd_75 rfl rfl [.int l2] [] (fun ad => [.ref (ad 1), .int l2]) rfl rfl rfl rfl v (T_X6_stepOnce l2 a.2 v ho)) (fun q75 => ?_)
      refine ax_j (ax_iinc hV (a.1 + 1) [some (.ref (ax_ad (cx_C, X) 1)), some (.int l1), some (.int l2), some (.int l3), some (.int (a.1 + 1))] dX6_stepsToEnd_78 rfl rfl rfl rfl) ?_
      refine ax_j (ax_goto hV dX6_stepsToEnd_81) ?_
      exact ax_jl (fun h => hI ((a.1 + 1), q75) h)
theorem N_X6_stepsToEnd_30 (X : ax_G × ax_K × Option Value × ax_S) (hV : ax_ok (cx_C, X) mu_X6_stepsToEnd)  (P : (Int32 × ax_S) → Prop) (hP : ∀ r : Int32 × ax_S, P r → X.2.2 = (fun r : Int32 × ax_S => (some (Value.int r.1), r.2)) r) (l1 : Int32) (l2 : Int32) (s : ax_S) : ax_J (cx_C, X) P 30 [some (.ref (ax_ad (cx_C, X) 1)), some (.int l1), some (.int l2), none, none] [] s (j_X6_stepsToEnd_30 l1 l2 s) := by
  unfold j_X6_stepsToEnd_30
  refine ax_j (ax_iload_n hV dX6_stepsToEnd_30 rfl) ?_
  refine ax_jif (ax_if_eq hV dX6_stepsToEnd_31) ?_ ?_
  · refine ax_j (ax_aload_n hV dX6_stepsToEnd_43 rfl) ?_
    refine ax_j (ax_gfr hV lf_X6_51 dX6_stepsToEnd_44 rfl rfl) ?_
    refine ax_j (ax_iload_n hV dX6_stepsToEnd_47 rfl) ?_
    refine ax_jb (ax_iald hV dX6_stepsToEnd_48) (fun v48 => ?_)
    refine ax_j (ax_istore_n hV [some (.ref (ax_ad (cx_C, X) 1)), some (.int l1), some (.int l2), some (.int v48), none] dX6_stepsToEnd_49 rfl rfl) ?_
    refine ax_j (ax_iconst hV (0 : Int32) dX6_stepsToEnd_50 (by decide)) ?_
    refine ax_j (ax_istore hV [some (.ref (ax_ad (cx_C, X) 1)), some (.int l1), some (.int l2), some (.int v48), some (.int (0 : Int32))] dX6_stepsToEnd_51 rfl rfl) ?_
    refine ax_jlr ((0 : Int32), s) (fun x53 : Int32 × ax_S => [some (.ref (ax_ad (cx_C, X) 1)), some (.int l1), some (.int l2), some (.int v48), some (.int x53.1)]) (fun x53 : Int32 × ax_S => x53.2) (fun y53 : ax_S => [none, none, none, none, none]) (fun y53 : ax_S => y53) (fun P' h1 h2 h3 w => B_X6_stepsToEnd_53 X hV l1 l2 v48 P' h1 h2 (fun r h => hP r (h3 r h)) w) (fun e53 => ?_)
    refine ax_j (ax_bipush hV (18 : Int32) dX6_stepsToEnd_84 (by decide)) ?_
    exact ax_jl (fun h => ax_ir hV rfl dX6_stepsToEnd_86 (hP ((18 : Int32), e53) h))
  · refine ax_j (ax_aload_n hV dX6_stepsToEnd_34 rfl) ?_
    refine ax_j (ax_gfr hV lf_X6_48 dX6_stepsToEnd_35 rfl rfl) ?_
    refine ax_j (ax_iload_n hV dX6_stepsToEnd_38 rfl) ?_
    refine ax_jb (ax_iald hV dX6_stepsToEnd_39) (fun v39 => ?_)
    refine ax_j (ax_goto hV dX6_stepsToEnd_40) ?_
    refine ax_j (ax_istore_n hV [some (.ref (ax_ad (cx_C, X) 1)), some (.int l1), some (.int l2), some (.int v39), none] dX6_stepsToEnd_49 rfl rfl) ?_
    refine ax_j (ax_iconst hV (0 : Int32) dX6_stepsToEnd_50 (by decide)) ?_
    refine ax_j (ax_istore hV [some (.ref (ax_ad (cx_C, X) 1)), some (.int l1), some (.int l2), some (.int v39), some (.int (0 : Int32))] dX6_stepsToEnd_51 rfl rfl) ?_
    refine ax_jlr ((0 : Int32), s) (fun x53 : Int32 × ax_S => [some (.ref (ax_ad (cx_C, X) 1)), some (.int l1), some (.int l2), some (.int v39), some (.int x53.1)]) (fun x53 : Int32 × ax_S => x53.2) (fun y53 : ax_S => [none, none, none, none, none]) (fun y53 : ax_S => y53) (fun P' h1 h2 h3 w => B_X6_stepsToEnd_53 X hV l1 l2 v39 P' h1 h2 (fun r h => hP r (h3 r h)) w) (fun e53 => ?_)
    refine ax_j (ax_bipush hV (18 : Int32) dX6_stepsToEnd_84 (by decide)) ?_
    exact ax_jl (fun h => ax_ir hV rfl dX6_stepsToEnd_86 (hP ((18 : Int32), e53) h))
theorem T_X6_stepsToEnd (p1 : Int32) (p2 : Int32) (s : ax_S) (r : Int32 × ax_S) (h : f_X6_stepsToEnd p1 p2 s = some r) : ax_M cx_C mu_X6_stepsToEnd (fun ad => [.ref (ad 1), .int p1, .int p2]) s (some (.int r.1)) r.2 := by
  refine ax_enter (by decide +kernel) 2 (fun ad => [some (.ref (ad 1)), some (.int p1), some (.int p2), none, none]) (fun ad => rfl) (fun ad => Nat.le_of_ble_eq_true rfl) (fun X hV ho => ?_)
  refine ax_go (fun r : Int32 × ax_S => (some (Value.int r.1), r.2)) (fun P hP => ?_) h ho
  unfold f_X6_stepsToEnd
  refine ax_j (ax_iload_n hV dX6_stepsToEnd_0 rfl) ?_
  refine ax_jif (ax_if_eq hV dX6_stepsToEnd_1) ?_ ?_
  · refine ax_j (ax_aload_n hV dX6_stepsToEnd_22 rfl) ?_
    refine ax_j (ax_aload_n hV dX6_stepsToEnd_23 rfl) ?_
    refine ax_j (ax_gfr hV lf_X6_54 dX6_stepsToEnd_24 rfl rfl) ?_
    refine ax_jb (fun v ho => ax_cVv hV lk_X6_78 rfl dX6_stepsToEnd_27 rfl rfl [.ref (ax_ad (cx_C, X) 17)] [] (fun ad => [.ref (ad 1), .ref (ad 17)]) rfl rfl rfl rfl v (T_X6_turnFloorInto 17 s v ho)) (fun q27 => ?_)
    exact N_X6_stepsToEnd_30 X hV  P hP p1 p2 q27
  · refine ax_j (ax_aload_n hV dX6_stepsToEnd_4 rfl) ?_
    refine ax_j (ax_gfr hV lf_X6_45 dX6_stepsToEnd_5 rfl rfl) ?_
    refine ax_j (ax_iconst hV (0 : Int32) dX6_stepsToEnd_8 (by decide)) ?_
    refine ax_j (ax_aload_n hV dX6_stepsToEnd_9 rfl) ?_
    refine ax_j (ax_gfr hV lf_X6_54 dX6_stepsToEnd_10 rfl rfl) ?_
    refine ax_j (ax_iconst hV (0 : Int32) dX6_stepsToEnd_13 (by decide)) ?_
    refine ax_j (ax_bipush hV (18 : Int32) dX6_stepsToEnd_14 (by decide)) ?_
    refine ax_jb (ax_copy hV lm_X6_64 rfl dX6_stepsToEnd_16) (fun s16 => ?_)
    refine ax_j (ax_goto hV dX6_stepsToEnd_19) ?_
    exact N_X6_stepsToEnd_30 X hV  P hP p1 p2 s16
theorem lk_X9_193 : ax_lkV RX9 193 mu_X6_stepsToEnd RX6 2 := ax_lkV_of (ax_m3 23 rfl rfl) (ax_m3 24 rfl rfl) (ax_m3 25 rfl rfl) (ax_m1 2 rfl rfl) lc_X6_stepsToEnd rfl ⟨by decide +kernel, by decide +kernel, by decide +kernel⟩
def mu_X7_tell : ax_Mu := (yX7_tell, cX7_tell, 7, some .int, 0, 0)
theorem lc_X7_tell : Cond.code mu_X7_tell.1 mu_X7_tell.2.1 mu_X7_tell.2.2.1 mu_X7_tell.2.2.2.1 ∈ ax_tb := (ax_m2 103 rfl rfl)
noncomputable def f_X7_tell (p1 : Int32) (p2 : Int32) (p3 : Int32) (p4 : Int32) (p5 : Int32) (p6 : Int32) (s : ax_S) : Option (Int32 × ax_S) := (if (s.1 2 7) < (40 : Int32) then (ax_si cx_C s 19 (s.1 2 7) p1).bind (fun s21 => (ax_si cx_C s21 20 (s21.1 2 7) p2).bind (fun s31 => (ax_si cx_C s31 21 (s31.1 2 7) p3).bind (fun s41 => (ax_si cx_C s41 22 (s41.1 2 7) p4).bind (fun s52 => (ax_si cx_C s52 23 (s52.1 2 7) p5).bind (fun s63 => (ax_si cx_C s63 24 (s63.1 2 7) p6).bind (fun s74 => (ax_si cx_C s74 25 (s74.1 2 7) (-1 : Int32)).bind (fun s84 => some (((((ax_ui s84 2 7 ((s84.1 2 7) + (1 : Int32))).1 2 7) - (1 : Int32)), (ax_ui s84 2 7 ((s84.1 2 7) + (1 : Int32)))))))))))) else some (((-4 : Int32), s)))
theorem T_X7_tell (p1 : Int32) (p2 : Int32) (p3 : Int32) (p4 : Int32) (p5 : Int32) (p6 : Int32) (s : ax_S) (r : Int32 × ax_S) (h : f_X7_tell p1 p2 p3 p4 p5 p6 s = some r) : ax_M cx_C mu_X7_tell (fun ad => [.ref (ad 2), .int p1, .int p2, .int p3, .int p4, .int p5, .int p6]) s (some (.int r.1)) r.2 := by
  refine ax_enter (by decide +kernel) 0 (fun ad => [some (.ref (ad 2)), some (.int p1), some (.int p2), some (.int p3), some (.int p4), some (.int p5), some (.int p6)]) (fun ad => rfl) (fun ad => Nat.le_of_ble_eq_true rfl) (fun X hV ho => ?_)
  refine ax_go (fun r : Int32 × ax_S => (some (Value.int r.1), r.2)) (fun P hP => ?_) h ho
  unfold f_X7_tell
  refine ax_j (ax_aload_n hV dX7_tell_0 rfl) ?_
  refine ax_j (ax_gfi hV lf_X7_33 dX7_tell_1 rfl rfl) ?_
  refine ax_j (ax_bipush hV (40 : Int32) dX7_tell_4 (by decide)) ?_
  refine ax_jif (ax_icmp_lt hV dX7_tell_6) ?_ ?_
  · refine ax_j (ax_aload_n hV dX7_tell_12 rfl) ?_
    refine ax_j (ax_gfr hV lf_X7_9 dX7_tell_13 rfl rfl) ?_
    refine ax_j (ax_aload_n hV dX7_tell_16 rfl) ?_
    refine ax_j (ax_gfi hV lf_X7_33 dX7_tell_17 rfl rfl) ?_
    refine ax_j (ax_iload_n hV dX7_tell_20 rfl) ?_
    refine ax_jb (ax_iast hV dX7_tell_21) (fun s21 => ?_)
    refine ax_j (ax_aload_n hV dX7_tell_22 rfl) ?_
    refine ax_j (ax_gfr hV lf_X7_15 dX7_tell_23 rfl rfl) ?_
    refine ax_j (ax_aload_n hV dX7_tell_26 rfl) ?_
    refine ax_j (ax_gfi hV lf_X7_33 dX7_tell_27 rfl rfl) ?_
    refine ax_j (ax_iload_n hV dX7_tell_30 rfl) ?_
    refine ax_jb (ax_iast hV dX7_tell_31) (fun s31 => ?_)
    refine ax_j (ax_aload_n hV dX7_tell_32 rfl) ?_
    refine ax_j (ax_gfr hV lf_X7_18 dX7_tell_33 rfl rfl) ?_
    refine ax_j (ax_aload_n hV dX7_tell_36 rfl) ?_
    refine ax_j (ax_gfi hV lf_X7_33 dX7_tell_37 rfl rfl) ?_
    refine ax_j (ax_iload_n hV dX7_tell_40 rfl) ?_
    refine ax_jb (ax_iast hV dX7_tell_41) (fun s41 => ?_)
    refine ax_j (ax_aload_n hV dX7_tell_42 rfl) ?_
    refine ax_j (ax_gfr hV lf_X7_21 dX7_tell_43 rfl rfl) ?_
    refine ax_j (ax_aload_n hV dX7_tell_46 rfl) ?_
    refine ax_j (ax_gfi hV lf_X7_33 dX7_tell_47 rfl rfl) ?_
    refine ax_j (ax_iload hV dX7_tell_50 rfl) ?_
    refine ax_jb (ax_iast hV dX7_tell_52) (fun s52 => ?_)
    refine ax_j (ax_aload_n hV dX7_tell_53 rfl) ?_
    refine ax_j (ax_gfr hV lf_X7_24 dX7_tell_54 rfl rfl) ?_
    refine ax_j (ax_aload_n hV dX7_tell_57 rfl) ?_
    refine ax_j (ax_gfi hV lf_X7_33 dX7_tell_58 rfl rfl) ?_
    refine ax_j (ax_iload hV dX7_tell_61 rfl) ?_
    refine ax_jb (ax_iast hV dX7_tell_63) (fun s63 => ?_)
    refine ax_j (ax_aload_n hV dX7_tell_64 rfl) ?_
    refine ax_j (ax_gfr hV lf_X7_27 dX7_tell_65 rfl rfl) ?_
    refine ax_j (ax_aload_n hV dX7_tell_68 rfl) ?_
    refine ax_j (ax_gfi hV lf_X7_33 dX7_tell_69 rfl rfl) ?_
    refine ax_j (ax_iload hV dX7_tell_72 rfl) ?_
    refine ax_jb (ax_iast hV dX7_tell_74) (fun s74 => ?_)
    refine ax_j (ax_aload_n hV dX7_tell_75 rfl) ?_
    refine ax_j (ax_gfr hV lf_X7_30 dX7_tell_76 rfl rfl) ?_
    refine ax_j (ax_aload_n hV dX7_tell_79 rfl) ?_
    refine ax_j (ax_gfi hV lf_X7_33 dX7_tell_80 rfl rfl) ?_
    refine ax_j (ax_iconst hV (-1 : Int32) dX7_tell_83 (by decide)) ?_
    refine ax_jb (ax_iast hV dX7_tell_84) (fun s84 => ?_)
    refine ax_j (ax_aload_n hV dX7_tell_85 rfl) ?_
    refine ax_j (ax_dup hV dX7_tell_86 rfl) ?_
    refine ax_j (ax_gfi hV lf_X7_33 dX7_tell_87 rfl rfl) ?_
    refine ax_j (ax_iconst hV (1 : Int32) dX7_tell_90 (by decide)) ?_
    refine ax_j (ax_iadd hV dX7_tell_91) ?_
    refine ax_j (ax_pfi hV lp_X7_33 dX7_tell_92 rfl rfl) ?_
    refine ax_j (ax_aload_n hV dX7_tell_95 rfl) ?_
    refine ax_j (ax_gfi hV lf_X7_33 dX7_tell_96 rfl rfl) ?_
    refine ax_j (ax_iconst hV (1 : Int32) dX7_tell_99 (by decide)) ?_
    refine ax_j (ax_isub hV dX7_tell_100) ?_
    exact ax_jl (fun h => ax_ir hV rfl dX7_tell_101 (hP ((((ax_ui s84 2 7 ((s84.1 2 7) + (1 : Int32))).1 2 7) - (1 : Int32)), (ax_ui s84 2 7 ((s84.1 2 7) + (1 : Int32)))) h))
  · refine ax_j (ax_bipush hV (-4 : Int32) dX7_tell_9 (by decide)) ?_
    exact ax_jl (fun h => ax_ir hV rfl dX7_tell_11 (hP ((-4 : Int32), s) h))
theorem lk_X9_96 : ax_lkV RX9 96 mu_X7_tell RX7 6 := ax_lkV_of (ax_m2 100 rfl rfl) (ax_m2 101 rfl rfl) (ax_m2 102 rfl rfl) (ax_m1 3 rfl rfl) lc_X7_tell rfl ⟨by decide +kernel, by decide +kernel, by decide +kernel⟩

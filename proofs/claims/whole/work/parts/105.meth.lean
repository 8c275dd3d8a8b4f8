def mu_X9_asLong : ax_Mu := (yX9_asLong, cX9_asLong, 1, some .long, 0, 0)
theorem lc_X9_asLong : Cond.code mu_X9_asLong.1 mu_X9_asLong.2.1 mu_X9_asLong.2.2.1 mu_X9_asLong.2.2.2.1 ∈ ax_tb := (ax_m3 109 rfl rfl)
noncomputable def f_X9_asLong (p1 : Int32) : Option (Int64) := some (((-9223372036854775808 : Int64) - p1.toInt64))
theorem T_X9_asLong (p1 : Int32) (s : ax_S) (r : Int64) (h : f_X9_asLong p1 = some r) : ax_M cx_C mu_X9_asLong (fun ad => [.int p1]) s (some (.long r)) s := by
  refine ax_enter (by decide +kernel) 0 (fun ad => [some (.int p1)]) (fun ad => rfl) (fun ad => Nat.le_of_ble_eq_true rfl) (fun X hV ho => ?_)
  refine ax_go (fun r : Int64 => (some (Value.long r), s)) (fun P hP => ?_) h ho
  unfold f_X9_asLong
  refine ax_j (ax_ldc2 hV kc_X9_362 dX9_asLong_0) ?_
  refine ax_j (ax_iload_n hV dX9_asLong_3 rfl) ?_
  refine ax_j (ax_i2l hV dX9_asLong_4) ?_
  refine ax_j (ax_lsub hV dX9_asLong_5) ?_
  exact ax_jl (fun h => ax_lr hV rfl dX9_asLong_6 (hP ((-9223372036854775808 : Int64) - p1.toInt64) h))
theorem lk_X9_228 : ax_lkS RX9 228 mu_X9_asLong 1 := ax_lkS_of (ax_m3 107 rfl rfl) (ax_m3 108 rfl rfl) (ax_m1 1 rfl rfl) lc_X9_asLong ⟨by decide +kernel, by decide +kernel, by decide +kernel⟩
def mu_X9_hangs : ax_Mu := (yX9_hangs, cX9_hangs, 11, some .long, 5, 120)
theorem lc_X9_hangs : Cond.code mu_X9_hangs.1 mu_X9_hangs.2.1 mu_X9_hangs.2.2.1 mu_X9_hangs.2.2.2.1 ∈ ax_tb := (ax_m3 106 rfl rfl)
noncomputable def b_X9_hangs_53 (l1 : Int32) (l2 : Int64) (l4 : Int64) (a : Int64 × Int32 × ax_S) : Option ((Int64 × Int32 × ax_S) ⊕ (Int64 × ax_S)) := (if (a.2.2.1 2 7) ≤ a.2.1 then some (.inr (a.1, a.2.2)) else (if (lg_cmp (l2 &&& (ax_lshl (1 : Int64) a.2.1)) (0 : Int64)) = 0 then some (.inl (a.1, (a.2.1 + 1), a.2.2)) else (f_X6_spanKey l1 (l2 &&& ((ax_lshl (1 : Int64) a.2.1) ^^^ (-1 : Int64))) a.2.2).bind (fun q93 => (if (lg_cmp q93.1 l4) = 0 then some (.inl (a.1, (a.2.1 + 1), q93.2)) else some (.inl ((a.1 ||| (ax_lshl (1 : Int64) a.2.1)), (a.2.1 + 1), q93.2))))))
noncomputable def f_X9_hangs (p1 : Int32) (s : ax_S) : Option (Int64 × ax_S) := (f_X9_isThing p1 s).bind (fun q2 => (if q2 = 0 then (f_X9_asLong (-2 : Int32)).bind (fun q10 => some ((q10, s))) else (f_X9_knownRows s).bind (fun q15 => (f_X6_canHold q15 s).bind (fun q24 => (if q24.1 = 0 then (f_X9_asLong (-3 : Int32)).bind (fun q32 => some ((q32, q24.2))) else (f_X6_spanKey p1 q15 q24.2).bind (fun q42 => (ax_lp (b_X9_hangs_53 p1 q15 q42.1) ((0 : Int64), (0 : Int32), q42.2)).bind (fun e53 => some ((e53.1, e53.2)))))))))
theorem B_X9_hangs_53 (X : ax_G × ax_K × Option Value × ax_S) (hV : ax_ok (cx_C, X) mu_X9_hangs) (l1 : Int32) (l2 : Int64) (l4 : Int64) (P : ((Int64 × Int32 × ax_S) ⊕ (Int64 × ax_S)) → Prop) (hI : ∀ a : Int64 × Int32 × ax_S, P (.inl a) → ax_At (cx_C, X) 53 [some (.ref (ax_ad (cx_C, X) 0)), some (.int l1), some (.long l2), none, some (.long l4), none, some (.long a.1), none, some (.int a.2.1), none, none] [] a.2.2) (hO : ∀ e : Int64 × ax_S, P (.inr e) → ax_At (cx_C, X) 115 [none, none, none, none, none, none, some (.long e.1), none, none, none, none] [] e.2) (a : Int64 × Int32 × ax_S) : ax_J (cx_C, X) P 53 [some (.ref (ax_ad (cx_C, X) 0)), some (.int l1), some (.long l2), none, some (.long l4), none, some (.long a.1), none, some (.int a.2.1), none, none] [] a.2.2 (b_X9_hangs_53 l1 l2 l4 a) := by
  unfold b_X9_hangs_53
  refine ax_j (ax_iload hV dX9_hangs_53 rfl) ?_
  refine ax_j (ax_aload_n hV dX9_hangs_55 rfl) ?_
  refine ax_j (ax_gfr hV lf_X9_25 dX9_hangs_56 rfl rfl) ?_
  refine ax_j (ax_gfi hV lf_X9_159 dX9_hangs_59 rfl rfl) ?_
  refine ax_jif (ax_icmp_ge hV dX9_hangs_62) ?_ ?_
  · refine ax_jf (lv' := [none, none, none, none, none, none, some (.long a.1), none, none, none, none]) [false, false, false, false, false, false, true, false, false, false, false] rfl ?_
    exact ax_jl (fun h => hO (a.1, a.2.2) h)
  · refine ax_j (ax_lconst hV (1 : Int64) dX9_hangs_65 (by decide)) ?_
    refine ax_j (ax_iload hV dX9_hangs_66 rfl) ?_
    refine ax_j (ax_lshl_ hV dX9_hangs_68) ?_
    refine ax_j (ax_lstore hV [some (.ref (ax_ad (cx_C, X) 0)), some (.int l1), some (.long l2), none, some (.long l4), none, some (.long a.1), none, some (.int a.2.1), some (.long (ax_lshl (1 : Int64) a.2.1)), none] dX9_hangs_69 rfl rfl) ?_
    refine ax_j (ax_lload_n hV dX9_hangs_71 rfl) ?_
    refine ax_j (ax_lload hV dX9_hangs_72 rfl) ?_
    refine ax_j (ax_land hV dX9_hangs_74) ?_
    refine ax_j (ax_lconst hV (0 : Int64) dX9_hangs_75 (by decide)) ?_
    refine ax_j (ax_lcmp hV dX9_hangs_76) ?_
    refine ax_jif (ax_if_eq hV dX9_hangs_77) ?_ ?_
    · refine ax_j (ax_iinc hV (a.2.1 + 1) [some (.ref (ax_ad (cx_C, X) 0)), some (.int l1), some (.long l2), none, some (.long l4), none, some (.long a.1), none, some (.int (a.2.1 + 1)), some (.long (ax_lshl (1 : Int64) a.2.1)), none] dX9_hangs_109 rfl rfl rfl rfl) ?_
      refine ax_j (ax_goto hV dX9_hangs_112) ?_
      refine ax_jf (lv' := [some (.ref (ax_ad (cx_C, X) 0)), some (.int l1), some (.long l2), none, some (.long l4), none, some (.long a.1), none, some (.int (a.2.1 + 1)), none, none]) [true, true, true, false, true, false, true, false, true, false, false] rfl ?_
      exact ax_jl (fun h => hI (a.1, (a.2.1 + 1), a.2.2) h)
    · refine ax_j (ax_aload_n hV dX9_hangs_80 rfl) ?_
      refine ax_j (ax_gfr hV lf_X9_10 dX9_hangs_81 rfl rfl) ?_
      refine ax_j (ax_iload_n hV dX9_hangs_84 rfl) ?_
      refine ax_j (ax_lload_n hV dX9_hangs_85 rfl) ?_
      refine ax_j (ax_lload hV dX9_hangs_86 rfl) ?_
      refine ax_j (ax_ldc2 hV kc_X9_165 dX9_hangs_88) ?_
      refine ax_j (ax_lxor hV dX9_hangs_91) ?_
      refine ax_j (ax_land hV dX9_hangs_92) ?_
      refine ax_jb (fun v ho => ax_cVl hV lk_X9_201 rfl dX9_hangs_93 rfl rfl [.int l1, .long (l2 &&& ((ax_lshl (1 : Int64) a.2.1) ^^^ (-1 : Int64)))] [] (fun ad => [.ref (ad 1), .int l1, .long (l2 &&& ((ax_lshl (1 : Int64) a.2.1) ^^^ (-1 : Int64)))]) rfl rfl rfl rfl v.1 v.2 (T_X6_spanKey l1 (l2 &&& ((ax_lshl (1 : Int64) a.2.1) ^^^ (-1 : Int64))) a.2.2 v ho)) (fun q93 => ?_)
      refine ax_j (ax_lload hV dX9_hangs_96 rfl) ?_
      refine ax_j (ax_lcmp hV dX9_hangs_98) ?_
      refine ax_jif (ax_if_eq hV dX9_hangs_99) ?_ ?_
      · refine ax_j (ax_iinc hV (a.2.1 + 1) [some (.ref (ax_ad (cx_C, X) 0)), some (.int l1), some (.long l2), none, some (.long l4), none, some (.long a.1), none, some (.int (a.2.1 + 1)), some (.long (ax_lshl (1 : Int64) a.2.1)), none] dX9_hangs_109 rfl rfl rfl rfl) ?_
        refine ax_j (ax_goto hV dX9_hangs_112) ?_
        refine ax_jf (lv' := [some (.ref (ax_ad (cx_C, X) 0)), some (.int l1), some (.long l2), none, some (.long l4), none, some (.long a.1), none, some (.int (a.2.1 + 1)), none, none]) [true, true, true, false, true, false, true, false, true, false, false] rfl ?_
        exact ax_jl (fun h => hI (a.1, (a.2.1 + 1), q93.2) h)
      · refine ax_j (ax_lload hV dX9_hangs_102 rfl) ?_
        refine ax_j (ax_lload hV dX9_hangs_104 rfl) ?_
        refine ax_j (ax_lor hV dX9_hangs_106) ?_
        refine ax_j (ax_lstore hV [some (.ref (ax_ad (cx_C, X) 0)), some (.int l1), some (.long l2), none, some (.long l4), none, some (.long (a.1 ||| (ax_lshl (1 : Int64) a.2.1))), none, some (.int a.2.1), some (.long (ax_lshl (1 : Int64) a.2.1)), none] dX9_hangs_107 rfl rfl) ?_
        refine ax_j (ax_iinc hV (a.2.1 + 1) [some (.ref (ax_ad (cx_C, X) 0)), some (.int l1), some (.long l2), none, some (.long l4), none, some (.long (a.1 ||| (ax_lshl (1 : Int64) a.2.1))), none, some (.int (a.2.1 + 1)), some (.long (ax_lshl (1 : Int64) a.2.1)), none] dX9_hangs_109 rfl rfl rfl rfl) ?_
        refine ax_j (ax_goto hV dX9_hangs_112) ?_
        refine ax_jf (lv' := [some (.ref (ax_ad (cx_C, X) 0)), some (.int l1), some (.long l2), none, some (.long l4), none, some (.long (a.1 ||| (ax_lshl (1 : Int64) a.2.1))), none, some (.int (a.2.1 + 1)), none, none]) [true, true, true, false, true, false, true, false, true, false, false] rfl ?_
        exact ax_jl (fun h => hI ((a.1 ||| (ax_lshl (1 : Int64) a.2.1)), (a.2.1 + 1), q93.2) h)
theorem T_X9_hangs (p1 : Int32) (s : ax_S) (r : Int64 × ax_S) (h : f_X9_hangs p1 s = some r) : ax_M cx_C mu_X9_hangs (fun ad => [.ref (ad 0), .int p1]) s (some (.long r.1)) r.2 := by
  refine ax_enter (by decide +kernel) 9 (fun ad => [some (.ref (ad 0)), some (.int p1), none, none, none, none, none, none, none, none, none]) (fun ad => rfl) (fun ad => Nat.le_of_ble_eq_true rfl) (fun X hV ho => ?_)
  refine ax_go (fun r : Int64 × ax_S => (some (Value.long r.1), r.2)) (fun P hP => ?_) h ho
  unfold f_X9_hangs
  refine ax_j (ax_aload_n hV dX9_hangs_0 rfl) ?_
  refine ax_j (ax_iload_n hV dX9_hangs_1 rfl) ?_
  refine ax_jb (fun v ho => ax_cVi hV lk_X9_92 rfl dX9_hangs_2 rfl rfl [.int p1] [] (fun ad => [.ref (ad 0), .int p1]) rfl rfl rfl rfl v s (T_X9_isThing p1 s v ho)) (fun q2 => ?_)
  refine ax_jif (ax_if_ne hV dX9_hangs_5) ?_ ?_
  · refine ax_j (ax_bipush hV (-2 : Int32) dX9_hangs_8 (by decide)) ?_
    refine ax_jb (fun v ho => ax_cSl hV lk_X9_228 rfl dX9_hangs_10 [.int (-2 : Int32)] [] (fun ad => [.int (-2 : Int32)]) rfl rfl rfl rfl v s (T_X9_asLong (-2 : Int32) s v ho)) (fun q10 => ?_)
    exact ax_jl (fun h => ax_lr hV rfl dX9_hangs_13 (hP (q10, s) h))
  · refine ax_j (ax_aload_n hV dX9_hangs_14 rfl) ?_
    refine ax_jb (fun v ho => ax_cVl hV lk_X9_161 rfl dX9_hangs_15 rfl rfl [] [] (fun ad => [.ref (ad 0)]) rfl rfl rfl rfl v s (T_X9_knownRows s v ho)) (fun q15 => ?_)
    refine ax_j (ax_lstore_n hV [some (.ref (ax_ad (cx_C, X) 0)), some (.int p1), some (.long q15), none, none, none, none, none, none, none, none] dX9_hangs_18 rfl rfl) ?_
    refine ax_j (ax_aload_n hV dX9_hangs_19 rfl) ?_
    refine ax_j (ax_gfr hV lf_X9_10 dX9_hangs_20 rfl rfl) ?_
    refine ax_j (ax_lload_n hV dX9_hangs_23 rfl) ?_
    refine ax_jb (fun v ho => ax_cVi hV lk_X9_167 rfl dX9_hangs_24 rfl rfl [.long q15] [] (fun ad => [.ref (ad 1), .long q15]) rfl rfl rfl rfl v.1 v.2 (T_X6_canHold q15 s v ho)) (fun q24 => ?_)
    refine ax_jif (ax_if_ne hV dX9_hangs_27) ?_ ?_
    · refine ax_j (ax_bipush hV (-3 : Int32) dX9_hangs_30 (by decide)) ?_
      refine ax_jb (fun v ho => ax_cSl hV lk_X9_228 rfl dX9_hangs_32 [.int (-3 : Int32)] [] (fun ad => [.int (-3 : Int32)]) rfl rfl rfl rfl v q24.2 (T_X9_asLong (-3 : Int32) q24.2 v ho)) (fun q32 => ?_)
      exact ax_jl (fun h => ax_lr hV rfl dX9_hangs_35 (hP (q32, q24.2) h))
    · refine ax_j (ax_aload_n hV dX9_hangs_36 rfl) ?_
      refine ax_j (ax_gfr hV lf_X9_10 dX9_hangs_37 rfl rfl) ?_
      refine ax_j (ax_iload_n hV dX9_hangs_40 rfl) ?_
      refine ax_j (ax_lload_n hV dX9_hangs_41 rfl) ?_
      refine ax_jb (fun v ho => ax_cVl hV lk_X9_201 rfl dX9_hangs_42 rfl rfl [.int p1, .long q15] [] (fun ad => [.ref (ad 1), .int p1, .long q15]) rfl rfl rfl rfl v.1 v.2 (T_X6_spanKey p1 q15 q24.2 v ho)) (fun q42 => ?_)
      refine ax_j (ax_lstore hV [some (.ref (ax_ad (cx_C, X) 0)), some (.int p1), some (.long q15), none, some (.long q42.1), none, none, none, none, none, none] dX9_hangs_45 rfl rfl) ?_
      refine ax_j (ax_lconst hV (0 : Int64) dX9_hangs_47 (by decide)) ?_
      refine ax_j (ax_lstore hV [some (.ref (ax_ad (cx_C, X) 0)), some (.int p1), some (.long q15), none, some (.long q42.1), none, some (.long (0 : Int64)), none, none, none, none] dX9_hangs_48 rfl rfl) ?_
      refine ax_j (ax_iconst hV (0 : Int32) dX9_hangs_50 (by decide)) ?_
      refine ax_j (ax_istore hV [some (.ref (ax_ad (cx_C, X) 0)), some (.int p1), some (.long q15), none, some (.long q42.1), none, some (.long (0 : Int64)), none, some (.int (0 : Int32)), none, none] dX9_hangs_51 rfl rfl) ?_
      refine ax_jlp ((0 : Int64), (0 : Int32), q42.2) (fun x53 : Int64 × Int32 × ax_S => [some (.ref (ax_ad (cx_C, X) 0)), some (.int p1), some (.long q15), none, some (.long q42.1), none, some (.long x53.1), none, some (.int x53.2.1), none, none]) (fun x53 : Int64 × Int32 × ax_S => x53.2.2) (fun y53 : Int64 × ax_S => [none, none, none, none, none, none, some (.long y53.1), none, none, none, none]) (fun y53 : Int64 × ax_S => y53.2) (fun P' h1 h2 w => B_X9_hangs_53 X hV p1 q15 q42.1 P' h1 h2 w) (fun e53 => ?_)
      refine ax_j (ax_lload hV dX9_hangs_115 rfl) ?_
      exact ax_jl (fun h => ax_lr hV rfl dX9_hangs_117 (hP (e53.1, e53.2) h))
def mu_J13_bitCount_95d88 : ax_Mu := (yJ13_bitCount_95d88, cJ13_bitCount_95d88, 2, some .int, 0, 0)
theorem lc_J13_bitCount_95d88 : Cond.code mu_J13_bitCount_95d88.1 mu_J13_bitCount_95d88.2.1 mu_J13_bitCount_95d88.2.2.1 mu_J13_bitCount_95d88.2.2.2.1 ∈ ax_tb := (ax_m3 126 rfl rfl)
noncomputable def f_J13_bitCount_95d88 (p1 : Int64) : Option (Int32) := some (((((((((((p1 - ((ax_lushr p1 (1 : Int32)) &&& (6148914691236517205 : Int64))) &&& (3689348814741910323 : Int64)) + ((ax_lushr (p1 - ((ax_lushr p1 (1 : Int32)) &&& (6148914691236517205 : Int64))) (2 : Int32)) &&& (3689348814741910323 : Int64))) + (ax_lushr (((p1 - ((ax_lushr p1 (1 : Int32)) &&& (6148914691236517205 : Int64))) &&& (3689348814741910323 : Int64)) + ((ax_lushr (p1 - ((ax_lushr p1 (1 : Int32)) &&& (6148914691236517205 : Int64))) (2 : Int32)) &&& (3689348814741910323 : Int64))) (4 : Int32))) &&& (1085102592571150095 : Int64)) + (ax_lushr (((((p1 - ((ax_lushr p1 (1 : Int32)) &&& (6148914691236517205 : Int64))) &&& (3689348814741910323 : Int64)) + ((ax_lushr (p1 - ((ax_lushr p1 (1 : Int32)) &&& (6148914691236517205 : Int64))) (2 : Int32)) &&& (3689348814741910323 : Int64))) + (ax_lushr (((p1 - ((ax_lushr p1 (1 : Int32)) &&& (6148914691236517205 : Int64))) &&& (3689348814741910323 : Int64)) + ((ax_lushr (p1 - ((ax_lushr p1 (1 : Int32)) &&& (6148914691236517205 : Int64))) (2 : Int32)) &&& (3689348814741910323 : Int64))) (4 : Int32))) &&& (1085102592571150095 : Int64)) (8 : Int32))) + (ax_lushr ((((((p1 - ((ax_lushr p1 (1 : Int32)) &&& (6148914691236517205 : Int64))) &&& (3689348814741910323 : Int64)) + ((ax_lushr (p1 - ((ax_lushr p1 (1 : Int32)) &&& (6148914691236517205 : Int64))) (2 : Int32)) &&& (3689348814741910323 : Int64))) + (ax_lushr (((p1 - ((ax_lushr p1 (1 : Int32)) &&& (6148914691236517205 : Int64))) &&& (3689348814741910323 : Int64)) + ((ax_lushr (p1 - ((ax_lushr p1 (1 : Int32)) &&& (6148914691236517205 : Int64))) (2 : Int32)) &&& (3689348814741910323 : Int64))) (4 : Int32))) &&& (1085102592571150095 : Int64)) + (ax_lushr (((((p1 - ((ax_lushr p1 (1 : Int32)) &&& (6148914691236517205 : Int64))) &&& (3689348814741910323 : Int64)) + ((ax_lushr (p1 - ((ax_lushr p1 (1 : Int32)) &&& (6148914691236517205 : Int64))) (2 : Int32)) &&& (3689348814741910323 : Int64))) + (ax_lushr (((p1 - ((ax_lushr p1 (1 : Int32)) &&& (6148914691236517205 : Int64))) &&& (3689348814741910323 : Int64)) + ((ax_lushr (p1 - ((ax_lushr p1 (1 : Int32)) &&& (6148914691236517205 : Int64))) (2 : Int32)) &&& (3689348814741910323 : Int64))) (4 : Int32))) &&& (1085102592571150095 : Int64)) (8 : Int32))) (16 : Int32))) + (ax_lushr (((((((p1 - ((ax_lushr p1 (1 : Int32)) &&& (6148914691236517205 : Int64))) &&& (3689348814741910323 : Int64)) + ((ax_lushr (p1 - ((ax_lushr p1 (1 : Int32)) &&& (6148914691236517205 : Int64))) (2 : Int32)) &&& (3689348814741910323 : Int64))) + (ax_lushr (((p1 - ((ax_lushr p1 (1 : Int32)) &&& (6148914691236517205 : Int64))) &&& (3689348814741910323 : Int64)) + ((ax_lushr (p1 - ((ax_lushr p1 (1 : Int32)) &&& (6148914691236517205 : Int64))) (2 : Int32)) &&& (3689348814741910323 : Int64))) (4 : Int32))) &&& (1085102592571150095 : Int64)) + (ax_lushr (((((p1 - ((ax_lushr p1 (1 : Int32)) &&& (6148914691236517205 : Int64))) &&& (3689348814741910323 : Int64)) + ((ax_lushr (p1 - ((ax_lushr p1 (1 : Int32)) &&& (6148914691236517205 : Int64))) (2 : Int32)) &&& (3689348814741910323 : Int64))) + (ax_lushr (((p1 - ((ax_lushr p1 (1 : Int32)) &&& (6148914691236517205 : Int64))) &&& (3689348814741910323 : Int64)) + ((ax_lushr (p1 - ((ax_lushr p1 (1 : Int32)) &&& (6148914691236517205 : Int64))) (2 : Int32)) &&& (3689348814741910323 : Int64))) (4 : Int32))) &&& (1085102592571150095 : Int64)) (8 : Int32))) + (ax_lushr ((((((p1 - ((ax_lushr p1 (1 : Int32)) &&& (6148914691236517205 : Int64))) &&& (3689348814741910323 : Int64)) + ((ax_lushr (p1 - ((ax_lushr p1 (1 : Int32)) &&& (6148914691236517205 : Int64))) (2 : Int32)) &&& (3689348814741910323 : Int64))) + (ax_lushr (((p1 - ((ax_lushr p1 (1 : Int32)) &&& (6148914691236517205 : Int64))) &&& (3689348814741910323 : Int64)) + ((ax_lushr (p1 - ((ax_lushr p1 (1 : Int32)) &&& (6148914691236517205 : Int64))) (2 : Int32)) &&& (3689348814741910323 : Int64))) (4 : Int32))) &&& (1085102592571150095 : Int64)) + (ax_lushr (((((p1 - ((ax_lushr p1 (1 : Int32)) &&& (6148914691236517205 : Int64))) &&& (3689348814741910323 : Int64)) + ((ax_lushr (p1 - ((ax_lushr p1 (1 : Int32)) &&& (6148914691236517205 : Int64))) (2 : Int32)) &&& (3689348814741910323 : Int64))) + (ax_lushr (((p1 - ((ax_lushr p1 (1 : Int32)) &&& (6148914691236517205 : Int64))) &&& (3689348814741910323 : Int64)) + ((ax_lushr (p1 - ((ax_lushr p1 (1 : Int32)) &&& (6148914691236517205 : Int64))) (2 : Int32)) &&& (3689348814741910323 : Int64))) (4 : Int32))) &&& (1085102592571150095 : Int64)) (8 : Int32))) (16 : Int32))) (32 : Int32))).toInt32) &&& (127 : Int32)))
theorem T_J13_bitCount_95d88 (p1 : Int64) (s : ax_S) (r : Int32) (h : f_J13_bitCount_95d88 p1 = some r) : ax_M cx_C mu_J13_bitCount_95d88 (fun ad => [.long p1]) s (some (.int r)) s := by
  refine ax_enter (by decide +kernel) 0 (fun ad => [some (.long p1), none]) (fun ad => rfl) (fun ad => Nat.le_of_ble_eq_true rfl) (fun X hV ho => ?_)
  refine ax_go (fun r : Int32 => (some (Value.int r), s)) (fun P hP => ?_) h ho
  unfold f_J13_bitCount_95d88
  refine ax_j (ax_lload_n hV dJ13_bitCount_95d88_0 rfl) ?_
  refine ax_j (ax_lload_n hV dJ13_bitCount_95d88_1 rfl) ?_
  refine ax_j (ax_iconst hV (1 : Int32) dJ13_bitCount_95d88_2 (by decide)) ?_
  refine ax_j (ax_lushr_ hV dJ13_bitCount_95d88_3) ?_
  refine ax_j (ax_ldc2 hV kc_J13_314 dJ13_bitCount_95d88_4) ?_
  refine ax_j (ax_land hV dJ13_bitCount_95d88_7) ?_
  refine ax_j (ax_lsub hV dJ13_bitCount_95d88_8) ?_
  refine ax_j (ax_lstore_n hV [some (.long (p1 - ((ax_lushr p1 (1 : Int32)) &&& (6148914691236517205 : Int64)))), none] dJ13_bitCount_95d88_9 rfl rfl) ?_
  refine ax_j (ax_lload_n hV dJ13_bitCount_95d88_10 rfl) ?_
  refine ax_j (ax_ldc2 hV kc_J13_316 dJ13_bitCount_95d88_11) ?_
  refine ax_j (ax_land hV dJ13_bitCount_95d88_14) ?_
  refine ax_j (ax_lload_n hV dJ13_bitCount_95d88_15 rfl) ?_
  refine ax_j (ax_iconst hV (2 : Int32) dJ13_bitCount_95d88_16 (by decide)) ?_
  refine ax_j (ax_lushr_ hV dJ13_bitCount_95d88_17) ?_
  refine ax_j (ax_ldc2 hV kc_J13_316 dJ13_bitCount_95d88_18) ?_
  refine ax_j (ax_land hV dJ13_bitCount_95d88_21) ?_
  refine ax_j (ax_ladd hV dJ13_bitCount_95d88_22) ?_
  refine ax_j (ax_lstore_n hV [some (.long (((p1 - ((ax_lushr p1 (1 : Int32)) &&& (6148914691236517205 : Int64))) &&& (3689348814741910323 : Int64)) + ((ax_lushr (p1 - ((ax_lushr p1 (1 : Int32)) &&& (6148914691236517205 : Int64))) (2 : Int32)) &&& (3689348814741910323 : Int64)))), none] dJ13_bitCount_95d88_23 rfl rfl) ?_
  refine ax_j (ax_lload_n hV dJ13_bitCount_95d88_24 rfl) ?_
  refine ax_j (ax_lload_n hV dJ13_bitCount_95d88_25 rfl) ?_
  refine ax_j (ax_iconst hV (4 : Int32) dJ13_bitCount_95d88_26 (by decide)) ?_
  refine ax_j (ax_lushr_ hV dJ13_bitCount_95d88_27) ?_
  refine ax_j (ax_ladd hV dJ13_bitCount_95d88_28) ?_
  refine ax_j (ax_ldc2 hV kc_J13_318 dJ13_bitCount_95d88_29) ?_
  refine ax_j (ax_land hV dJ13_bitCount_95d88_32) ?_
  refine ax_j (ax_lstore_n hV [some (.long (((((p1 - ((ax_lushr p1 (1 : Int32)) &&& (6148914691236517205 : Int64))) &&& (3689348814741910323 : Int64)) + ((ax_lushr (p1 - ((ax_lushr p1 (1 : Int32)) &&& (6148914691236517205 : Int64))) (2 : Int32)) &&& (3689348814741910323 : Int64))) + (ax_lushr (((p1 - ((ax_lushr p1 (1 : Int32)) &&& (6148914691236517205 : Int64))) &&& (3689348814741910323 : Int64)) + ((ax_lushr (p1 - ((ax_lushr p1 (1 : Int32)) &&& (6148914691236517205 : Int64))) (2 : Int32)) &&& (3689348814741910323 : Int64))) (4 : Int32))) &&& (1085102592571150095 : Int64))), none] dJ13_bitCount_95d88_33 rfl rfl) ?_
  refine ax_j (ax_lload_n hV dJ13_bitCount_95d88_34 rfl) ?_
  refine ax_j (ax_lload_n hV dJ13_bitCount_95d88_35 rfl) ?_
  refine ax_j (ax_bipush hV (8 : Int32) dJ13_bitCount_95d88_36 (by decide)) ?_
  refine ax_j (ax_lushr_ hV dJ13_bitCount_95d88_38) ?_
  refine ax_j (ax_ladd hV dJ13_bitCount_95d88_39) ?_
  refine ax_j (ax_lstore_n hV [some (.long ((((((p1 - ((ax_lushr p1 (1 : Int32)) &&& (6148914691236517205 : Int64))) &&& (3689348814741910323 : Int64)) + ((ax_lushr (p1 - ((ax_lushr p1 (1 : Int32)) &&& (6148914691236517205 : Int64))) (2 : Int32)) &&& (3689348814741910323 : Int64))) + (ax_lushr (((p1 - ((ax_lushr p1 (1 : Int32)) &&& (6148914691236517205 : Int64))) &&& (3689348814741910323 : Int64)) + ((ax_lushr (p1 - ((ax_lushr p1 (1 : Int32)) &&& (6148914691236517205 : Int64))) (2 : Int32)) &&& (3689348814741910323 : Int64))) (4 : Int32))) &&& (1085102592571150095 : Int64)) + (ax_lushr (((((p1 - ((ax_lushr p1 (1 : Int32)) &&& (6148914691236517205 : Int64))) &&& (3689348814741910323 : Int64)) + ((ax_lushr (p1 - ((ax_lushr p1 (1 : Int32)) &&& (6148914691236517205 : Int64))) (2 : Int32)) &&& (3689348814741910323 : Int64))) + (ax_lushr (((p1 - ((ax_lushr p1 (1 : Int32)) &&& (6148914691236517205 : Int64))) &&& (3689348814741910323 : Int64)) + ((ax_lushr (p1 - ((ax_lushr p1 (1 : Int32)) &&& (6148914691236517205 : Int64))) (2 : Int32)) &&& (3689348814741910323 : Int64))) (4 : Int32))) &&& (1085102592571150095 : Int64)) (8 : Int32)))), none] dJ13_bitCount_95d88_40 rfl rfl) ?_
  refine ax_j (ax_lload_n hV dJ13_bitCount_95d88_41 rfl) ?_
  refine ax_j (ax_lload_n hV dJ13_bitCount_95d88_42 rfl) ?_
  refine ax_j (ax_bipush hV (16 : Int32) dJ13_bitCount_95d88_43 (by decide)) ?_
  refine ax_j (ax_lushr_ hV dJ13_bitCount_95d88_45) ?_
  refine ax_j (ax_ladd hV dJ13_bitCount_95d88_46) ?_
  refine ax_j (ax_lstore_n hV [some (.long (((((((p1 - ((ax_lushr p1 (1 : Int32)) &&& (6148914691236517205 : Int64))) &&& (3689348814741910323 : Int64)) + ((ax_lushr (p1 - ((ax_lushr p1 (1 : Int32)) &&& (6148914691236517205 : Int64))) (2 : Int32)) &&& (3689348814741910323 : Int64))) + (ax_lushr (((p1 - ((ax_lushr p1 (1 : Int32)) &&& (6148914691236517205 : Int64))) &&& (3689348814741910323 : Int64)) + ((ax_lushr (p1 - ((ax_lushr p1 (1 : Int32)) &&& (6148914691236517205 : Int64))) (2 : Int32)) &&& (3689348814741910323 : Int64))) (4 : Int32))) &&& (1085102592571150095 : Int64)) + (ax_lushr (((((p1 - ((ax_lushr p1 (1 : Int32)) &&& (6148914691236517205 : Int64))) &&& (3689348814741910323 : Int64)) + ((ax_lushr (p1 - ((ax_lushr p1 (1 : Int32)) &&& (6148914691236517205 : Int64))) (2 : Int32)) &&& (3689348814741910323 : Int64))) + (ax_lushr (((p1 - ((ax_lushr p1 (1 : Int32)) &&& (6148914691236517205 : Int64))) &&& (3689348814741910323 : Int64)) + ((ax_lushr (p1 - ((ax_lushr p1 (1 : Int32)) &&& (6148914691236517205 : Int64))) (2 : Int32)) &&& (3689348814741910323 : Int64))) (4 : Int32))) &&& (1085102592571150095 : Int64)) (8 : Int32))) + (ax_lushr ((((((p1 - ((ax_lushr p1 (1 : Int32)) &&& (6148914691236517205 : Int64))) &&& (3689348814741910323 : Int64)) + ((ax_lushr (p1 - ((ax_lushr p1 (1 : Int32)) &&& (6148914691236517205 : Int64))) (2 : Int32)) &&& (3689348814741910323 : Int64))) + (ax_lushr (((p1 - ((ax_lushr p1 (1 : Int32)) &&& (6148914691236517205 : Int64))) &&& (3689348814741910323 : Int64)) + ((ax_lushr (p1 - ((ax_lushr p1 (1 : Int32)) &&& (6148914691236517205 : Int64))) (2 : Int32)) &&& (3689348814741910323 : Int64))) (4 : Int32))) &&& (1085102592571150095 : Int64)) + (ax_lushr (((((p1 - ((ax_lushr p1 (1 : Int32)) &&& (6148914691236517205 : Int64))) &&& (3689348814741910323 : Int64)) + ((ax_lushr (p1 - ((ax_lushr p1 (1 : Int32)) &&& (6148914691236517205 : Int64))) (2 : Int32)) &&& (3689348814741910323 : Int64))) + (ax_lushr (((p1 - ((ax_lushr p1 (1 : Int32)) &&& (6148914691236517205 : Int64))) &&& (3689348814741910323 : Int64)) + ((ax_lushr (p1 - ((ax_lushr p1 (1 : Int32)) &&& (6148914691236517205 : Int64))) (2 : Int32)) &&& (3689348814741910323 : Int64))) (4 : Int32))) &&& (1085102592571150095 : Int64)) (8 : Int32))) (16 : Int32)))), none] dJ13_bitCount_95d88_47 rfl rfl) ?_
  refine ax_j (ax_lload_n hV dJ13_bitCount_95d88_48 rfl) ?_
  refine ax_j (ax_lload_n hV dJ13_bitCount_95d88_49 rfl) ?_
  refine ax_j (ax_bipush hV (32 : Int32) dJ13_bitCount_95d88_50 (by decide)) ?_
  refine ax_j (ax_lushr_ hV dJ13_bitCount_95d88_52) ?_
  refine ax_j (ax_ladd hV dJ13_bitCount_95d88_53) ?_
  refine ax_j (ax_lstore_n hV [some (.long ((((((((p1 - ((ax_lushr p1 (1 : Int32)) &&& (6148914691236517205 : Int64))) &&& (3689348814741910323 : Int64)) + ((ax_lushr (p1 - ((ax_lushr p1 (1 : Int32)) &&& (6148914691236517205 : Int64))) (2 : Int32)) &&& (3689348814741910323 : Int64))) + (ax_lushr (((p1 - ((ax_lushr p1 (1 : Int32)) &&& (6148914691236517205 : Int64))) &&& (3689348814741910323 : Int64)) + ((ax_lushr (p1 - ((ax_lushr p1 (1 : Int32)) &&& (6148914691236517205 : Int64))) (2 : Int32)) &&& (3689348814741910323 : Int64))) (4 : Int32))) &&& (1085102592571150095 : Int64)) + (ax_lushr (((((p1 - ((ax_lushr p1 (1 : Int32)) &&& (6148914691236517205 : Int64))) &&& (3689348814741910323 : Int64)) + ((ax_lushr (p1 - ((ax_lushr p1 (1 : Int32)) &&& (6148914691236517205 : Int64))) (2 : Int32)) &&& (3689348814741910323 : Int64))) + (ax_lushr (((p1 - ((ax_lushr p1 (1 : Int32)) &&& (6148914691236517205 : Int64))) &&& (3689348814741910323 : Int64)) + ((ax_lushr (p1 - ((ax_lushr p1 (1 : Int32)) &&& (6148914691236517205 : Int64))) (2 : Int32)) &&& (3689348814741910323 : Int64))) (4 : Int32))) &&& (1085102592571150095 : Int64)) (8 : Int32))) + (ax_lushr ((((((p1 - ((ax_lushr p1 (1 : Int32)) &&& (6148914691236517205 : Int64))) &&& (3689348814741910323 : Int64)) + ((ax_lushr (p1 - ((ax_lushr p1 (1 : Int32)) &&& (6148914691236517205 : Int64))) (2 : Int32)) &&& (3689348814741910323 : Int64))) + (ax_lushr (((p1 - ((ax_lushr p1 (1 : Int32)) &&& (6148914691236517205 : Int64))) &&& (3689348814741910323 : Int64)) + ((ax_lushr (p1 - ((ax_lushr p1 (1 : Int32)) &&& (6148914691236517205 : Int64))) (2 : Int32)) &&& (3689348814741910323 : Int64))) (4 : Int32))) &&& (1085102592571150095 : Int64)) + (ax_lushr (((((p1 - ((ax_lushr p1 (1 : Int32)) &&& (6148914691236517205 : Int64))) &&& (3689348814741910323 : Int64)) + ((ax_lushr (p1 - ((ax_lushr p1 (1 : Int32)) &&& (6148914691236517205 : Int64))) (2 : Int32)) &&& (3689348814741910323 : Int64))) + (ax_lushr (((p1 - ((ax_lushr p1 (1 : Int32)) &&& (6148914691236517205 : Int64))) &&& (3689348814741910323 : Int64)) + ((ax_lushr (p1 - ((ax_lushr p1 (1 : Int32)) &&& (6148914691236517205 : Int64))) (2 : Int32)) &&& (3689348814741910323 : Int64))) (4 : Int32))) &&& (1085102592571150095 : Int64)) (8 : Int32))) (16 : Int32))) + (ax_lushr (((((((p1 - ((ax_lushr p1 (1 : Int32)) &&& (6148914691236517205 : Int64))) &&& (3689348814741910323 : Int64)) + ((ax_lushr (p1 - ((ax_lushr p1 (1 : Int32)) &&& (6148914691236517205 : Int64))) (2 : Int32)) &&& (3689348814741910323 : Int64))) + (ax_lushr (((p1 - ((ax_lushr p1 (1 : Int32)) &&& (6148914691236517205 : Int64))) &&& (3689348814741910323 : Int64)) + ((ax_lushr (p1 - ((ax_lushr p1 (1 : Int32)) &&& (6148914691236517205 : Int64))) (2 : Int32)) &&& (3689348814741910323 : Int64))) (4 : Int32))) &&& (1085102592571150095 : Int64)) + (ax_lushr (((((p1 - ((ax_lushr p1 (1 : Int32)) &&& (6148914691236517205 : Int64))) &&& (3689348814741910323 : Int64)) + ((ax_lushr (p1 - ((ax_lushr p1 (1 : Int32)) &&& (6148914691236517205 : Int64))) (2 : Int32)) &&& (3689348814741910323 : Int64))) + (ax_lushr (((p1 - ((ax_lushr p1 (1 : Int32)) &&& (6148914691236517205 : Int64))) &&& (3689348814741910323 : Int64)) + ((ax_lushr (p1 - ((ax_lushr p1 (1 : Int32)) &&& (6148914691236517205 : Int64))) (2 : Int32)) &&& (3689348814741910323 : Int64))) (4 : Int32))) &&& (1085102592571150095 : Int64)) (8 : Int32))) + (ax_lushr ((((((p1 - ((ax_lushr p1 (1 : Int32)) &&& (6148914691236517205 : Int64))) &&& (3689348814741910323 : Int64)) + ((ax_lushr (p1 - ((ax_lushr p1 (1 : Int32)) &&& (6148914691236517205 : Int64))) (2 : Int32)) &&& (3689348814741910323 : Int64))) + (ax_lushr (((p1 - ((ax_lushr p1 (1 : Int32)) &&& (6148914691236517205 : Int64))) &&& (3689348814741910323 : Int64)) + ((ax_lushr (p1 - ((ax_lushr p1 (1 : Int32)) &&& (6148914691236517205 : Int64))) (2 : Int32)) &&& (3689348814741910323 : Int64))) (4 : Int32))) &&& (1085102592571150095 : Int64)) + (ax_lushr (((((p1 - ((ax_lushr p1 (1 : Int32)) &&& (6148914691236517205 : Int64))) &&& (3689348814741910323 : Int64)) + ((ax_lushr (p1 - ((ax_lushr p1 (1 : Int32)) &&& (6148914691236517205 : Int64))) (2 : Int32)) &&& (3689348814741910323 : Int64))) + (ax_lushr (((p1 - ((ax_lushr p1 (1 : Int32)) &&& (6148914691236517205 : Int64))) &&& (3689348814741910323 : Int64)) + ((ax_lushr (p1 - ((ax_lushr p1 (1 : Int32)) &&& (6148914691236517205 : Int64))) (2 : Int32)) &&& (3689348814741910323 : Int64))) (4 : Int32))) &&& (1085102592571150095 : Int64)) (8 : Int32))) (16 : Int32))) (32 : Int32)))), none] dJ13_bitCount_95d88_54 rfl rfl) ?_
  refine ax_j (ax_lload_n hV dJ13_bitCount_95d88_55 rfl) ?_
  refine ax_j (ax_l2i hV dJ13_bitCount_95d88_56) ?_
  refine ax_j (ax_bipush hV (127 : Int32) dJ13_bitCount_95d88_57 (by decide)) ?_
  refine ax_j (ax_iand hV dJ13_bitCount_95d88_59) ?_
  exact ax_jl (fun h => ax_ir hV rfl dJ13_bitCount_95d88_60 (hP ((((((((((p1 - ((ax_lushr p1 (1 : Int32)) &&& (6148914691236517205 : Int64))) &&& (3689348814741910323 : Int64)) + ((ax_lushr (p1 - ((ax_lushr p1 (1 : Int32)) &&& (6148914691236517205 : Int64))) (2 : Int32)) &&& (3689348814741910323 : Int64))) + (ax_lushr (((p1 - ((ax_lushr p1 (1 : Int32)) &&& (6148914691236517205 : Int64))) &&& (3689348814741910323 : Int64)) + ((ax_lushr (p1 - ((ax_lushr p1 (1 : Int32)) &&& (6148914691236517205 : Int64))) (2 : Int32)) &&& (3689348814741910323 : Int64))) (4 : Int32))) &&& (1085102592571150095 : Int64)) + (ax_lushr (((((p1 - ((ax_lushr p1 (1 : Int32)) &&& (6148914691236517205 : Int64))) &&& (3689348814741910323 : Int64)) + ((ax_lushr (p1 - ((ax_lushr p1 (1 : Int32)) &&& (6148914691236517205 : Int64))) (2 : Int32)) &&& (3689348814741910323 : Int64))) + (ax_lushr (((p1 - ((ax_lushr p1 (1 : Int32)) &&& (6148914691236517205 : Int64))) &&& (3689348814741910323 : Int64)) + ((ax_lushr (p1 - ((ax_lushr p1 (1 : Int32)) &&& (6148914691236517205 : Int64))) (2 : Int32)) &&& (3689348814741910323 : Int64))) (4 : Int32))) &&& (1085102592571150095 : Int64)) (8 : Int32))) + (ax_lushr ((((((p1 - ((ax_lushr p1 (1 : Int32)) &&& (6148914691236517205 : Int64))) &&& (3689348814741910323 : Int64)) + ((ax_lushr (p1 - ((ax_lushr p1 (1 : Int32)) &&& (6148914691236517205 : Int64))) (2 : Int32)) &&& (3689348814741910323 : Int64))) + (ax_lushr (((p1 - ((ax_lushr p1 (1 : Int32)) &&& (6148914691236517205 : Int64))) &&& (3689348814741910323 : Int64)) + ((ax_lushr (p1 - ((ax_lushr p1 (1 : Int32)) &&& (6148914691236517205 : Int64))) (2 : Int32)) &&& (3689348814741910323 : Int64))) (4 : Int32))) &&& (1085102592571150095 : Int64)) + (ax_lushr (((((p1 - ((ax_lushr p1 (1 : Int32)) &&& (6148914691236517205 : Int64))) &&& (3689348814741910323 : Int64)) + ((ax_lushr (p1 - ((ax_lushr p1 (1 : Int32)) &&& (6148914691236517205 : Int64))) (2 : Int32)) &&& (3689348814741910323 : Int64))) + (ax_lushr (((p1 - ((ax_lushr p1 (1 : Int32)) &&& (6148914691236517205 : Int64))) &&& (3689348814741910323 : Int64)) + ((ax_lushr (p1 - ((ax_lushr p1 (1 : Int32)) &&& (6148914691236517205 : Int64))) (2 : Int32)) &&& (3689348814741910323 : Int64))) (4 : Int32))) &&& (1085102592571150095 : Int64)) (8 : Int32))) (16 : Int32))) + (ax_lushr (((((((p1 - ((ax_lushr p1 (1 : Int32)) &&& (6148914691236517205 : Int64))) &&& (3689348814741910323 : Int64)) + ((ax_lushr (p1 - ((ax_lushr p1 (1 : Int32)) &&& (6148914691236517205 : Int64))) (2 : Int32)) &&& (3689348814741910323 : Int64))) + (ax_lushr (((p1 - ((ax_lushr p1 (1 : Int32)) &&& (6148914691236517205 : Int64))) &&& (3689348814741910323 : Int64)) + ((ax_lushr (p1 - ((ax_lushr p1 (1 : Int32)) &&& (6148914691236517205 : Int64))) (2 : Int32)) &&& (3689348814741910323 : Int64))) (4 : Int32))) &&& (1085102592571150095 : Int64)) + (ax_lushr (((((p1 - ((ax_lushr p1 (1 : Int32)) &&& (6148914691236517205 : Int64))) &&& (3689348814741910323 : Int64)) + ((ax_lushr (p1 - ((ax_lushr p1 (1 : Int32)) &&& (6148914691236517205 : Int64))) (2 : Int32)) &&& (3689348814741910323 : Int64))) + (ax_lushr (((p1 - ((ax_lushr p1 (1 : Int32)) &&& (6148914691236517205 : Int64))) &&& (3689348814741910323 : Int64)) + ((ax_lushr (p1 - ((ax_lushr p1 (1 : Int32)) &&& (6148914691236517205 : Int64))) (2 : Int32)) &&& (3689348814741910323 : Int64))) (4 : Int32))) &&& (1085102592571150095 : Int64)) (8 : Int32))) + (ax_lushr ((((((p1 - ((ax_lushr p1 (1 : Int32)) &&& (6148914691236517205 : Int64))) &&& (3689348814741910323 : Int64)) + ((ax_lushr (p1 - ((ax_lushr p1 (1 : Int32)) &&& (6148914691236517205 : Int64))) (2 : Int32)) &&& (3689348814741910323 : Int64))) + (ax_lushr (((p1 - ((ax_lushr p1 (1 : Int32)) &&& (6148914691236517205 : Int64))) &&& (3689348814741910323 : Int64)) + ((ax_lushr (p1 - ((ax_lushr p1 (1 : Int32)) &&& (6148914691236517205 : Int64))) (2 : Int32)) &&& (3689348814741910323 : Int64))) (4 : Int32))) &&& (1085102592571150095 : Int64)) + (ax_lushr (((((p1 - ((ax_lushr p1 (1 : Int32)) &&& (6148914691236517205 : Int64))) &&& (3689348814741910323 : Int64)) + ((ax_lushr (p1 - ((ax_lushr p1 (1 : Int32)) &&& (6148914691236517205 : Int64))) (2 : Int32)) &&& (3689348814741910323 : Int64))) + (ax_lushr (((p1 - ((ax_lushr p1 (1 : Int32)) &&& (6148914691236517205 : Int64))) &&& (3689348814741910323 : Int64)) + ((ax_lushr (p1 - ((ax_lushr p1 (1 : Int32)) &&& (6148914691236517205 : Int64))) (2 : Int32)) &&& (3689348814741910323 : Int64))) (4 : Int32))) &&& (1085102592571150095 : Int64)) (8 : Int32))) (16 : Int32))) (32 : Int32))).toInt32) &&& (127 : Int32)) h))
theorem lk_X9_334 : ax_lkS RX9 334 mu_J13_bitCount_95d88 1 := ax_lkS_of (ax_m3 124 rfl rfl) (ax_m3 125 rfl rfl) (ax_m1 14 rfl rfl) lc_J13_bitCount_95d88 ⟨by decide +kernel, by decide +kernel, by decide +kernel⟩
def mu_X9_lookForDoubts : ax_Mu := (yX9_lookForDoubts, cX9_lookForDoubts, 3, some .int, 5, 126)
theorem lc_X9_lookForDoubts : Cond.code mu_X9_lookForDoubts.1 mu_X9_lookForDoubts.2.1 mu_X9_lookForDoubts.2.2.1 mu_X9_lookForDoubts.2.2.2.1 ∈ ax_tb := (ax_m3 118 rfl rfl)
noncomputable def f_X9_lookForDoubts (p1 : Int64) (s : ax_S) : Option (Int32 × ax_S) := (f_X3_clear s).bind (fun q4 => (f_X6_canHold p1 q4).bind (fun q12 => (if q12.1 = 0 then (f_J13_bitCount_95d88 p1).bind (fun q21 => (if q21 ≤ (12 : Int32) then (f_X3_search p1 q12.2).bind (fun q41 => some (((0 : Int32), q41))) else some (((-4 : Int32), q12.2)))) else some (((0 : Int32), q12.2)))))
theorem T_X9_lookForDoubts (p1 : Int64) (s : ax_S) (r : Int32 × ax_S) (h : f_X9_lookForDoubts p1 s = some r) : ax_M cx_C mu_X9_lookForDoubts (fun ad => [.ref (ad 0), .long p1]) s (some (.int r.1)) r.2 := by
  refine ax_enter (by decide +kernel) 0 (fun ad => [some (.ref (ad 0)), some (.long p1), none]) (fun ad => rfl) (fun ad => Nat.le_of_ble_eq_true rfl) (fun X hV ho => ?_)
  refine ax_go (fun r : Int32 × ax_S => (some (Value.int r.1), r.2)) (fun P hP => ?_) h ho
  unfold f_X9_lookForDoubts
  refine ax_j (ax_aload_n hV dX9_lookForDoubts_0 rfl) ?_
  refine ax_j (ax_gfr hV lf_X9_29 dX9_lookForDoubts_1 rfl rfl) ?_
  refine ax_jb (fun v ho => ax_cVv hV lk_X9_390 rfl dX9_lookForDoubts_4 rfl rfl [] [] (fun ad => [.ref (ad 4)]) rfl rfl rfl rfl v (T_X3_clear s v ho)) (fun q4 => ?_)
  refine ax_j (ax_aload_n hV dX9_lookForDoubts_7 rfl) ?_
  refine ax_j (ax_gfr hV lf_X9_10 dX9_lookForDoubts_8 rfl rfl) ?_
  refine ax_j (ax_lload_n hV dX9_lookForDoubts_11 rfl) ?_
  refine ax_jb (fun v ho => ax_cVi hV lk_X9_167 rfl dX9_lookForDoubts_12 rfl rfl [.long p1] [] (fun ad => [.ref (ad 1), .long p1]) rfl rfl rfl rfl v.1 v.2 (T_X6_canHold p1 q4 v ho)) (fun q12 => ?_)
  refine ax_jif (ax_if_eq hV dX9_lookForDoubts_15) ?_ ?_
  · refine ax_j (ax_lload_n hV dX9_lookForDoubts_20 rfl) ?_
    refine ax_jb (fun v ho => ax_cSi hV lk_X9_334 rfl dX9_lookForDoubts_21 [.long p1] [] (fun ad => [.long p1]) rfl rfl rfl rfl v q12.2 (T_J13_bitCount_95d88 p1 q12.2 v ho)) (fun q21 => ?_)
    refine ax_j (ax_bipush hV (12 : Int32) dX9_lookForDoubts_24 (by decide)) ?_
    refine ax_jif (ax_icmp_le hV dX9_lookForDoubts_26) ?_ ?_
    · refine ax_j (ax_aload_n hV dX9_lookForDoubts_32 rfl) ?_
      refine ax_j (ax_gfr hV lf_X9_29 dX9_lookForDoubts_33 rfl rfl) ?_
      refine ax_j (ax_aload_n hV dX9_lookForDoubts_36 rfl) ?_
      refine ax_j (ax_gfr hV lf_X9_10 dX9_lookForDoubts_37 rfl rfl) ?_
      refine ax_j (ax_lload_n hV dX9_lookForDoubts_40 rfl) ?_
      refine ax_jb (fun v ho => ax_cVv hV lk_X9_393 rfl dX9_lookForDoubts_41 rfl rfl [.ref (ax_ad (cx_C, X) 1), .long p1] [] (fun ad => [.ref (ad 4), .ref (ad 1), .long p1]) rfl rfl rfl rfl v (T_X3_search p1 q12.2 v ho)) (fun q41 => ?_)
      refine ax_j (ax_iconst hV (0 : Int32) dX9_lookForDoubts_44 (by decide)) ?_
      exact ax_jl (fun h => ax_ir hV rfl dX9_lookForDoubts_45 (hP ((0 : Int32), q41) h))
    · refine ax_j (ax_bipush hV (-4 : Int32) dX9_lookForDoubts_29 (by decide)) ?_
      exact ax_jl (fun h => ax_ir hV rfl dX9_lookForDoubts_31 (hP ((-4 : Int32), q12.2) h))
  · refine ax_j (ax_iconst hV (0 : Int32) dX9_lookForDoubts_18 (by decide)) ?_
    exact ax_jl (fun h => ax_ir hV rfl dX9_lookForDoubts_19 (hP ((0 : Int32), q12.2) h))
theorem lk_X9_231 : ax_lkV RX9 231 mu_X9_lookForDoubts RX9 1 := ax_lkV_of (ax_m3 115 rfl rfl) (ax_m3 117 rfl rfl) (ax_mp2 3 rfl rfl rfl) (ax_m1 1 rfl rfl) lc_X9_lookForDoubts rfl ⟨by decide +kernel, by decide +kernel, by decide +kernel⟩
def mu_X9_doubts : ax_Mu := (yX9_doubts, cX9_doubts, 2, some .long, 6, 148)
theorem lc_X9_doubts : Cond.code mu_X9_doubts.1 mu_X9_doubts.2.1 mu_X9_doubts.2.2.1 mu_X9_doubts.2.2.2.1 ∈ ax_tb := (ax_m3 114 rfl rfl)
noncomputable def f_X9_doubts  (s : ax_S) : Option (Int64 × ax_S) := (f_X9_knownRows s).bind (fun q2 => (f_X9_lookForDoubts q2 s).bind (fun q5 => (if 0 ≤ q5.1 then some (((q5.2.2 4 3), q5.2)) else (f_X9_asLong q5.1).bind (fun q14 => some ((q14, q5.2))))))
theorem T_X9_doubts  (s : ax_S) (r : Int64 × ax_S) (h : f_X9_doubts s = some r) : ax_M cx_C mu_X9_doubts (fun ad => [.ref (ad 0)]) s (some (.long r.1)) r.2 := by
  refine ax_enter (by decide +kernel) 1 (fun ad => [some (.ref (ad 0)), none]) (fun ad => rfl) (fun ad => Nat.le_of_ble_eq_true rfl) (fun X hV ho => ?_)
  refine ax_go (fun r : Int64 × ax_S => (some (Value.long r.1), r.2)) (fun P hP => ?_) h ho
  unfold f_X9_doubts
  refine ax_j (ax_aload_n hV dX9_doubts_0 rfl) ?_
  refine ax_j (ax_aload_n hV dX9_doubts_1 rfl) ?_
  refine ax_jb (fun v ho => ax_cVl hV lk_X9_161 rfl dX9_doubts_2 rfl rfl [] [.ref (ax_ad (cx_C, X) 0)] (fun ad => [.ref (ad 0)]) rfl rfl rfl rfl v s (T_X9_knownRows s v ho)) (fun q2 => ?_)
  refine ax_jb (fun v ho => ax_cVi hV lk_X9_231 rfl dX9_doubts_5 rfl rfl [.long q2] [] (fun ad => [.ref (ad 0), .long q2]) rfl rfl rfl rfl v.1 v.2 (T_X9_lookForDoubts q2 s v ho)) (fun q5 => ?_)
  refine ax_j (ax_istore_n hV [some (.ref (ax_ad (cx_C, X) 0)), some (.int q5.1)] dX9_doubts_8 rfl rfl) ?_
  refine ax_j (ax_iload_n hV dX9_doubts_9 rfl) ?_
  refine ax_jif (ax_if_ge hV dX9_doubts_10) ?_ ?_
  · refine ax_j (ax_aload_n hV dX9_doubts_20 rfl) ?_
    refine ax_j (ax_gfr hV lf_X9_29 dX9_doubts_21 rfl rfl) ?_
    refine ax_j (ax_gfl hV lf_X9_235 dX9_doubts_24 rfl rfl) ?_
    exact ax_jl (fun h => ax_lr hV rfl dX9_doubts_27 (hP ((q5.2.2 4 3), q5.2) h))
  · refine ax_j (ax_iload_n hV dX9_doubts_13 rfl) ?_
    refine ax_jb (fun v ho => ax_cSl hV lk_X9_228 rfl dX9_doubts_14 [.int q5.1] [] (fun ad => [.int q5.1]) rfl rfl rfl rfl v q5.2 (T_X9_asLong q5.1 q5.2 v ho)) (fun q14 => ?_)
    refine ax_j (ax_goto hV dX9_doubts_17) ?_
    exact ax_jl (fun h => ax_lr hV rfl dX9_doubts_27 (hP (q14, q5.2) h))
def mu_X9_blamed : ax_Mu := (yX9_blamed, cX9_blamed, 5, some .int, 6, 148)
theorem lc_X9_blamed : Cond.code mu_X9_blamed.1 mu_X9_blamed.2.1 mu_X9_blamed.2.2.1 mu_X9_blamed.2.2.2.1 ∈ ax_tb := (ax_m3 165 rfl rfl)
noncomputable def f_X9_blamed (p1 : Int32) (s : ax_S) : Option (Int32 × ax_S) := (f_X9_isRow p1 s).bind (fun q2 => (if q2 = 0 then some (((-2 : Int32), s)) else (f_X9_knownRows s).bind (fun q12 => (if (lg_cmp ((ax_lushr q12 p1) &&& (1 : Int64)) (0 : Int64)) = 0 then some (((-3 : Int32), s)) else (f_X9_lookForDoubts q12 s).bind (fun q31 => (if 0 ≤ q31.1 then (ax_ai cx_C q31.2 30 p1).bind (fun v54 => some ((v54, q31.2))) else some ((q31.1, q31.2))))))))
theorem T_X9_blamed (p1 : Int32) (s : ax_S) (r : Int32 × ax_S) (h : f_X9_blamed p1 s = some r) : ax_M cx_C mu_X9_blamed (fun ad => [.ref (ad 0), .int p1]) s (some (.int r.1)) r.2 := by
  refine ax_enter (by decide +kernel) 3 (fun ad => [some (.ref (ad 0)), some (.int p1), none, none, none]) (fun ad => rfl) (fun ad => Nat.le_of_ble_eq_true rfl) (fun X hV ho => ?_)
  refine ax_go (fun r : Int32 × ax_S => (some (Value.int r.1), r.2)) (fun P hP => ?_) h ho
  unfold f_X9_blamed
  refine ax_j (ax_aload_n hV dX9_blamed_0 rfl) ?_
  refine ax_j (ax_iload_n hV dX9_blamed_1 rfl) ?_
  refine ax_jb (fun v ho => ax_cVi hV lk_X9_123 rfl dX9_blamed_2 rfl rfl [.int p1] [] (fun ad => [.ref (ad 0), .int p1]) rfl rfl rfl rfl v s (T_X9_isRow p1 s v ho)) (fun q2 => ?_)
  refine ax_jif (ax_if_ne hV dX9_blamed_5) ?_ ?_
  · refine ax_j (ax_bipush hV (-2 : Int32) dX9_blamed_8 (by decide)) ?_
    exact ax_jl (fun h => ax_ir hV rfl dX9_blamed_10 (hP ((-2 : Int32), s) h))
  · refine ax_j (ax_aload_n hV dX9_blamed_11 rfl) ?_
    refine ax_jb (fun v ho => ax_cVl hV lk_X9_161 rfl dX9_blamed_12 rfl rfl [] [] (fun ad => [.ref (ad 0)]) rfl rfl rfl rfl v s (T_X9_knownRows s v ho)) (fun q12 => ?_)
    refine ax_j (ax_lstore_n hV [some (.ref (ax_ad (cx_C, X) 0)), some (.int p1), some (.long q12), none, none] dX9_blamed_15 rfl rfl) ?_
    refine ax_j (ax_lload_n hV dX9_blamed_16 rfl) ?_
    refine ax_j (ax_iload_n hV dX9_blamed_17 rfl) ?_
    refine ax_j (ax_lushr_ hV dX9_blamed_18) ?_
    refine ax_j (ax_lconst hV (1 : Int64) dX9_blamed_19 (by decide)) ?_
    refine ax_j (ax_land hV dX9_blamed_20) ?_
    refine ax_j (ax_lconst hV (0 : Int64) dX9_blamed_21 (by decide)) ?_
    refine ax_j (ax_lcmp hV dX9_blamed_22) ?_
    refine ax_jif (ax_if_ne hV dX9_blamed_23) ?_ ?_
    · refine ax_j (ax_bipush hV (-3 : Int32) dX9_blamed_26 (by decide)) ?_
      exact ax_jl (fun h => ax_ir hV rfl dX9_blamed_28 (hP ((-3 : Int32), s) h))
    · refine ax_j (ax_aload_n hV dX9_blamed_29 rfl) ?_
      refine ax_j (ax_lload_n hV dX9_blamed_30 rfl) ?_
      refine ax_jb (fun v ho => ax_cVi hV lk_X9_231 rfl dX9_blamed_31 rfl rfl [.long q12] [] (fun ad => [.ref (ad 0), .long q12]) rfl rfl rfl rfl v.1 v.2 (T_X9_lookForDoubts q12 s v ho)) (fun q31 => ?_)
      refine ax_j (ax_istore hV [some (.ref (ax_ad (cx_C, X) 0)), some (.int p1), some (.long q12), none, some (.int q31.1)] dX9_blamed_34 rfl rfl) ?_
      refine ax_j (ax_iload hV dX9_blamed_36 rfl) ?_
      refine ax_jif (ax_if_ge hV dX9_blamed_38) ?_ ?_
      · refine ax_j (ax_aload_n hV dX9_blamed_46 rfl) ?_
        refine ax_j (ax_gfr hV lf_X9_29 dX9_blamed_47 rfl rfl) ?_
        refine ax_j (ax_gfr hV lf_X9_239 dX9_blamed_50 rfl rfl) ?_
        refine ax_j (ax_iload_n hV dX9_blamed_53 rfl) ?_
        refine ax_jb (ax_iald hV dX9_blamed_54) (fun v54 => ?_)
        exact ax_jl (fun h => ax_ir hV rfl dX9_blamed_55 (hP (v54, q31.2) h))
      · refine ax_j (ax_iload hV dX9_blamed_41 rfl) ?_
        refine ax_j (ax_goto hV dX9_blamed_43) ?_
        exact ax_jl (fun h => ax_ir hV rfl dX9_blamed_55 (hP (q31.1, q31.2) h))
def mu_X9_ahead : ax_Mu := (yX9_ahead, cX9_ahead, 3, some .int, 4, 97)
theorem lc_X9_ahead : Cond.code mu_X9_ahead.1 mu_X9_ahead.2.1 mu_X9_ahead.2.2.1 mu_X9_ahead.2.2.2.1 ∈ ax_tb := (ax_m3 169 rfl rfl)
noncomputable def f_X9_ahead (p1 : Int32) (p2 : Int32) (s : ax_S) : Option (Int32 × ax_S) := (f_X9_areTwoThings p1 p2 s).bind (fun q3 => (if q3 = 0 then some (((-2 : Int32), s)) else (f_X9_knownRows s).bind (fun q17 => (f_X6_solve q17 s).bind (fun q20 => (if q20.1 = 0 then some (((-3 : Int32), q20.2)) else (f_X6_measureFrom p2 q20.2).bind (fun q34 => (f_X6_mostBehind p2 p1 q34).bind (fun q43 => (if 0 ≤ q43 then (f_X9_oneIf (0 : Int32)).bind (fun q54 => some ((q54, q34))) else (f_X9_oneIf (1 : Int32)).bind (fun q54 => some ((q54, q34)))))))))))
theorem T_X9_ahead (p1 : Int32) (p2 : Int32) (s : ax_S) (r : Int32 × ax_S) (h : f_X9_ahead p1 p2 s = some r) : ax_M cx_C mu_X9_ahead (fun ad => [.ref (ad 0), .int p1, .int p2]) s (some (.int r.1)) r.2 := by
  refine ax_enter (by decide +kernel) 0 (fun ad => [some (.ref (ad 0)), some (.int p1), some (.int p2)]) (fun ad => rfl) (fun ad => Nat.le_of_ble_eq_true rfl) (fun X hV ho => ?_)
  refine ax_go (fun r : Int32 × ax_S => (some (Value.int r.1), r.2)) (fun P hP => ?_) h ho
  unfold f_X9_ahead
  refine ax_j (ax_aload_n hV dX9_ahead_0 rfl) ?_
  refine ax_j (ax_iload_n hV dX9_ahead_1 rfl) ?_
  refine ax_j (ax_iload_n hV dX9_ahead_2 rfl) ?_
  refine ax_jb (fun v ho => ax_cVi hV lk_X9_102 rfl dX9_ahead_3 rfl rfl [.int p1, .int p2] [] (fun ad => [.ref (ad 0), .int p1, .int p2]) rfl rfl rfl rfl v s (T_X9_areTwoThings p1 p2 s v ho)) (fun q3 => ?_)
  refine ax_jif (ax_if_ne hV dX9_ahead_6) ?_ ?_
  · refine ax_j (ax_bipush hV (-2 : Int32) dX9_ahead_9 (by decide)) ?_
    exact ax_jl (fun h => ax_ir hV rfl dX9_ahead_11 (hP ((-2 : Int32), s) h))
  · refine ax_j (ax_aload_n hV dX9_ahead_12 rfl) ?_
    refine ax_j (ax_gfr hV lf_X9_10 dX9_ahead_13 rfl rfl) ?_
    refine ax_j (ax_aload_n hV dX9_ahead_16 rfl) ?_
    refine ax_jb (fun v ho => ax_cVl hV lk_X9_161 rfl dX9_ahead_17 rfl rfl [] [.ref (ax_ad (cx_C, X) 1)] (fun ad => [.ref (ad 0)]) rfl rfl rfl rfl v s (T_X9_knownRows s v ho)) (fun q17 => ?_)
    refine ax_jb (fun v ho => ax_cVi hV lk_X9_174 rfl dX9_ahead_20 rfl rfl [.long q17] [] (fun ad => [.ref (ad 1), .long q17]) rfl rfl rfl rfl v.1 v.2 (T_X6_solve q17 s v ho)) (fun q20 => ?_)
    refine ax_jif (ax_if_ne hV dX9_ahead_23) ?_ ?_
    · refine ax_j (ax_bipush hV (-3 : Int32) dX9_ahead_26 (by decide)) ?_
      exact ax_jl (fun h => ax_ir hV rfl dX9_ahead_28 (hP ((-3 : Int32), q20.2) h))
    · refine ax_j (ax_aload_n hV dX9_ahead_29 rfl) ?_
      refine ax_j (ax_gfr hV lf_X9_10 dX9_ahead_30 rfl rfl) ?_
      refine ax_j (ax_iload_n hV dX9_ahead_33 rfl) ?_
      refine ax_jb (fun v ho => ax_cVv hV lk_X9_186 rfl dX9_ahead_34 rfl rfl [.int p2] [] (fun ad => [.ref (ad 1), .int p2]) rfl rfl rfl rfl v (T_X6_measureFrom p2 q20.2 v ho)) (fun q34 => ?_)
      refine ax_j (ax_aload_n hV dX9_ahead_37 rfl) ?_
      refine ax_j (ax_gfr hV lf_X9_10 dX9_ahead_38 rfl rfl) ?_
      refine ax_j (ax_iload_n hV dX9_ahead_41 rfl) ?_
      refine ax_j (ax_iload_n hV dX9_ahead_42 rfl) ?_
      refine ax_jb (fun v ho => ax_cVi hV lk_X9_190 rfl dX9_ahead_43 rfl rfl [.int p2, .int p1] [] (fun ad => [.ref (ad 1), .int p2, .int p1]) rfl rfl rfl rfl v q34 (T_X6_mostBehind p2 p1 q34 v ho)) (fun q43 => ?_)
      refine ax_jif (ax_if_ge hV dX9_ahead_46) ?_ ?_
      · refine ax_j (ax_iconst hV (0 : Int32) dX9_ahead_53 (by decide)) ?_
        refine ax_jb (fun v ho => ax_cSi hV lk_X9_155 rfl dX9_ahead_54 [.int (0 : Int32)] [] (fun ad => [.int (0 : Int32)]) rfl rfl rfl rfl v q34 (T_X9_oneIf (0 : Int32) q34 v ho)) (fun q54 => ?_)
        exact ax_jl (fun h => ax_ir hV rfl dX9_ahead_57 (hP (q54, q34) h))
      · refine ax_j (ax_iconst hV (1 : Int32) dX9_ahead_49 (by decide)) ?_
        refine ax_j (ax_goto hV dX9_ahead_50) ?_
        refine ax_jb (fun v ho => ax_cSi hV lk_X9_155 rfl dX9_ahead_54 [.int (1 : Int32)] [] (fun ad => [.int (1 : Int32)]) rfl rfl rfl rfl v q34 (T_X9_oneIf (1 : Int32) q34 v ho)) (fun q54 => ?_)
        exact ax_jl (fun h => ax_ir hV rfl dX9_ahead_57 (hP (q54, q34) h))
def mu_X9_layLines : ax_Mu := (yX9_layLines, cX9_layLines, 3, some .boolean, 4, 97)
theorem lc_X9_layLines : Cond.code mu_X9_layLines.1 mu_X9_layLines.2.1 mu_X9_layLines.2.2.1 mu_X9_layLines.2.2.2.1 ∈ ax_tb := (ax_m3 177 rfl rfl)
noncomputable def b_X9_layLines_47 (l1 : Int32) (a : Int32 × ax_S) : Option ((Int32 × ax_S) ⊕ (ax_S)) := (if (a.2.1 0 10) ≤ a.1 then some (.inr a.2) else (f_X6_mostBehind l1 a.1 a.2).bind (fun q61 => (if 0 ≤ q61 then some (.inl ((a.1 + 1), a.2)) else (f_X5_setAhead a.1 l1 a.2).bind (fun q73 => some (.inl ((a.1 + 1), q73))))))
noncomputable def b_X9_layLines_29  (a : Int32 × ax_S) : Option ((Int32 × ax_S) ⊕ (ax_S)) := (if (a.2.1 0 10) ≤ a.1 then some (.inr a.2) else (f_X6_measureFrom a.1 a.2).bind (fun q42 => (ax_lp (b_X9_layLines_47 a.1) ((0 : Int32), q42)).bind (fun e47 => some (.inl ((a.1 + 1), e47)))))
noncomputable def f_X9_layLines  (s : ax_S) : Option (Int32 × ax_S) := (f_X9_knownRows s).bind (fun q5 => (f_X6_solve q5 s).bind (fun q8 => (if q8.1 = 0 then some (((0 : Int32), q8.2)) else (f_X5_clear (q8.2.1 0 10) q8.2).bind (fun q24 => (ax_lp (b_X9_layLines_29) ((0 : Int32), q24)).bind (fun e29 => some (((1 : Int32), e29)))))))
theorem B_X9_layLines_47 (X : ax_G × ax_K × Option Value × ax_S) (hV : ax_ok (cx_C, X) mu_X9_layLines) (l1 : Int32) (P : ((Int32 × ax_S) ⊕ (ax_S)) → Prop) (hI : ∀ a : Int32 × ax_S, P (.inl a) → ax_At (cx_C, X) 47 [some (.ref (ax_ad (cx_C, X) 0)), some (.int l1), some (.int a.1)] [] a.2) (hO : ∀ e : ax_S, P (.inr e) → ax_At (cx_C, X) 82 [some (.ref (ax_ad (cx_C, X) 0)), some (.int l1), none] [] e) (a : Int32 × ax_S) : ax_J (cx_C, X) P 47 [some (.ref (ax_ad (cx_C, X) 0)), some (.int l1), some (.int a.1)] [] a.2 (b_X9_layLines_47 l1 a) := by
  unfold b_X9_layLines_47
  refine ax_j (ax_iload_n hV dX9_layLines_47 rfl) ?_
  refine ax_j (ax_aload_n hV dX9_layLines_48 rfl) ?_
  refine ax_j (ax_gfi hV lf_X9_68 dX9_layLines_49 rfl rfl) ?_
  refine ax_jif (ax_icmp_ge hV dX9_layLines_52) ?_ ?_
  · refine ax_jf (lv' := [some (.ref (ax_ad (cx_C, X) 0)), some (.int l1), none]) [true, true, false] rfl ?_
    exact ax_jl (fun h => hO a.2 h)
  · refine ax_j (ax_aload_n hV dX9_layLines_55 rfl) ?_
    refine ax_j (ax_gfr hV lf_X9_10 dX9_layLines_56 rfl rfl) ?_
    refine ax_j (ax_iload_n hV dX9_layLines_59 rfl) ?_
    refine ax_j (ax_iload_n hV dX9_layLines_60 rfl) ?_
    refine ax_jb (fun v ho => ax_cVi hV lk_X9_190 rfl dX9_layLines_61 rfl rfl [.int l1, .int a.1] [] (fun ad => [.ref (ad 1), .int l1, .int a.1]) rfl rfl rfl rfl v a.2 (T_X6_mostBehind l1 a.1 a.2 v ho)) (fun q61 => ?_)
    refine ax_jif (ax_if_ge hV dX9_layLines_64) ?_ ?_
    · refine ax_j (ax_iinc hV (a.1 + 1) [some (.ref (ax_ad (cx_C, X) 0)), some (.int l1), some (.int (a.1 + 1))] dX9_layLines_76 rfl rfl rfl rfl) ?_
      refine ax_j (ax_goto hV dX9_layLines_79) ?_
      exact ax_jl (fun h => hI ((a.1 + 1), a.2) h)
    · refine ax_j (ax_aload_n hV dX9_layLines_67 rfl) ?_
      refine ax_j (ax_gfr hV lf_X9_36 dX9_layLines_68 rfl rfl) ?_
      refine ax_j (ax_iload_n hV dX9_layLines_71 rfl) ?_
      refine ax_j (ax_iload_n hV dX9_layLines_72 rfl) ?_
      refine ax_jb (fun v ho => ax_cVv hV lk_X9_249 rfl dX9_layLines_73 rfl rfl [.int a.1, .int l1] [] (fun ad => [.ref (ad 5), .int a.1, .int l1]) rfl rfl rfl rfl v (T_X5_setAhead a.1 l1 a.2 v ho)) (fun q73 => ?_)
      refine ax_j (ax_iinc hV (a.1 + 1) [some (.ref (ax_ad (cx_C, X) 0)), some (.int l1), some (.int (a.1 + 1))] dX9_layLines_76 rfl rfl rfl rfl) ?_
      refine ax_j (ax_goto hV dX9_layLines_79) ?_
      exact ax_jl (fun h => hI ((a.1 + 1), q73) h)
theorem B_X9_layLines_29 (X : ax_G × ax_K × Option Value × ax_S) (hV : ax_ok (cx_C, X) mu_X9_layLines)  (P : ((Int32 × ax_S) ⊕ (ax_S)) → Prop) (hI : ∀ a : Int32 × ax_S, P (.inl a) → ax_At (cx_C, X) 29 [some (.ref (ax_ad (cx_C, X) 0)), some (.int a.1), none] [] a.2) (hO : ∀ e : ax_S, P (.inr e) → ax_At (cx_C, X) 88 [none, none, none] [] e) (a : Int32 × ax_S) : ax_J (cx_C, X) P 29 [some (.ref (ax_ad (cx_C, X) 0)), some (.int a.1), none] [] a.2 (b_X9_layLines_29 a) := by
  unfold b_X9_layLines_29
  refine ax_j (ax_iload_n hV dX9_layLines_29 rfl) ?_
  refine ax_j (ax_aload_n hV dX9_layLines_30 rfl) ?_
  refine ax_j (ax_gfi hV lf_X9_68 dX9_layLines_31 rfl rfl) ?_
  refine ax_jif (ax_icmp_ge hV dX9_layLines_34) ?_ ?_
  · refine ax_jf (lv' := [none, none, none]) [false, false, false] rfl ?_
    exact ax_jl (fun h => hO a.2 h)
  · refine ax_j (ax_aload_n hV dX9_layLines_37 rfl) ?_
    refine ax_j (ax_gfr hV lf_X9_10 dX9_layLines_38 rfl rfl) ?_
    refine ax_j (ax_iload_n hV dX9_layLines_41 rfl) ?_
    refine ax_jb (fun v ho => ax_cVv hV lk_X9_186 rfl dX9_layLines_42 rfl rfl [.int a.1] [] (fun ad => [.ref (ad 1), .int a.1]) rfl rfl rfl rfl v (T_X6_measureFrom a.1 a.2 v ho)) (fun q42 => ?_)
    refine ax_j (ax_iconst hV (0 : Int32) dX9_layLines_45 (by decide)) ?_
    refine ax_j (ax_istore_n hV [some (.ref (ax_ad (cx_C, X) 0)), some (.int a.1), some (.int (0 : Int32))] dX9_layLines_46 rfl rfl) ?_
    refine ax_jlp ((0 : Int32), q42) (fun x47 : Int32 × ax_S => [some (.ref (ax_ad (cx_C, X) 0)), some (.int a.1), some (.int x47.1)]) (fun x47 : Int32 × ax_S => x47.2) (fun y47 : ax_S => [some (.ref (ax_ad (cx_C, X) 0)), some (.int a.1), none]) (fun y47 : ax_S => y47) (fun P' h1 h2 w => B_X9_layLines_47 X hV a.1 P' h1 h2 w) (fun e47 => ?_)
    refine ax_j (ax_iinc hV (a.1 + 1) [some (.ref (ax_ad (cx_C, X) 0)), some (.int (a.1 + 1)), none] dX9_layLines_82 rfl rfl rfl rfl) ?_
    refine ax_j (ax_goto hV dX9_layLines_85) ?_
    exact ax_jl (fun h => hI ((a.1 + 1), e47) h)
theorem T_X9_layLines  (s : ax_S) (r : Int32 × ax_S) (h : f_X9_layLines s = some r) : ax_M cx_C mu_X9_layLines (fun ad => [.ref (ad 0)]) s (some (.int r.1)) r.2 := by
  refine ax_enter (by decide +kernel) 2 (fun ad => [some (.ref (ad 0)), none, none]) (fun ad => rfl) (fun ad => Nat.le_of_ble_eq_true rfl) (fun X hV ho => ?_)
  refine ax_go (fun r : Int32 × ax_S => (some (Value.int r.1), r.2)) (fun P hP => ?_) h ho
  unfold f_X9_layLines
  refine ax_j (ax_aload_n hV dX9_layLines_0 rfl) ?_
  refine ax_j (ax_gfr hV lf_X9_10 dX9_layLines_1 rfl rfl) ?_
  refine ax_j (ax_aload_n hV dX9_layLines_4 rfl) ?_
  refine ax_jb (fun v ho => ax_cVl hV lk_X9_161 rfl dX9_layLines_5 rfl rfl [] [.ref (ax_ad (cx_C, X) 1)] (fun ad => [.ref (ad 0)]) rfl rfl rfl rfl v s (T_X9_knownRows s v ho)) (fun q5 => ?_)
  refine ax_jb (fun v ho => ax_cVi hV lk_X9_174 rfl dX9_layLines_8 rfl rfl [.long q5] [] (fun ad => [.ref (ad 1), .long q5]) rfl rfl rfl rfl v.1 v.2 (T_X6_solve q5 s v ho)) (fun q8 => ?_)
  refine ax_jif (ax_if_ne hV dX9_layLines_11) ?_ ?_
  · refine ax_j (ax_iconst hV (0 : Int32) dX9_layLines_14 (by decide)) ?_
    exact ax_jl (fun h => ax_zr hV rfl (by decide) dX9_layLines_15 (hP ((0 : Int32), q8.2) h))
  · refine ax_j (ax_aload_n hV dX9_layLines_16 rfl) ?_
    refine ax_j (ax_gfr hV lf_X9_36 dX9_layLines_17 rfl rfl) ?_
    refine ax_j (ax_aload_n hV dX9_layLines_20 rfl) ?_
    refine ax_j (ax_gfi hV lf_X9_68 dX9_layLines_21 rfl rfl) ?_
    refine ax_jb (fun v ho => ax_cVv hV lk_X9_397 rfl dX9_layLines_24 rfl rfl [.int (q8.2.1 0 10)] [] (fun ad => [.ref (ad 5), .int (q8.2.1 0 10)]) rfl rfl rfl rfl v (T_X5_clear (q8.2.1 0 10) q8.2 v ho)) (fun q24 => ?_)
    refine ax_j (ax_iconst hV (0 : Int32) dX9_layLines_27 (by decide)) ?_
    refine ax_j (ax_istore_n hV [some (.ref (ax_ad (cx_C, X) 0)), some (.int (0 : Int32)), none] dX9_layLines_28 rfl rfl) ?_
    refine ax_jlp ((0 : Int32), q24) (fun x29 : Int32 × ax_S => [some (.ref (ax_ad (cx_C, X) 0)), some (.int x29.1), none]) (fun x29 : Int32 × ax_S => x29.2) (fun y29 : ax_S => [none, none, none]) (fun y29 : ax_S => y29) (fun P' h1 h2 w => B_X9_layLines_29 X hV  P' h1 h2 w) (fun e29 => ?_)
    refine ax_j (ax_iconst hV (1 : Int32) dX9_layLines_88 (by decide)) ?_
    exact ax_jl (fun h => ax_zr hV rfl (by decide) dX9_layLines_89 (hP ((1 : Int32), e29) h))
theorem lk_X9_242 : ax_lkV RX9 242 mu_X9_layLines RX9 0 := ax_lkV_of (ax_m3 174 rfl rfl) (ax_m3 176 rfl rfl) (ax_mp2 9 rfl rfl rfl) (ax_m1 1 rfl rfl) lc_X9_layLines rfl ⟨by decide +kernel, by decide +kernel, by decide +kernel⟩
def mu_X9_orders : ax_Mu := (yX9_orders, cX9_orders, 1, some .long, 5, 119)
theorem lc_X9_orders : Cond.code mu_X9_orders.1 mu_X9_orders.2.1 mu_X9_orders.2.2.1 mu_X9_orders.2.2.2.1 ∈ ax_tb := (ax_m3 173 rfl rfl)
noncomputable def f_X9_orders  (s : ax_S) : Option (Int64 × ax_S) := (f_X9_layLines s).bind (fun q1 => (if q1.1 = 0 then (f_X9_asLong (-3 : Int32)).bind (fun q9 => some ((q9, q1.2))) else (f_X5_waysFrom (0 : Int32) q1.2).bind (fun q18 => some ((q18.1.toInt64, q18.2)))))
theorem T_X9_orders  (s : ax_S) (r : Int64 × ax_S) (h : f_X9_orders s = some r) : ax_M cx_C mu_X9_orders (fun ad => [.ref (ad 0)]) s (some (.long r.1)) r.2 := by
  refine ax_enter (by decide +kernel) 0 (fun ad => [some (.ref (ad 0))]) (fun ad => rfl) (fun ad => Nat.le_of_ble_eq_true rfl) (fun X hV ho => ?_)
  refine ax_go (fun r : Int64 × ax_S => (some (Value.long r.1), r.2)) (fun P hP => ?_) h ho
  unfold f_X9_orders
  refine ax_j (ax_aload_n hV dX9_orders_0 rfl) ?_
  refine ax_jb (fun v ho => ax_cVi hV lk_X9_242 rfl dX9_orders_1 rfl rfl [] [] (fun ad => [.ref (ad 0)]) rfl rfl rfl rfl v.1 v.2 (T_X9_layLines s v ho)) (fun q1 => ?_)
  refine ax_jif (ax_if_ne hV dX9_orders_4) ?_ ?_
  · refine ax_j (ax_bipush hV (-3 : Int32) dX9_orders_7 (by decide)) ?_
    refine ax_jb (fun v ho => ax_cSl hV lk_X9_228 rfl dX9_orders_9 [.int (-3 : Int32)] [] (fun ad => [.int (-3 : Int32)]) rfl rfl rfl rfl v q1.2 (T_X9_asLong (-3 : Int32) q1.2 v ho)) (fun q9 => ?_)
    exact ax_jl (fun h => ax_lr hV rfl dX9_orders_12 (hP (q9, q1.2) h))
  · refine ax_j (ax_aload_n hV dX9_orders_13 rfl) ?_
    refine ax_j (ax_gfr hV lf_X9_36 dX9_orders_14 rfl rfl) ?_
    refine ax_j (ax_iconst hV (0 : Int32) dX9_orders_17 (by decide)) ?_
    refine ax_jb (fun v ho => ax_cVi hV lk_X9_246 rfl dX9_orders_18 rfl rfl [.int (0 : Int32)] [] (fun ad => [.ref (ad 5), .int (0 : Int32)]) rfl rfl rfl rfl v.1 v.2 (T_X5_waysFrom (0 : Int32) q1.2 v ho)) (fun q18 => ?_)
    refine ax_j (ax_i2l hV dX9_orders_21) ?_
    exact ax_jl (fun h => ax_lr hV rfl dX9_orders_22 (hP (q18.1.toInt64, q18.2) h))
theorem lk_X9_359 : ax_lkV RX9 359 mu_X9_orders RX9 0 := ax_lkV_of (ax_m4 162 rfl rfl) (ax_m3 171 rfl rfl) (ax_m3 172 rfl rfl) (ax_m1 1 rfl rfl) lc_X9_orders rfl ⟨by decide +kernel, by decide +kernel, by decide +kernel⟩
def mu_X9_commonDivisor : ax_Mu := (yX9_commonDivisor, cX9_commonDivisor, 11, some .long, 0, 0)
theorem lc_X9_commonDivisor : Cond.code mu_X9_commonDivisor.1 mu_X9_commonDivisor.2.1 mu_X9_commonDivisor.2.2.1 mu_X9_commonDivisor.2.2.2.1 ∈ ax_tb := (ax_m3 201 rfl rfl)
noncomputable def b_X9_commonDivisor_9  (a : Int64 × Int64 × Int32) : Option ((Int64 × Int64 × Int32) ⊕ (Int64)) := (if (100 : Int32) ≤ a.2.2 then some (.inr a.1) else (if (lg_cmp a.2.1 (0 : Int64)) = 0 then some (.inr a.1) else (ax_lrem a.1 a.2.1).bind (fun v27 => some (.inl (a.2.1, v27, (a.2.2 + 1))))))
noncomputable def f_X9_commonDivisor (p1 : Int64) (p2 : Int64) : Option (Int64) := (ax_lp (b_X9_commonDivisor_9) (p1, p2, (0 : Int32))).bind (fun e9 => some (e9))
theorem B_X9_commonDivisor_9 (X : ax_G × ax_K × Option Value × ax_S) (hV : ax_ok (cx_C, X) mu_X9_commonDivisor) (s : ax_S) (P : ((Int64 × Int64 × Int32) ⊕ (Int64)) → Prop) (hI : ∀ a : Int64 × Int64 × Int32, P (.inl a) → ax_At (cx_C, X) 9 [none, none, none, none, some (.long a.1), none, some (.long a.2.1), none, some (.int a.2.2), none, none] [] s) (hO : ∀ e : Int64, P (.inr e) → ax_At (cx_C, X) 44 [none, none, none, none, some (.long e), none, none, none, none, none, none] [] s) (a : Int64 × Int64 × Int32) : ax_J (cx_C, X) P 9 [none, none, none, none, some (.long a.1), none, some (.long a.2.1), none, some (.int a.2.2), none, none] [] s (b_X9_commonDivisor_9 a) := by
  unfold b_X9_commonDivisor_9
  refine ax_j (ax_iload hV dX9_commonDivisor_9 rfl) ?_
  refine ax_j (ax_bipush hV (100 : Int32) dX9_commonDivisor_11 (by decide)) ?_
  refine ax_jif (ax_icmp_ge hV dX9_commonDivisor_13) ?_ ?_
  · refine ax_jf (lv' := [none, none, none, none, some (.long a.1), none, none, none, none, none, none]) [false, false, false, false, true, false, false, false, false, false, false] rfl ?_
    exact ax_jl (fun h => hO a.1 h)
  · refine ax_j (ax_lload hV dX9_commonDivisor_16 rfl) ?_
    refine ax_j (ax_lconst hV (0 : Int64) dX9_commonDivisor_18 (by decide)) ?_
    refine ax_j (ax_lcmp hV dX9_commonDivisor_19) ?_
    refine ax_jif (ax_if_eq hV dX9_commonDivisor_20) ?_ ?_
    · refine ax_jf (lv' := [none, none, none, none, some (.long a.1), none, none, none, none, none, none]) [false, false, false, false, true, false, false, false, false, false, false] rfl ?_
      exact ax_jl (fun h => hO a.1 h)
    · refine ax_j (ax_lload hV dX9_commonDivisor_23 rfl) ?_
      refine ax_j (ax_lload hV dX9_commonDivisor_25 rfl) ?_
      refine ax_jb (ax_lrem_ hV dX9_commonDivisor_27) (fun v27 => ?_)
      refine ax_j (ax_lstore hV [none, none, none, none, some (.long a.1), none, some (.long a.2.1), none, some (.int a.2.2), some (.long v27), none] dX9_commonDivisor_28 rfl rfl) ?_
      refine ax_j (ax_lload hV dX9_commonDivisor_30 rfl) ?_
      refine ax_j (ax_lstore hV [none, none, none, none, some (.long a.2.1), none, some (.long a.2.1), none, some (.int a.2.2), some (.long v27), none] dX9_commonDivisor_32 rfl rfl) ?_
      refine ax_j (ax_lload hV dX9_commonDivisor_34 rfl) ?_
      refine ax_j (ax_lstore hV [none, none, none, none, some (.long a.2.1), none, some (.long v27), none, some (.int a.2.2), some (.long v27), none] dX9_commonDivisor_36 rfl rfl) ?_
      refine ax_j (ax_iinc hV (a.2.2 + 1) [none, none, none, none, some (.long a.2.1), none, some (.long v27), none, some (.int (a.2.2 + 1)), some (.long v27), none] dX9_commonDivisor_38 rfl rfl rfl rfl) ?_
      refine ax_j (ax_goto hV dX9_commonDivisor_41) ?_
      refine ax_jf (lv' := [none, none, none, none, some (.long a.2.1), none, some (.long v27), none, some (.int (a.2.2 + 1)), none, none]) [false, false, false, false, true, false, true, false, true, false, false] rfl ?_
      exact ax_jl (fun h => hI (a.2.1, v27, (a.2.2 + 1)) h)
theorem T_X9_commonDivisor (p1 : Int64) (p2 : Int64) (s : ax_S) (r : Int64) (h : f_X9_commonDivisor p1 p2 = some r) : ax_M cx_C mu_X9_commonDivisor (fun ad => [.long p1, .long p2]) s (some (.long r)) s := by
  refine ax_enter (by decide +kernel) 7 (fun ad => [some (.long p1), none, some (.long p2), none, none, none, none, none, none, none, none]) (fun ad => rfl) (fun ad => Nat.le_of_ble_eq_true rfl) (fun X hV ho => ?_)
  refine ax_go (fun r : Int64 => (some (Value.long r), s)) (fun P hP => ?_) h ho
  unfold f_X9_commonDivisor
  refine ax_j (ax_lload_n hV dX9_commonDivisor_0 rfl) ?_
  refine ax_j (ax_lstore hV [some (.long p1), none, some (.long p2), none, some (.long p1), none, none, none, none, none, none] dX9_commonDivisor_1 rfl rfl) ?_
  refine ax_j (ax_lload_n hV dX9_commonDivisor_3 rfl) ?_
  refine ax_j (ax_lstore hV [some (.long p1), none, some (.long p2), none, some (.long p1), none, some (.long p2), none, none, none, none] dX9_commonDivisor_4 rfl rfl) ?_
  refine ax_j (ax_iconst hV (0 : Int32) dX9_commonDivisor_6 (by decide)) ?_
  refine ax_j (ax_istore hV [some (.long p1), none, some (.long p2), none, some (.long p1), none, some (.long p2), none, some (.int (0 : Int32)), none, none] dX9_commonDivisor_7 rfl rfl) ?_
  refine ax_jf (lv' := [none, none, none, none, some (.long p1), none, some (.long p2), none, some (.int (0 : Int32)), none, none]) [false, false, false, false, true, false, true, false, true, false, false] rfl ?_
  refine ax_jlp (p1, p2, (0 : Int32)) (fun x9 : Int64 × Int64 × Int32 => [none, none, none, none, some (.long x9.1), none, some (.long x9.2.1), none, some (.int x9.2.2), none, none]) (fun x9 : Int64 × Int64 × Int32 => s) (fun y9 : Int64 => [none, none, none, none, some (.long y9), none, none, none, none, none, none]) (fun y9 : Int64 => s) (fun P' h1 h2 w => B_X9_commonDivisor_9 X hV s P' h1 h2 w) (fun e9 => ?_)
  refine ax_j (ax_lload hV dX9_commonDivisor_44 rfl) ?_
  exact ax_jl (fun h => ax_lr hV rfl dX9_commonDivisor_46 (hP e9 h))
theorem lk_X9_253 : ax_lkS RX9 253 mu_X9_commonDivisor 2 := ax_lkS_of (ax_m3 199 rfl rfl) (ax_m3 200 rfl rfl) (ax_m1 1 rfl rfl) lc_X9_commonDivisor ⟨by decide +kernel, by decide +kernel, by decide +kernel⟩
def mu_X9_share : ax_Mu := (yX9_share, cX9_share, 10, some .long, 5, 119)
theorem lc_X9_share : Cond.code mu_X9_share.1 mu_X9_share.2.1 mu_X9_share.2.2.1 mu_X9_share.2.2.2.1 ∈ ax_tb := (ax_m3 198 rfl rfl)
noncomputable def f_X9_share (p1 : Int32) (p2 : Int32) (p3 : Int32) (s : ax_S) : Option (Int64 × ax_S) := (f_X9_areTwoThings p1 p2 s).bind (fun q3 => (if q3 = 0 then (f_X9_asLong (-2 : Int32)).bind (fun q20 => some ((q20, s))) else (if p3 < 0 then (f_X9_asLong (-2 : Int32)).bind (fun q20 => some ((q20, s))) else (if p3 ≤ (1 : Int32) then (f_X9_layLines s).bind (fun q25 => (if q25.1 = 0 then (f_X9_asLong (-3 : Int32)).bind (fun q33 => some ((q33, q25.2))) else (f_X5_waysFrom (0 : Int32) q25.2).bind (fun q42 => (f_X5_setAhead p1 p2 q42.2).bind (fun q54 => (f_X5_waysFrom (0 : Int32) q54).bind (fun q62 => (f_X9_commonDivisor q62.1.toInt64 q42.1.toInt64).bind (fun q72 => (if 0 ≤ (lg_cmp q72 (1 : Int64)) then (if p3 = 0 then (ax_ldiv q62.1.toInt64 q72).bind (fun v99 => some ((v99, q62.2))) else (ax_ldiv q42.1.toInt64 q72).bind (fun v99 => some ((v99, q62.2)))) else some (((0 : Int64), q62.2))))))))) else (f_X9_asLong (-2 : Int32)).bind (fun q20 => some ((q20, s)))))))
theorem T_X9_share (p1 : Int32) (p2 : Int32) (p3 : Int32) (s : ax_S) (r : Int64 × ax_S) (h : f_X9_share p1 p2 p3 s = some r) : ax_M cx_C mu_X9_share (fun ad => [.ref (ad 0), .int p1, .int p2, .int p3]) s (some (.long r.1)) r.2 := by
  refine ax_enter (by decide +kernel) 6 (fun ad => [some (.ref (ad 0)), some (.int p1), some (.int p2), some (.int p3), none, none, none, none, none, none]) (fun ad => rfl) (fun ad => Nat.le_of_ble_eq_true rfl) (fun X hV ho => ?_)
  refine ax_go (fun r : Int64 × ax_S => (some (Value.long r.1), r.2)) (fun P hP => ?_) h ho
  unfold f_X9_share
  refine ax_j (ax_aload_n hV dX9_share_0 rfl) ?_
  refine ax_j (ax_iload_n hV dX9_share_1 rfl) ?_
  refine ax_j (ax_iload_n hV dX9_share_2 rfl) ?_
  refine ax_jb (fun v ho => ax_cVi hV lk_X9_102 rfl dX9_share_3 rfl rfl [.int p1, .int p2] [] (fun ad => [.ref (ad 0), .int p1, .int p2]) rfl rfl rfl rfl v s (T_X9_areTwoThings p1 p2 s v ho)) (fun q3 => ?_)
  refine ax_jif (ax_if_eq hV dX9_share_6) ?_ ?_
  · refine ax_j (ax_bipush hV (-2 : Int32) dX9_share_18 (by decide)) ?_
    refine ax_jb (fun v ho => ax_cSl hV lk_X9_228 rfl dX9_share_20 [.int (-2 : Int32)] [] (fun ad => [.int (-2 : Int32)]) rfl rfl rfl rfl v s (T_X9_asLong (-2 : Int32) s v ho)) (fun q20 => ?_)
    exact ax_jl (fun h => ax_lr hV rfl dX9_share_23 (hP (q20, s) h))
  · refine ax_j (ax_iload_n hV dX9_share_9 rfl) ?_
    refine ax_jif (ax_if_lt hV dX9_share_10) ?_ ?_
    · refine ax_j (ax_bipush hV (-2 : Int32) dX9_share_18 (by decide)) ?_
      refine ax_jb (fun v ho => ax_cSl hV lk_X9_228 rfl dX9_share_20 [.int (-2 : Int32)] [] (fun ad => [.int (-2 : Int32)]) rfl rfl rfl rfl v s (T_X9_asLong (-2 : Int32) s v ho)) (fun q20 => ?_)
      exact ax_jl (fun h => ax_lr hV rfl dX9_share_23 (hP (q20, s) h))
    · refine ax_j (ax_iload_n hV dX9_share_13 rfl) ?_
      refine ax_j (ax_iconst hV (1 : Int32) dX9_share_14 (by decide)) ?_
      refine ax_jif (ax_icmp_le hV dX9_share_15) ?_ ?_
      · refine ax_j (ax_aload_n hV dX9_share_24 rfl) ?_
        refine ax_jb (fun v ho => ax_cVi hV lk_X9_242 rfl dX9_share_25 rfl rfl [] [] (fun ad => [.ref (ad 0)]) rfl rfl rfl rfl v.1 v.2 (T_X9_layLines s v ho)) (fun q25 => ?_)
        refine ax_jif (ax_if_ne hV dX9_share_28) ?_ ?_
        · refine ax_j (ax_bipush hV (-3 : Int32) dX9_share_31 (by decide)) ?_
          refine ax_jb (fun v ho => ax_cSl hV lk_X9_228 rfl dX9_share_33 [.int (-3 : Int32)] [] (fun ad => [.int (-3 : Int32)]) rfl rfl rfl rfl v q25.2 (T_X9_asLong (-3 : Int32) q25.2 v ho)) (fun q33 => ?_)
          exact ax_jl (fun h => ax_lr hV rfl dX9_share_36 (hP (q33, q25.2) h))
        · refine ax_j (ax_aload_n hV dX9_share_37 rfl) ?_
          refine ax_j (ax_gfr hV lf_X9_36 dX9_share_38 rfl rfl) ?_
          refine ax_j (ax_iconst hV (0 : Int32) dX9_share_41 (by decide)) ?_
          refine ax_jb (fun v ho => ax_cVi hV lk_X9_246 rfl dX9_share_42 rfl rfl [.int (0 : Int32)] [] (fun ad => [.ref (ad 5), .int (0 : Int32)]) rfl rfl rfl rfl v.1 v.2 (T_X5_waysFrom (0 : Int32) q25.2 v ho)) (fun q42 => ?_)
          refine ax_j (ax_i2l hV dX9_share_45) ?_
          refine ax_j (ax_lstore hV [some (.ref (ax_ad (cx_C, X) 0)), some (.int p1), some (.int p2), some (.int p3), some (.long q42.1.toInt64), none, none, none, none, none] dX9_share_46 rfl rfl) ?_
          refine ax_j (ax_aload_n hV dX9_share_48 rfl) ?_
          refine ax_j (ax_gfr hV lf_X9_36 dX9_share_49 rfl rfl) ?_
          refine ax_j (ax_iload_n hV dX9_share_52 rfl) ?_
          refine ax_j (ax_iload_n hV dX9_share_53 rfl) ?_
          refine ax_jb (fun v ho => ax_cVv hV lk_X9_249 rfl dX9_share_54 rfl rfl [.int p1, .int p2] [] (fun ad => [.ref (ad 5), .int p1, .int p2]) rfl rfl rfl rfl v (T_X5_setAhead p1 p2 q42.2 v ho)) (fun q54 => ?_)
          refine ax_j (ax_aload_n hV dX9_share_57 rfl) ?_
          refine ax_j (ax_gfr hV lf_X9_36 dX9_share_58 rfl rfl) ?_
          refine ax_j (ax_iconst hV (0 : Int32) dX9_share_61 (by decide)) ?_
          refine ax_jb (fun v ho => ax_cVi hV lk_X9_246 rfl dX9_share_62 rfl rfl [.int (0 : Int32)] [] (fun ad => [.ref (ad 5), .int (0 : Int32)]) rfl rfl rfl rfl v.1 v.2 (T_X5_waysFrom (0 : Int32) q54 v ho)) (fun q62 => ?_)
          refine ax_j (ax_i2l hV dX9_share_65) ?_
          refine ax_j (ax_lstore hV [some (.ref (ax_ad (cx_C, X) 0)), some (.int p1), some (.int p2), some (.int p3), some (.long q42.1.toInt64), none, some (.long q62.1.toInt64), none, none, none] dX9_share_66 rfl rfl) ?_
          refine ax_j (ax_lload hV dX9_share_68 rfl) ?_
          refine ax_j (ax_lload hV dX9_share_70 rfl) ?_
          refine ax_jb (fun v ho => ax_cSl hV lk_X9_253 rfl dX9_share_72 [.long q62.1.toInt64, .long q42.1.toInt64] [] (fun ad => [.long q62.1.toInt64, .long q42.1.toInt64]) rfl rfl rfl rfl v q62.2 (T_X9_commonDivisor q62.1.toInt64 q42.1.toInt64 q62.2 v ho)) (fun q72 => ?_)
          refine ax_j (ax_lstore hV [some (.ref (ax_ad (cx_C, X) 0)), some (.int p1), some (.int p2), some (.int p3), some (.long q42.1.toInt64), none, some (.long q62.1.toInt64), none, some (.long q72), none] dX9_share_75 rfl rfl) ?_
          refine ax_j (ax_lload hV dX9_share_77 rfl) ?_
          refine ax_j (ax_lconst hV (1 : Int64) dX9_share_79 (by decide)) ?_
          refine ax_j (ax_lcmp hV dX9_share_80) ?_
          refine ax_jif (ax_if_ge hV dX9_share_81) ?_ ?_
          · refine ax_j (ax_iload_n hV dX9_share_86 rfl) ?_
            refine ax_jif (ax_if_ne hV dX9_share_87) ?_ ?_
            · refine ax_j (ax_lload hV dX9_share_90 rfl) ?_
              refine ax_j (ax_goto hV dX9_share_92) ?_
              refine ax_j (ax_lload hV dX9_share_97 rfl) ?_
              refine ax_jb (ax_ldiv_ hV dX9_share_99) (fun v99 => ?_)
              exact ax_jl (fun h => ax_lr hV rfl dX9_share_100 (hP (v99, q62.2) h))
            · refine ax_j (ax_lload hV dX9_share_95 rfl) ?_
              refine ax_j (ax_lload hV dX9_share_97 rfl) ?_
              refine ax_jb (ax_ldiv_ hV dX9_share_99) (fun v99 => ?_)
              exact ax_jl (fun h => ax_lr hV rfl dX9_share_100 (hP (v99, q62.2) h))
          · refine ax_j (ax_lconst hV (0 : Int64) dX9_share_84 (by decide)) ?_
            exact ax_jl (fun h => ax_lr hV rfl dX9_share_85 (hP ((0 : Int64), q62.2) h))
      · refine ax_j (ax_bipush hV (-2 : Int32) dX9_share_18 (by decide)) ?_
        refine ax_jb (fun v ho => ax_cSl hV lk_X9_228 rfl dX9_share_20 [.int (-2 : Int32)] [] (fun ad => [.int (-2 : Int32)]) rfl rfl rfl rfl v s (T_X9_asLong (-2 : Int32) s v ho)) (fun q20 => ?_)
        exact ax_jl (fun h => ax_lr hV rfl dX9_share_23 (hP (q20, s) h))
def mu_X9_first : ax_Mu := (yX9_first, cX9_first, 2, some .long, 5, 119)
theorem lc_X9_first : Cond.code mu_X9_first.1 mu_X9_first.2.1 mu_X9_first.2.2.1 mu_X9_first.2.2.2.1 ∈ ax_tb := (ax_m3 205 rfl rfl)
noncomputable def f_X9_first (p1 : Int32) (s : ax_S) : Option (Int64 × ax_S) := (f_X9_isThing p1 s).bind (fun q2 => (if q2 = 0 then (f_X9_asLong (-2 : Int32)).bind (fun q10 => some ((q10, s))) else (f_X9_layLines s).bind (fun q15 => (if q15.1 = 0 then (f_X9_asLong (-3 : Int32)).bind (fun q23 => some ((q23, q15.2))) else (ax_ai cx_C q15.2 31 p1).bind (fun v35 => (if v35 = 0 then (f_X5_waysFrom ((1 : Int32) <<< (p1 &&& 31)) q15.2).bind (fun q46 => some ((q46.1.toInt64, q46.2))) else some (((0 : Int64), q15.2))))))))
theorem T_X9_first (p1 : Int32) (s : ax_S) (r : Int64 × ax_S) (h : f_X9_first p1 s = some r) : ax_M cx_C mu_X9_first (fun ad => [.ref (ad 0), .int p1]) s (some (.long r.1)) r.2 := by
  refine ax_enter (by decide +kernel) 0 (fun ad => [some (.ref (ad 0)), some (.int p1)]) (fun ad => rfl) (fun ad => Nat.le_of_ble_eq_true rfl) (fun X hV ho => ?_)
  refine ax_go (fun r : Int64 × ax_S => (some (Value.long r.1), r.2)) (fun P hP => ?_) h ho
  unfold f_X9_first
  refine ax_j (ax_aload_n hV dX9_first_0 rfl) ?_
  refine ax_j (ax_iload_n hV dX9_first_1 rfl) ?_
  refine ax_jb (fun v ho => ax_cVi hV lk_X9_92 rfl dX9_first_2 rfl rfl [.int p1] [] (fun ad => [.ref (ad 0), .int p1]) rfl rfl rfl rfl v s (T_X9_isThing p1 s v ho)) (fun q2 => ?_)
  refine ax_jif (ax_if_ne hV dX9_first_5) ?_ ?_
  · refine ax_j (ax_bipush hV (-2 : Int32) dX9_first_8 (by decide)) ?_
    refine ax_jb (fun v ho => ax_cSl hV lk_X9_228 rfl dX9_first_10 [.int (-2 : Int32)] [] (fun ad => [.int (-2 : Int32)]) rfl rfl rfl rfl v s (T_X9_asLong (-2 : Int32) s v ho)) (fun q10 => ?_)
    exact ax_jl (fun h => ax_lr hV rfl dX9_first_13 (hP (q10, s) h))
  · refine ax_j (ax_aload_n hV dX9_first_14 rfl) ?_
    refine ax_jb (fun v ho => ax_cVi hV lk_X9_242 rfl dX9_first_15 rfl rfl [] [] (fun ad => [.ref (ad 0)]) rfl rfl rfl rfl v.1 v.2 (T_X9_layLines s v ho)) (fun q15 => ?_)
    refine ax_jif (ax_if_ne hV dX9_first_18) ?_ ?_
    · refine ax_j (ax_bipush hV (-3 : Int32) dX9_first_21 (by decide)) ?_
      refine ax_jb (fun v ho => ax_cSl hV lk_X9_228 rfl dX9_first_23 [.int (-3 : Int32)] [] (fun ad => [.int (-3 : Int32)]) rfl rfl rfl rfl v q15.2 (T_X9_asLong (-3 : Int32) q15.2 v ho)) (fun q23 => ?_)
      exact ax_jl (fun h => ax_lr hV rfl dX9_first_26 (hP (q23, q15.2) h))
    · refine ax_j (ax_aload_n hV dX9_first_27 rfl) ?_
      refine ax_j (ax_gfr hV lf_X9_36 dX9_first_28 rfl rfl) ?_
      refine ax_j (ax_gfr hV lf_X9_257 dX9_first_31 rfl rfl) ?_
      refine ax_j (ax_iload_n hV dX9_first_34 rfl) ?_
      refine ax_jb (ax_iald hV dX9_first_35) (fun v35 => ?_)
      refine ax_jif (ax_if_ne hV dX9_first_36) ?_ ?_
      · refine ax_j (ax_aload_n hV dX9_first_39 rfl) ?_
        refine ax_j (ax_gfr hV lf_X9_36 dX9_first_40 rfl rfl) ?_
        refine ax_j (ax_iconst hV (1 : Int32) dX9_first_43 (by decide)) ?_
        refine ax_j (ax_iload_n hV dX9_first_44 rfl) ?_
        refine ax_j (ax_ishl hV dX9_first_45) ?_
        refine ax_jb (fun v ho => ax_cVi hV lk_X9_246 rfl dX9_first_46 rfl rfl [.int ((1 : Int32) <<< (p1 &&& 31))] [] (fun ad => [.ref (ad 5), .int ((1 : Int32) <<< (p1 &&& 31))]) rfl rfl rfl rfl v.1 v.2 (T_X5_waysFrom ((1 : Int32) <<< (p1 &&& 31)) q15.2 v ho)) (fun q46 => ?_)
        refine ax_j (ax_i2l hV dX9_first_49) ?_
        refine ax_j (ax_goto hV dX9_first_50) ?_
        exact ax_jl (fun h => ax_lr hV rfl dX9_first_54 (hP (q46.1.toInt64, q46.2) h))
      · refine ax_j (ax_lconst hV (0 : Int64) dX9_first_53 (by decide)) ?_
        exact ax_jl (fun h => ax_lr hV rfl dX9_first_54 (hP ((0 : Int64), q15.2) h))
def mu_X9_question : ax_Mu := (yX9_question, cX9_question, 1, some .int, 5, 119)
theorem lc_X9_question : Cond.code mu_X9_question.1 mu_X9_question.2.1 mu_X9_question.2.2.1 mu_X9_question.2.2.2.1 ∈ ax_tb := (ax_m3 209 rfl rfl)
noncomputable def f_X9_question  (s : ax_S) : Option (Int32 × ax_S) := (f_X9_layLines s).bind (fun q1 => (if q1.1 = 0 then some (((-3 : Int32), q1.2)) else (f_X5_bestPair q1.2).bind (fun q14 => some ((q14.1, q14.2)))))
theorem T_X9_question  (s : ax_S) (r : Int32 × ax_S) (h : f_X9_question s = some r) : ax_M cx_C mu_X9_question (fun ad => [.ref (ad 0)]) s (some (.int r.1)) r.2 := by
  refine ax_enter (by decide +kernel) 0 (fun ad => [some (.ref (ad 0))]) (fun ad => rfl) (fun ad => Nat.le_of_ble_eq_true rfl) (fun X hV ho => ?_)
  refine ax_go (fun r : Int32 × ax_S => (some (Value.int r.1), r.2)) (fun P hP => ?_) h ho
  unfold f_X9_question
  refine ax_j (ax_aload_n hV dX9_question_0 rfl) ?_
  refine ax_jb (fun v ho => ax_cVi hV lk_X9_242 rfl dX9_question_1 rfl rfl [] [] (fun ad => [.ref (ad 0)]) rfl rfl rfl rfl v.1 v.2 (T_X9_layLines s v ho)) (fun q1 => ?_)
  refine ax_jif (ax_if_ne hV dX9_question_4) ?_ ?_
  · refine ax_j (ax_bipush hV (-3 : Int32) dX9_question_7 (by decide)) ?_
    exact ax_jl (fun h => ax_ir hV rfl dX9_question_9 (hP ((-3 : Int32), q1.2) h))
  · refine ax_j (ax_aload_n hV dX9_question_10 rfl) ?_
    refine ax_j (ax_gfr hV lf_X9_36 dX9_question_11 rfl rfl) ?_
    refine ax_jb (fun v ho => ax_cVi hV lk_X9_260 rfl dX9_question_14 rfl rfl [] [] (fun ad => [.ref (ad 5)]) rfl rfl rfl rfl v.1 v.2 (T_X5_bestPair q1.2 v ho)) (fun q14 => ?_)
    exact ax_jl (fun h => ax_ir hV rfl dX9_question_17 (hP (q14.1, q14.2) h))
def mu_X9_dayOf : ax_Mu := (yX9_dayOf, cX9_dayOf, 5, some .int, 2, 45)
theorem lc_X9_dayOf : Cond.code mu_X9_dayOf.1 mu_X9_dayOf.2.1 mu_X9_dayOf.2.2.1 mu_X9_dayOf.2.2.2.1 ∈ ax_tb := (ax_m3 235 rfl rfl)
noncomputable def f_X9_dayOf (p1 : Int32) (p2 : Int32) (p3 : Int32) (p4 : Int32) (s : ax_S) : Option (Int32) := (f_X1_isOne p1).bind (fun q1 => (if q1 = 0 then some ((-300000 : Int32)) else (f_X1_isDate p1 p2 p3 p4 s).bind (fun q12 => (if q12 = 0 then some ((-300000 : Int32)) else (f_X1_dayNumber p1 p2 p3 p4 s).bind (fun q26 => some (q26))))))
theorem T_X9_dayOf (p1 : Int32) (p2 : Int32) (p3 : Int32) (p4 : Int32) (s : ax_S) (r : Int32) (h : f_X9_dayOf p1 p2 p3 p4 s = some r) : ax_M cx_C mu_X9_dayOf (fun ad => [.ref (ad 0), .int p1, .int p2, .int p3, .int p4]) s (some (.int r)) s := by
  refine ax_enter (by decide +kernel) 0 (fun ad => [some (.ref (ad 0)), some (.int p1), some (.int p2), some (.int p3), some (.int p4)]) (fun ad => rfl) (fun ad => Nat.le_of_ble_eq_true rfl) (fun X hV ho => ?_)
  refine ax_go (fun r : Int32 => (some (Value.int r), s)) (fun P hP => ?_) h ho
  unfold f_X9_dayOf
  refine ax_j (ax_iload_n hV dX9_dayOf_0 rfl) ?_
  refine ax_jb (fun v ho => ax_cSi hV lk_X9_263 rfl dX9_dayOf_1 [.int p1] [] (fun ad => [.int p1]) rfl rfl rfl rfl v s (T_X1_isOne p1 s v ho)) (fun q1 => ?_)
  refine ax_jif (ax_if_eq hV dX9_dayOf_4) ?_ ?_
  · refine ax_j (ax_ldc hV kc_X9_129 dX9_dayOf_18) ?_
    exact ax_jl (fun h => ax_ir hV rfl dX9_dayOf_20 (hP (-300000 : Int32) h))
  · refine ax_j (ax_iload_n hV dX9_dayOf_7 rfl) ?_
    refine ax_j (ax_iload_n hV dX9_dayOf_8 rfl) ?_
    refine ax_j (ax_iload_n hV dX9_dayOf_9 rfl) ?_
    refine ax_j (ax_iload hV dX9_dayOf_10 rfl) ?_
    refine ax_jb (fun v ho => ax_cSi hV lk_X9_268 rfl dX9_dayOf_12 [.int p1, .int p2, .int p3, .int p4] [] (fun ad => [.int p1, .int p2, .int p3, .int p4]) rfl rfl rfl rfl v s (T_X1_isDate p1 p2 p3 p4 s v ho)) (fun q12 => ?_)
    refine ax_jif (ax_if_ne hV dX9_dayOf_15) ?_ ?_
    · refine ax_j (ax_ldc hV kc_X9_129 dX9_dayOf_18) ?_
      exact ax_jl (fun h => ax_ir hV rfl dX9_dayOf_20 (hP (-300000 : Int32) h))
    · refine ax_j (ax_iload_n hV dX9_dayOf_21 rfl) ?_
      refine ax_j (ax_iload_n hV dX9_dayOf_22 rfl) ?_
      refine ax_j (ax_iload_n hV dX9_dayOf_23 rfl) ?_
      refine ax_j (ax_iload hV dX9_dayOf_24 rfl) ?_
      refine ax_jb (fun v ho => ax_cSi hV lk_X9_272 rfl dX9_dayOf_26 [.int p1, .int p2, .int p3, .int p4] [] (fun ad => [.int p1, .int p2, .int p3, .int p4]) rfl rfl rfl rfl v s (T_X1_dayNumber p1 p2 p3 p4 s v ho)) (fun q26 => ?_)
      exact ax_jl (fun h => ax_ir hV rfl dX9_dayOf_29 (hP q26 h))
def mu_X9_dateOf : ax_Mu := (yX9_dateOf, cX9_dateOf, 6, some .int, 3, 68)
theorem lc_X9_dateOf : Cond.code mu_X9_dateOf.1 mu_X9_dateOf.2.1 mu_X9_dateOf.2.2.1 mu_X9_dateOf.2.2.2.1 ∈ ax_tb := (ax_m4 20 rfl rfl)
noncomputable def f_X9_dateOf (p1 : Int32) (p2 : Int32) (p3 : Int32) (s : ax_S) : Option (Int32) := (f_X1_isOne p1).bind (fun q1 => (if q1 = 0 then some ((-2 : Int32)) else (if p3 < 0 then some ((-2 : Int32)) else (if (2 : Int32) < p3 then some ((-2 : Int32)) else (f_X1_hasDay p1 p2 s).bind (fun q18 => (if q18 = 0 then some ((-2 : Int32)) else (f_X1_yearWith p1 p2 s).bind (fun q29 => (if p3 = (2 : Int32) then some (q29) else (f_X1_monthWith p1 p2 q29 s).bind (fun q46 => (if p3 = (1 : Int32) then some (q46) else (f_X1_dayNumber p1 (1 : Int32) q46 q29 s).bind (fun q66 => some (((p2 - q66) + (1 : Int32))))))))))))))
theorem T_X9_dateOf (p1 : Int32) (p2 : Int32) (p3 : Int32) (s : ax_S) (r : Int32) (h : f_X9_dateOf p1 p2 p3 s = some r) : ax_M cx_C mu_X9_dateOf (fun ad => [.ref (ad 0), .int p1, .int p2, .int p3]) s (some (.int r)) s := by
  refine ax_enter (by decide +kernel) 2 (fun ad => [some (.ref (ad 0)), some (.int p1), some (.int p2), some (.int p3), none, none]) (fun ad => rfl) (fun ad => Nat.le_of_ble_eq_true rfl) (fun X hV ho => ?_)
  refine ax_go (fun r : Int32 => (some (Value.int r), s)) (fun P hP => ?_) h ho
  unfold f_X9_dateOf
  refine ax_j (ax_iload_n hV dX9_dateOf_0 rfl) ?_
  refine ax_jb (fun v ho => ax_cSi hV lk_X9_263 rfl dX9_dateOf_1 [.int p1] [] (fun ad => [.int p1]) rfl rfl rfl rfl v s (T_X1_isOne p1 s v ho)) (fun q1 => ?_)
  refine ax_jif (ax_if_eq hV dX9_dateOf_4) ?_ ?_
  · refine ax_j (ax_bipush hV (-2 : Int32) dX9_dateOf_24 (by decide)) ?_
    exact ax_jl (fun h => ax_ir hV rfl dX9_dateOf_26 (hP (-2 : Int32) h))
  · refine ax_j (ax_iload_n hV dX9_dateOf_7 rfl) ?_
    refine ax_jif (ax_if_lt hV dX9_dateOf_8) ?_ ?_
    · refine ax_j (ax_bipush hV (-2 : Int32) dX9_dateOf_24 (by decide)) ?_
      exact ax_jl (fun h => ax_ir hV rfl dX9_dateOf_26 (hP (-2 : Int32) h))
    · refine ax_j (ax_iload_n hV dX9_dateOf_11 rfl) ?_
      refine ax_j (ax_iconst hV (2 : Int32) dX9_dateOf_12 (by decide)) ?_
      refine ax_jif (ax_icmp_gt hV dX9_dateOf_13) ?_ ?_
      · refine ax_j (ax_bipush hV (-2 : Int32) dX9_dateOf_24 (by decide)) ?_
        exact ax_jl (fun h => ax_ir hV rfl dX9_dateOf_26 (hP (-2 : Int32) h))
      · refine ax_j (ax_iload_n hV dX9_dateOf_16 rfl) ?_
        refine ax_j (ax_iload_n hV dX9_dateOf_17 rfl) ?_
        refine ax_jb (fun v ho => ax_cSi hV lk_X9_276 rfl dX9_dateOf_18 [.int p1, .int p2] [] (fun ad => [.int p1, .int p2]) rfl rfl rfl rfl v s (T_X1_hasDay p1 p2 s v ho)) (fun q18 => ?_)
        refine ax_jif (ax_if_ne hV dX9_dateOf_21) ?_ ?_
        · refine ax_j (ax_bipush hV (-2 : Int32) dX9_dateOf_24 (by decide)) ?_
          exact ax_jl (fun h => ax_ir hV rfl dX9_dateOf_26 (hP (-2 : Int32) h))
        · refine ax_j (ax_iload_n hV dX9_dateOf_27 rfl) ?_
          refine ax_j (ax_iload_n hV dX9_dateOf_28 rfl) ?_
          refine ax_jb (fun v ho => ax_cSi hV lk_X9_279 rfl dX9_dateOf_29 [.int p1, .int p2] [] (fun ad => [.int p1, .int p2]) rfl rfl rfl rfl v s (T_X1_yearWith p1 p2 s v ho)) (fun q29 => ?_)
          refine ax_j (ax_istore hV [some (.ref (ax_ad (cx_C, X) 0)), some (.int p1), some (.int p2), some (.int p3), some (.int q29), none] dX9_dateOf_32 rfl rfl) ?_
          refine ax_j (ax_iload_n hV dX9_dateOf_34 rfl) ?_
          refine ax_j (ax_iconst hV (2 : Int32) dX9_dateOf_35 (by decide)) ?_
          refine ax_jif (ax_icmp_ne hV dX9_dateOf_36) ?_ ?_
          · refine ax_j (ax_iload hV dX9_dateOf_39 rfl) ?_
            exact ax_jl (fun h => ax_ir hV rfl dX9_dateOf_41 (hP q29 h))
          · refine ax_j (ax_iload_n hV dX9_dateOf_42 rfl) ?_
            refine ax_j (ax_iload_n hV dX9_dateOf_43 rfl) ?_
            refine ax_j (ax_iload hV dX9_dateOf_44 rfl) ?_
            refine ax_jb (fun v ho => ax_cSi hV lk_X9_282 rfl dX9_dateOf_46 [.int p1, .int p2, .int q29] [] (fun ad => [.int p1, .int p2, .int q29]) rfl rfl rfl rfl v s (T_X1_monthWith p1 p2 q29 s v ho)) (fun q46 => ?_)
            refine ax_j (ax_istore hV [some (.ref (ax_ad (cx_C, X) 0)), some (.int p1), some (.int p2), some (.int p3), some (.int q29), some (.int q46)] dX9_dateOf_49 rfl rfl) ?_
            refine ax_j (ax_iload_n hV dX9_dateOf_51 rfl) ?_
            refine ax_j (ax_iconst hV (1 : Int32) dX9_dateOf_52 (by decide)) ?_
            refine ax_jif (ax_icmp_ne hV dX9_dateOf_53) ?_ ?_
            · refine ax_j (ax_iload hV dX9_dateOf_56 rfl) ?_
              exact ax_jl (fun h => ax_ir hV rfl dX9_dateOf_58 (hP q46 h))
            · refine ax_j (ax_iload_n hV dX9_dateOf_59 rfl) ?_
              refine ax_j (ax_iload_n hV dX9_dateOf_60 rfl) ?_
              refine ax_j (ax_iconst hV (1 : Int32) dX9_dateOf_61 (by decide)) ?_
              refine ax_j (ax_iload hV dX9_dateOf_62 rfl) ?_
              refine ax_j (ax_iload hV dX9_dateOf_64 rfl) ?_
              refine ax_jb (fun v ho => ax_cSi hV lk_X9_272 rfl dX9_dateOf_66 [.int p1, .int (1 : Int32), .int q46, .int q29] [.int p2] (fun ad => [.int p1, .int (1 : Int32), .int q46, .int q29]) rfl rfl rfl rfl v s (T_X1_dayNumber p1 (1 : Int32) q46 q29 s v ho)) (fun q66 => ?_)
              refine ax_j (ax_isub hV dX9_dateOf_69) ?_
              refine ax_j (ax_iconst hV (1 : Int32) dX9_dateOf_70 (by decide)) ?_
              refine ax_j (ax_iadd hV dX9_dateOf_71) ?_
              exact ax_jl (fun h => ax_ir hV rfl dX9_dateOf_72 (hP ((p2 - q66) + (1 : Int32)) h))
def mu_X9_type : ax_Mu := (yX9_type, cX9_type, 2, some .int, 1, 21)
theorem lc_X9_type : Cond.code mu_X9_type.1 mu_X9_type.2.1 mu_X9_type.2.2.1 mu_X9_type.2.2.2.1 ∈ ax_tb := (ax_m4 34 rfl rfl)
noncomputable def f_X9_type (p1 : Int32) (s : ax_S) : Option (Int32 × ax_S) := (if p1 < 0 then some (((-2 : Int32), s)) else (if p1 ≤ (255 : Int32) then (f_X2_append p1 s).bind (fun q19 => some ((q19.1, q19.2))) else some (((-2 : Int32), s))))
theorem T_X9_type (p1 : Int32) (s : ax_S) (r : Int32 × ax_S) (h : f_X9_type p1 s = some r) : ax_M cx_C mu_X9_type (fun ad => [.ref (ad 0), .int p1]) s (some (.int r.1)) r.2 := by
  refine ax_enter (by decide +kernel) 0 (fun ad => [some (.ref (ad 0)), some (.int p1)]) (fun ad => rfl) (fun ad => Nat.le_of_ble_eq_true rfl) (fun X hV ho => ?_)
  refine ax_go (fun r : Int32 × ax_S => (some (Value.int r.1), r.2)) (fun P hP => ?_) h ho
  unfold f_X9_type
  refine ax_j (ax_iload_n hV dX9_type_0 rfl) ?_
  refine ax_jif (ax_if_lt hV dX9_type_1) ?_ ?_
  · refine ax_j (ax_bipush hV (-2 : Int32) dX9_type_11 (by decide)) ?_
    exact ax_jl (fun h => ax_ir hV rfl dX9_type_13 (hP ((-2 : Int32), s) h))
  · refine ax_j (ax_iload_n hV dX9_type_4 rfl) ?_
    refine ax_j (ax_sipush hV (255 : Int32) dX9_type_5 (by decide)) ?_
    refine ax_jif (ax_icmp_le hV dX9_type_8) ?_ ?_
    · refine ax_j (ax_aload_n hV dX9_type_14 rfl) ?_
      refine ax_j (ax_gfr hV lf_X9_50 dX9_type_15 rfl rfl) ?_
      refine ax_j (ax_iload_n hV dX9_type_18 rfl) ?_
      refine ax_jb (fun v ho => ax_cVi hV lk_X9_286 rfl dX9_type_19 rfl rfl [.int p1] [] (fun ad => [.ref (ad 7), .int p1]) rfl rfl rfl rfl v.1 v.2 (T_X2_append p1 s v ho)) (fun q19 => ?_)
      exact ax_jl (fun h => ax_ir hV rfl dX9_type_22 (hP (q19.1, q19.2) h))
    · refine ax_j (ax_bipush hV (-2 : Int32) dX9_type_11 (by decide)) ?_
      exact ax_jl (fun h => ax_ir hV rfl dX9_type_13 (hP ((-2 : Int32), s) h))
def mu_X9_wipe : ax_Mu := (yX9_wipe, cX9_wipe, 2, some .int, 0, 0)
theorem lc_X9_wipe : Cond.code mu_X9_wipe.1 mu_X9_wipe.2.1 mu_X9_wipe.2.2.1 mu_X9_wipe.2.2.2.1 ∈ ax_tb := (ax_m4 42 rfl rfl)
noncomputable def f_X9_wipe  (s : ax_S) : Option (Int32 × ax_S) := some (((s.1 7 1), (ax_ui s 7 1 (0 : Int32))))
theorem T_X9_wipe  (s : ax_S) (r : Int32 × ax_S) (h : f_X9_wipe s = some r) : ax_M cx_C mu_X9_wipe (fun ad => [.ref (ad 0)]) s (some (.int r.1)) r.2 := by
  refine ax_enter (by decide +kernel) 1 (fun ad => [some (.ref (ad 0)), none]) (fun ad => rfl) (fun ad => Nat.le_of_ble_eq_true rfl) (fun X hV ho => ?_)
  refine ax_go (fun r : Int32 × ax_S => (some (Value.int r.1), r.2)) (fun P hP => ?_) h ho
  unfold f_X9_wipe
  refine ax_j (ax_aload_n hV dX9_wipe_0 rfl) ?_
  refine ax_j (ax_gfr hV lf_X9_50 dX9_wipe_1 rfl rfl) ?_
  refine ax_j (ax_gfi hV lf_X9_289 dX9_wipe_4 rfl rfl) ?_
  refine ax_j (ax_istore_n hV [some (.ref (ax_ad (cx_C, X) 0)), some (.int (s.1 7 1))] dX9_wipe_7 rfl rfl) ?_
  refine ax_j (ax_aload_n hV dX9_wipe_8 rfl) ?_
  refine ax_j (ax_gfr hV lf_X9_50 dX9_wipe_9 rfl rfl) ?_
  refine ax_j (ax_iconst hV (0 : Int32) dX9_wipe_12 (by decide)) ?_
  refine ax_j (ax_pfi hV lp_X9_289 dX9_wipe_13 rfl rfl) ?_
  refine ax_j (ax_iload_n hV dX9_wipe_16 rfl) ?_
  exact ax_jl (fun h => ax_ir hV rfl dX9_wipe_17 (hP ((s.1 7 1), (ax_ui s 7 1 (0 : Int32))) h))
def mu_X9_fault : ax_Mu := (yX9_fault, cX9_fault, 1, some .int, 6, 137)
theorem lc_X9_fault : Cond.code mu_X9_fault.1 mu_X9_fault.2.1 mu_X9_fault.2.2.1 mu_X9_fault.2.2.2.1 ∈ ax_tb := (ax_m4 46 rfl rfl)
noncomputable def f_X9_fault  (s : ax_S) : Option (Int32 × ax_S) := (f_X2_findFault s).bind (fun q4 => some ((q4.1, q4.2)))
theorem T_X9_fault  (s : ax_S) (r : Int32 × ax_S) (h : f_X9_fault s = some r) : ax_M cx_C mu_X9_fault (fun ad => [.ref (ad 0)]) s (some (.int r.1)) r.2 := by
  refine ax_enter (by decide +kernel) 0 (fun ad => [some (.ref (ad 0))]) (fun ad => rfl) (fun ad => Nat.le_of_ble_eq_true rfl) (fun X hV ho => ?_)
  refine ax_go (fun r : Int32 × ax_S => (some (Value.int r.1), r.2)) (fun P hP => ?_) h ho
  unfold f_X9_fault
  refine ax_j (ax_aload_n hV dX9_fault_0 rfl) ?_
  refine ax_j (ax_gfr hV lf_X9_50 dX9_fault_1 rfl rfl) ?_
  refine ax_jb (fun v ho => ax_cVi hV lk_X9_292 rfl dX9_fault_4 rfl rfl [] [] (fun ad => [.ref (ad 7)]) rfl rfl rfl rfl v.1 v.2 (T_X2_findFault s v ho)) (fun q4 => ?_)
  exact ax_jl (fun h => ax_ir hV rfl dX9_fault_7 (hP (q4.1, q4.2) h))
def mu_X9_said : ax_Mu := (yX9_said, cX9_said, 3, some .int, 6, 137)
theorem lc_X9_said : Cond.code mu_X9_said.1 mu_X9_said.2.1 mu_X9_said.2.2.1 mu_X9_said.2.2.2.1 ∈ ax_tb := (ax_m4 84 rfl rfl)
noncomputable def f_X9_said (p1 : Int32) (p2 : Int32) (s : ax_S) : Option (Int32 × ax_S) := (f_X9_isBook p1 s).bind (fun q2 => (if q2 = 0 then some (((-2 : Int32), s)) else (f_X9_isThing p2 s).bind (fun q10 => (if q10 = 0 then some (((-2 : Int32), s)) else (f_X2_findFault s).bind (fun q23 => (if q23.1 = (-1 : Int32) then (f_X7_tell p1 p2 (-1 : Int32) (q23.2.1 7 2) (q23.2.1 7 3) (q23.2.1 0 8) q23.2).bind (fun q58 => some ((q58.1, q58.2))) else some (((-3 : Int32), q23.2))))))))
theorem T_X9_said (p1 : Int32) (p2 : Int32) (s : ax_S) (r : Int32 × ax_S) (h : f_X9_said p1 p2 s = some r) : ax_M cx_C mu_X9_said (fun ad => [.ref (ad 0), .int p1, .int p2]) s (some (.int r.1)) r.2 := by
  refine ax_enter (by decide +kernel) 0 (fun ad => [some (.ref (ad 0)), some (.int p1), some (.int p2)]) (fun ad => rfl) (fun ad => Nat.le_of_ble_eq_true rfl) (fun X hV ho => ?_)
  refine ax_go (fun r : Int32 × ax_S => (some (Value.int r.1), r.2)) (fun P hP => ?_) h ho
  unfold f_X9_said
  refine ax_j (ax_aload_n hV dX9_said_0 rfl) ?_
  refine ax_j (ax_iload_n hV dX9_said_1 rfl) ?_
  refine ax_jb (fun v ho => ax_cVi hV lk_X9_84 rfl dX9_said_2 rfl rfl [.int p1] [] (fun ad => [.ref (ad 0), .int p1]) rfl rfl rfl rfl v s (T_X9_isBook p1 s v ho)) (fun q2 => ?_)
  refine ax_jif (ax_if_eq hV dX9_said_5) ?_ ?_
  · refine ax_j (ax_bipush hV (-2 : Int32) dX9_said_16 (by decide)) ?_
    exact ax_jl (fun h => ax_ir hV rfl dX9_said_18 (hP ((-2 : Int32), s) h))
  · refine ax_j (ax_aload_n hV dX9_said_8 rfl) ?_
    refine ax_j (ax_iload_n hV dX9_said_9 rfl) ?_
    refine ax_jb (fun v ho => ax_cVi hV lk_X9_92 rfl dX9_said_10 rfl rfl [.int p2] [] (fun ad => [.ref (ad 0), .int p2]) rfl rfl rfl rfl v s (T_X9_isThing p2 s v ho)) (fun q10 => ?_)
    refine ax_jif (ax_if_ne hV dX9_said_13) ?_ ?_
    · refine ax_j (ax_bipush hV (-2 : Int32) dX9_said_16 (by decide)) ?_
      exact ax_jl (fun h => ax_ir hV rfl dX9_said_18 (hP ((-2 : Int32), s) h))
    · refine ax_j (ax_aload_n hV dX9_said_19 rfl) ?_
      refine ax_j (ax_gfr hV lf_X9_50 dX9_said_20 rfl rfl) ?_
      refine ax_jb (fun v ho => ax_cVi hV lk_X9_292 rfl dX9_said_23 rfl rfl [] [] (fun ad => [.ref (ad 7)]) rfl rfl rfl rfl v.1 v.2 (T_X2_findFault s v ho)) (fun q23 => ?_)
      refine ax_j (ax_iconst hV (-1 : Int32) dX9_said_26 (by decide)) ?_
      refine ax_jif (ax_icmp_eq hV dX9_said_27) ?_ ?_
      · refine ax_j (ax_aload_n hV dX9_said_33 rfl) ?_
        refine ax_j (ax_gfr hV lf_X9_25 dX9_said_34 rfl rfl) ?_
        refine ax_j (ax_iload_n hV dX9_said_37 rfl) ?_
        refine ax_j (ax_iload_n hV dX9_said_38 rfl) ?_
        refine ax_j (ax_iconst hV (-1 : Int32) dX9_said_39 (by decide)) ?_
        refine ax_j (ax_aload_n hV dX9_said_40 rfl) ?_
        refine ax_j (ax_gfr hV lf_X9_50 dX9_said_41 rfl rfl) ?_
        refine ax_j (ax_gfi hV lf_X9_295 dX9_said_44 rfl rfl) ?_
        refine ax_j (ax_aload_n hV dX9_said_47 rfl) ?_
        refine ax_j (ax_gfr hV lf_X9_50 dX9_said_48 rfl rfl) ?_
        refine ax_j (ax_gfi hV lf_X9_298 dX9_said_51 rfl rfl) ?_
        refine ax_j (ax_aload_n hV dX9_said_54 rfl) ?_
        refine ax_j (ax_gfi hV lf_X9_61 dX9_said_55 rfl rfl) ?_
        refine ax_jb (fun v ho => ax_cVi hV lk_X9_96 rfl dX9_said_58 rfl rfl [.int p1, .int p2, .int (-1 : Int32), .int (q23.2.1 7 2), .int (q23.2.1 7 3), .int (q23.2.1 0 8)] [] (fun ad => [.ref (ad 2), .int p1, .int p2, .int (-1 : Int32), .int (q23.2.1 7 2), .int (q23.2.1 7 3), .int (q23.2.1 0 8)]) rfl rfl rfl rfl v.1 v.2 (T_X7_tell p1 p2 (-1 : Int32) (q23.2.1 7 2) (q23.2.1 7 3) (q23.2.1 0 8) q23.2 v ho)) (fun q58 => ?_)
        exact ax_jl (fun h => ax_ir hV rfl dX9_said_61 (hP (q58.1, q58.2) h))
      · refine ax_j (ax_bipush hV (-3 : Int32) dX9_said_30 (by decide)) ?_
        exact ax_jl (fun h => ax_ir hV rfl dX9_said_32 (hP ((-3 : Int32), q23.2) h))
def mu_X9_isType : ax_Mu := (yX9_isType, cX9_isType, 1, some .boolean, 0, 0)
theorem lc_X9_isType : Cond.code mu_X9_isType.1 mu_X9_isType.2.1 mu_X9_isType.2.2.1 mu_X9_isType.2.2.2.1 ∈ ax_tb := (ax_m4 91 rfl rfl)
noncomputable def f_X9_isType (p1 : Int32) : Option (Int32) := (if p1 < 0 then some ((0 : Int32)) else (if (2 : Int32) < p1 then some ((0 : Int32)) else some ((1 : Int32))))
theorem T_X9_isType (p1 : Int32) (s : ax_S) (r : Int32) (h : f_X9_isType p1 = some r) : ax_M cx_C mu_X9_isType (fun ad => [.int p1]) s (some (.int r)) s := by
  refine ax_enter (by decide +kernel) 0 (fun ad => [some (.int p1)]) (fun ad => rfl) (fun ad => Nat.le_of_ble_eq_true rfl) (fun X hV ho => ?_)
  refine ax_go (fun r : Int32 => (some (Value.int r), s)) (fun P hP => ?_) h ho
  unfold f_X9_isType
  refine ax_j (ax_iload_n hV dX9_isType_0 rfl) ?_
  refine ax_jif (ax_if_lt hV dX9_isType_1) ?_ ?_
  · refine ax_j (ax_iconst hV (0 : Int32) dX9_isType_13 (by decide)) ?_
    exact ax_jl (fun h => ax_zr hV rfl (by decide) dX9_isType_14 (hP (0 : Int32) h))
  · refine ax_j (ax_iload_n hV dX9_isType_4 rfl) ?_
    refine ax_j (ax_iconst hV (2 : Int32) dX9_isType_5 (by decide)) ?_
    refine ax_jif (ax_icmp_gt hV dX9_isType_6) ?_ ?_
    · refine ax_j (ax_iconst hV (0 : Int32) dX9_isType_13 (by decide)) ?_
      exact ax_jl (fun h => ax_zr hV rfl (by decide) dX9_isType_14 (hP (0 : Int32) h))
    · refine ax_j (ax_iconst hV (1 : Int32) dX9_isType_9 (by decide)) ?_
      refine ax_j (ax_goto hV dX9_isType_10) ?_
      exact ax_jl (fun h => ax_zr hV rfl (by decide) dX9_isType_14 (hP (1 : Int32) h))
theorem lk_X9_301 : ax_lkS RX9 301 mu_X9_isType 1 := ax_lkS_of (ax_m4 89 rfl rfl) (ax_m4 90 rfl rfl) (ax_m1 1 rfl rfl) lc_X9_isType ⟨by decide +kernel, by decide +kernel, by decide +kernel⟩
def mu_X9_sheet : ax_Mu := (yX9_sheet, cX9_sheet, 4, some .int, 1, 24)
theorem lc_X9_sheet : Cond.code mu_X9_sheet.1 mu_X9_sheet.2.1 mu_X9_sheet.2.2.1 mu_X9_sheet.2.2.2.1 ∈ ax_tb := (ax_m4 88 rfl rfl)
noncomputable def f_X9_sheet (p1 : Int32) (p2 : Int32) (p3 : Int32) (s : ax_S) : Option (Int32 × ax_S) := (f_X9_isSheet p1).bind (fun q1 => (if q1 = 0 then some (((-2 : Int32), s)) else (f_X9_isType p2).bind (fun q8 => (if q8 = 0 then some (((-2 : Int32), s)) else (if p3 ≤ (40 : Int32) then (if 0 ≤ p3 then (f_X8_renew p1 p2 p3 s).bind (fun q40 => some ((p3, q40))) else (f_X9_found (5 : Int32) s).bind (fun q29 => some ((q29.1, q29.2)))) else some (((-2 : Int32), s)))))))
theorem T_X9_sheet (p1 : Int32) (p2 : Int32) (p3 : Int32) (s : ax_S) (r : Int32 × ax_S) (h : f_X9_sheet p1 p2 p3 s = some r) : ax_M cx_C mu_X9_sheet (fun ad => [.ref (ad 0), .int p1, .int p2, .int p3]) s (some (.int r.1)) r.2 := by
  refine ax_enter (by decide +kernel) 0 (fun ad => [some (.ref (ad 0)), some (.int p1), some (.int p2), some (.int p3)]) (fun ad => rfl) (fun ad => Nat.le_of_ble_eq_true rfl) (fun X hV ho => ?_)
  refine ax_go (fun r : Int32 × ax_S => (some (Value.int r.1), r.2)) (fun P hP => ?_) h ho
  unfold f_X9_sheet
  refine ax_j (ax_iload_n hV dX9_sheet_0 rfl) ?_
  refine ax_jb (fun v ho => ax_cSi hV lk_X9_107 rfl dX9_sheet_1 [.int p1] [] (fun ad => [.int p1]) rfl rfl rfl rfl v s (T_X9_isSheet p1 s v ho)) (fun q1 => ?_)
  refine ax_jif (ax_if_eq hV dX9_sheet_4) ?_ ?_
  · refine ax_j (ax_bipush hV (-2 : Int32) dX9_sheet_20 (by decide)) ?_
    exact ax_jl (fun h => ax_ir hV rfl dX9_sheet_22 (hP ((-2 : Int32), s) h))
  · refine ax_j (ax_iload_n hV dX9_sheet_7 rfl) ?_
    refine ax_jb (fun v ho => ax_cSi hV lk_X9_301 rfl dX9_sheet_8 [.int p2] [] (fun ad => [.int p2]) rfl rfl rfl rfl v s (T_X9_isType p2 s v ho)) (fun q8 => ?_)
    refine ax_jif (ax_if_eq hV dX9_sheet_11) ?_ ?_
    · refine ax_j (ax_bipush hV (-2 : Int32) dX9_sheet_20 (by decide)) ?_
      exact ax_jl (fun h => ax_ir hV rfl dX9_sheet_22 (hP ((-2 : Int32), s) h))
    · refine ax_j (ax_iload_n hV dX9_sheet_14 rfl) ?_
      refine ax_j (ax_bipush hV (40 : Int32) dX9_sheet_15 (by decide)) ?_
      refine ax_jif (ax_icmp_le hV dX9_sheet_17) ?_ ?_
      · refine ax_j (ax_iload_n hV dX9_sheet_23 rfl) ?_
        refine ax_jif (ax_if_ge hV dX9_sheet_24) ?_ ?_
        · refine ax_j (ax_aload_n hV dX9_sheet_33 rfl) ?_
          refine ax_j (ax_gfr hV lf_X9_57 dX9_sheet_34 rfl rfl) ?_
          refine ax_j (ax_iload_n hV dX9_sheet_37 rfl) ?_
          refine ax_j (ax_iload_n hV dX9_sheet_38 rfl) ?_
          refine ax_j (ax_iload_n hV dX9_sheet_39 rfl) ?_
          refine ax_jb (fun v ho => ax_cVv hV lk_X9_304 rfl dX9_sheet_40 rfl rfl [.int p1, .int p2, .int p3] [] (fun ad => [.ref (ad 8), .int p1, .int p2, .int p3]) rfl rfl rfl rfl v (T_X8_renew p1 p2 p3 s v ho)) (fun q40 => ?_)
          refine ax_j (ax_iload_n hV dX9_sheet_43 rfl) ?_
          exact ax_jl (fun h => ax_ir hV rfl dX9_sheet_44 (hP (p3, q40) h))
        · refine ax_j (ax_aload_n hV dX9_sheet_27 rfl) ?_
          refine ax_j (ax_iconst hV (5 : Int32) dX9_sheet_28 (by decide)) ?_
          refine ax_jb (fun v ho => ax_cVi hV lk_X9_113 rfl dX9_sheet_29 rfl rfl [.int (5 : Int32)] [] (fun ad => [.ref (ad 0), .int (5 : Int32)]) rfl rfl rfl rfl v.1 v.2 (T_X9_found (5 : Int32) s v ho)) (fun q29 => ?_)
          exact ax_jl (fun h => ax_ir hV rfl dX9_sheet_32 (hP (q29.1, q29.2) h))
      · refine ax_j (ax_bipush hV (-2 : Int32) dX9_sheet_20 (by decide)) ?_
        exact ax_jl (fun h => ax_ir hV rfl dX9_sheet_22 (hP ((-2 : Int32), s) h))
def mu_X9_lose : ax_Mu := (yX9_lose, cX9_lose, 2, some .int, 1, 21)
theorem lc_X9_lose : Cond.code mu_X9_lose.1 mu_X9_lose.2.1 mu_X9_lose.2.2.1 mu_X9_lose.2.2.2.1 ∈ ax_tb := (ax_m4 99 rfl rfl)
noncomputable def f_X9_lose (p1 : Int32) (s : ax_S) : Option (Int32 × ax_S) := (f_X9_isSheet p1).bind (fun q1 => (if q1 = 0 then some (((-2 : Int32), s)) else (f_X8_isLost p1 s).bind (fun q15 => (if q15 = 0 then (ax_si cx_C s 37 p1 (-1 : Int32)).bind (fun s36 => (ax_ai cx_C s36 38 p1).bind (fun v45 => some ((v45, s36)))) else (f_X9_found (1 : Int32) s).bind (fun q23 => some ((q23.1, q23.2)))))))
theorem T_X9_lose (p1 : Int32) (s : ax_S) (r : Int32 × ax_S) (h : f_X9_lose p1 s = some r) : ax_M cx_C mu_X9_lose (fun ad => [.ref (ad 0), .int p1]) s (some (.int r.1)) r.2 := by
  refine ax_enter (by decide +kernel) 0 (fun ad => [some (.ref (ad 0)), some (.int p1)]) (fun ad => rfl) (fun ad => Nat.le_of_ble_eq_true rfl) (fun X hV ho => ?_)
  refine ax_go (fun r : Int32 × ax_S => (some (Value.int r.1), r.2)) (fun P hP => ?_) h ho
  unfold f_X9_lose
  refine ax_j (ax_iload_n hV dX9_lose_0 rfl) ?_
  refine ax_jb (fun v ho => ax_cSi hV lk_X9_107 rfl dX9_lose_1 [.int p1] [] (fun ad => [.int p1]) rfl rfl rfl rfl v s (T_X9_isSheet p1 s v ho)) (fun q1 => ?_)
  refine ax_jif (ax_if_ne hV dX9_lose_4) ?_ ?_
  · refine ax_j (ax_bipush hV (-2 : Int32) dX9_lose_7 (by decide)) ?_
    exact ax_jl (fun h => ax_ir hV rfl dX9_lose_9 (hP ((-2 : Int32), s) h))
  · refine ax_j (ax_aload_n hV dX9_lose_10 rfl) ?_
    refine ax_j (ax_gfr hV lf_X9_57 dX9_lose_11 rfl rfl) ?_
    refine ax_j (ax_iload_n hV dX9_lose_14 rfl) ?_
    refine ax_jb (fun v ho => ax_cVi hV lk_X9_110 rfl dX9_lose_15 rfl rfl [.int p1] [] (fun ad => [.ref (ad 8), .int p1]) rfl rfl rfl rfl v s (T_X8_isLost p1 s v ho)) (fun q15 => ?_)
    refine ax_jif (ax_if_eq hV dX9_lose_18) ?_ ?_
    · refine ax_j (ax_aload_n hV dX9_lose_27 rfl) ?_
      refine ax_j (ax_gfr hV lf_X9_57 dX9_lose_28 rfl rfl) ?_
      refine ax_j (ax_gfr hV lf_X9_308 dX9_lose_31 rfl rfl) ?_
      refine ax_j (ax_iload_n hV dX9_lose_34 rfl) ?_
      refine ax_j (ax_iconst hV (-1 : Int32) dX9_lose_35 (by decide)) ?_
      refine ax_jb (ax_iast hV dX9_lose_36) (fun s36 => ?_)
      refine ax_j (ax_aload_n hV dX9_lose_37 rfl) ?_
      refine ax_j (ax_gfr hV lf_X9_57 dX9_lose_38 rfl rfl) ?_
      refine ax_j (ax_gfr hV lf_X9_117 dX9_lose_41 rfl rfl) ?_
      refine ax_j (ax_iload_n hV dX9_lose_44 rfl) ?_
      refine ax_jb (ax_iald hV dX9_lose_45) (fun v45 => ?_)
      exact ax_jl (fun h => ax_ir hV rfl dX9_lose_46 (hP (v45, s36) h))
    · refine ax_j (ax_aload_n hV dX9_lose_21 rfl) ?_
      refine ax_j (ax_iconst hV (1 : Int32) dX9_lose_22 (by decide)) ?_
      refine ax_jb (fun v ho => ax_cVi hV lk_X9_113 rfl dX9_lose_23 rfl rfl [.int (1 : Int32)] [] (fun ad => [.ref (ad 0), .int (1 : Int32)]) rfl rfl rfl rfl v.1 v.2 (T_X9_found (1 : Int32) s v ho)) (fun q23 => ?_)
      exact ax_jl (fun h => ax_ir hV rfl dX9_lose_26 (hP (q23.1, q23.2) h))
def mu_X9_put : ax_Mu := (yX9_put, cX9_put, 6, some .int, 2, 44)
theorem lc_X9_put : Cond.code mu_X9_put.1 mu_X9_put.2.1 mu_X9_put.2.2.1 mu_X9_put.2.2.2.1 ∈ ax_tb := (ax_m4 103 rfl rfl)
noncomputable def f_X9_put (p1 : Int32) (p2 : Int32) (p3 : Int32) (p4 : Int32) (s : ax_S) : Option (Int32 × ax_S) := (f_X9_isSheet p1).bind (fun q1 => (if q1 = 0 then some (((-2 : Int32), s)) else (f_X9_isType p2).bind (fun q8 => (if q8 = 0 then some (((-2 : Int32), s)) else (f_X8_hindrance p1 p2 p3 s).bind (fun q24 => (if q24 = 0 then (f_X8_store p1 p3 p4 s).bind (fun q49 => some (((1 : Int32), q49))) else (f_X9_found q24 s).bind (fun q37 => some ((q37.1, q37.2)))))))))
theorem T_X9_put (p1 : Int32) (p2 : Int32) (p3 : Int32) (p4 : Int32) (s : ax_S) (r : Int32 × ax_S) (h : f_X9_put p1 p2 p3 p4 s = some r) : ax_M cx_C mu_X9_put (fun ad => [.ref (ad 0), .int p1, .int p2, .int p3, .int p4]) s (some (.int r.1)) r.2 := by
  refine ax_enter (by decide +kernel) 1 (fun ad => [some (.ref (ad 0)), some (.int p1), some (.int p2), some (.int p3), some (.int p4), none]) (fun ad => rfl) (fun ad => Nat.le_of_ble_eq_true rfl) (fun X hV ho => ?_)
  refine ax_go (fun r : Int32 × ax_S => (some (Value.int r.1), r.2)) (fun P hP => ?_) h ho
  unfold f_X9_put
  refine ax_j (ax_iload_n hV dX9_put_0 rfl) ?_
  refine ax_jb (fun v ho => ax_cSi hV lk_X9_107 rfl dX9_put_1 [.int p1] [] (fun ad => [.int p1]) rfl rfl rfl rfl v s (T_X9_isSheet p1 s v ho)) (fun q1 => ?_)
  refine ax_jif (ax_if_eq hV dX9_put_4) ?_ ?_
  · refine ax_j (ax_bipush hV (-2 : Int32) dX9_put_14 (by decide)) ?_
    exact ax_jl (fun h => ax_ir hV rfl dX9_put_16 (hP ((-2 : Int32), s) h))
  · refine ax_j (ax_iload_n hV dX9_put_7 rfl) ?_
    refine ax_jb (fun v ho => ax_cSi hV lk_X9_301 rfl dX9_put_8 [.int p2] [] (fun ad => [.int p2]) rfl rfl rfl rfl v s (T_X9_isType p2 s v ho)) (fun q8 => ?_)
    refine ax_jif (ax_if_ne hV dX9_put_11) ?_ ?_
    · refine ax_j (ax_bipush hV (-2 : Int32) dX9_put_14 (by decide)) ?_
      exact ax_jl (fun h => ax_ir hV rfl dX9_put_16 (hP ((-2 : Int32), s) h))
    · refine ax_j (ax_aload_n hV dX9_put_17 rfl) ?_
      refine ax_j (ax_gfr hV lf_X9_57 dX9_put_18 rfl rfl) ?_
      refine ax_j (ax_iload_n hV dX9_put_21 rfl) ?_
      refine ax_j (ax_iload_n hV dX9_put_22 rfl) ?_
      refine ax_j (ax_iload_n hV dX9_put_23 rfl) ?_
      refine ax_jb (fun v ho => ax_cVi hV lk_X9_311 rfl dX9_put_24 rfl rfl [.int p1, .int p2, .int p3] [] (fun ad => [.ref (ad 8), .int p1, .int p2, .int p3]) rfl rfl rfl rfl v s (T_X8_hindrance p1 p2 p3 s v ho)) (fun q24 => ?_)
      refine ax_j (ax_istore hV [some (.ref (ax_ad (cx_C, X) 0)), some (.int p1), some (.int p2), some (.int p3), some (.int p4), some (.int q24)] dX9_put_27 rfl rfl) ?_
      refine ax_j (ax_iload hV dX9_put_29 rfl) ?_
      refine ax_jif (ax_if_eq hV dX9_put_31) ?_ ?_
      · refine ax_j (ax_aload_n hV dX9_put_41 rfl) ?_
        refine ax_j (ax_gfr hV lf_X9_57 dX9_put_42 rfl rfl) ?_
        refine ax_j (ax_iload_n hV dX9_put_45 rfl) ?_
        refine ax_j (ax_iload_n hV dX9_put_46 rfl) ?_
        refine ax_j (ax_iload hV dX9_put_47 rfl) ?_
        refine ax_jb (fun v ho => ax_cVv hV lk_X9_314 rfl dX9_put_49 rfl rfl [.int p1, .int p3, .int p4] [] (fun ad => [.ref (ad 8), .int p1, .int p3, .int p4]) rfl rfl rfl rfl v (T_X8_store p1 p3 p4 s v ho)) (fun q49 => ?_)
        refine ax_j (ax_iconst hV (1 : Int32) dX9_put_52 (by decide)) ?_
        exact ax_jl (fun h => ax_ir hV rfl dX9_put_53 (hP ((1 : Int32), q49) h))
      · refine ax_j (ax_aload_n hV dX9_put_34 rfl) ?_
        refine ax_j (ax_iload hV dX9_put_35 rfl) ?_
        refine ax_jb (fun v ho => ax_cVi hV lk_X9_113 rfl dX9_put_37 rfl rfl [.int q24] [] (fun ad => [.ref (ad 0), .int q24]) rfl rfl rfl rfl v.1 v.2 (T_X9_found q24 s v ho)) (fun q37 => ?_)
        exact ax_jl (fun h => ax_ir hV rfl dX9_put_40 (hP (q37.1, q37.2) h))
def mu_X9_get : ax_Mu := (yX9_get, cX9_get, 5, some .int, 2, 44)
theorem lc_X9_get : Cond.code mu_X9_get.1 mu_X9_get.2.1 mu_X9_get.2.2.1 mu_X9_get.2.2.2.1 ∈ ax_tb := (ax_m4 119 rfl rfl)
noncomputable def f_X9_get (p1 : Int32) (p2 : Int32) (p3 : Int32) (s : ax_S) : Option (Int32 × ax_S) := (f_X9_isSheet p1).bind (fun q1 => (if q1 = 0 then some (((-2147483648 : Int32), s)) else (f_X9_isType p2).bind (fun q8 => (if q8 = 0 then some (((-2147483648 : Int32), s)) else (f_X8_hindrance p1 p2 p3 s).bind (fun q25 => (if q25 = 0 then (f_X8_item p1 p3 s).bind (fun q52 => some ((q52, s))) else (f_X9_found q25 s).bind (fun q38 => some (((-2147483648 : Int32), q38.2)))))))))
theorem T_X9_get (p1 : Int32) (p2 : Int32) (p3 : Int32) (s : ax_S) (r : Int32 × ax_S) (h : f_X9_get p1 p2 p3 s = some r) : ax_M cx_C mu_X9_get (fun ad => [.ref (ad 0), .int p1, .int p2, .int p3]) s (some (.int r.1)) r.2 := by
  refine ax_enter (by decide +kernel) 1 (fun ad => [some (.ref (ad 0)), some (.int p1), some (.int p2), some (.int p3), none]) (fun ad => rfl) (fun ad => Nat.le_of_ble_eq_true rfl) (fun X hV ho => ?_)
  refine ax_go (fun r : Int32 × ax_S => (some (Value.int r.1), r.2)) (fun P hP => ?_) h ho
  unfold f_X9_get
  refine ax_j (ax_iload_n hV dX9_get_0 rfl) ?_
  refine ax_jb (fun v ho => ax_cSi hV lk_X9_107 rfl dX9_get_1 [.int p1] [] (fun ad => [.int p1]) rfl rfl rfl rfl v s (T_X9_isSheet p1 s v ho)) (fun q1 => ?_)
  refine ax_jif (ax_if_eq hV dX9_get_4) ?_ ?_
  · refine ax_j (ax_ldcw hV kc_X9_317 dX9_get_14) ?_
    exact ax_jl (fun h => ax_ir hV rfl dX9_get_17 (hP ((-2147483648 : Int32), s) h))
  · refine ax_j (ax_iload_n hV dX9_get_7 rfl) ?_
    refine ax_jb (fun v ho => ax_cSi hV lk_X9_301 rfl dX9_get_8 [.int p2] [] (fun ad => [.int p2]) rfl rfl rfl rfl v s (T_X9_isType p2 s v ho)) (fun q8 => ?_)
    refine ax_jif (ax_if_ne hV dX9_get_11) ?_ ?_
    · refine ax_j (ax_ldcw hV kc_X9_317 dX9_get_14) ?_
      exact ax_jl (fun h => ax_ir hV rfl dX9_get_17 (hP ((-2147483648 : Int32), s) h))
    · refine ax_j (ax_aload_n hV dX9_get_18 rfl) ?_
      refine ax_j (ax_gfr hV lf_X9_57 dX9_get_19 rfl rfl) ?_
      refine ax_j (ax_iload_n hV dX9_get_22 rfl) ?_
      refine ax_j (ax_iload_n hV dX9_get_23 rfl) ?_
      refine ax_j (ax_iload_n hV dX9_get_24 rfl) ?_
      refine ax_jb (fun v ho => ax_cVi hV lk_X9_311 rfl dX9_get_25 rfl rfl [.int p1, .int p2, .int p3] [] (fun ad => [.ref (ad 8), .int p1, .int p2, .int p3]) rfl rfl rfl rfl v s (T_X8_hindrance p1 p2 p3 s v ho)) (fun q25 => ?_)
      refine ax_j (ax_istore hV [some (.ref (ax_ad (cx_C, X) 0)), some (.int p1), some (.int p2), some (.int p3), some (.int q25)] dX9_get_28 rfl rfl) ?_
      refine ax_j (ax_iload hV dX9_get_30 rfl) ?_
      refine ax_jif (ax_if_eq hV dX9_get_32) ?_ ?_
      · refine ax_j (ax_aload_n hV dX9_get_46 rfl) ?_
        refine ax_j (ax_gfr hV lf_X9_57 dX9_get_47 rfl rfl) ?_
        refine ax_j (ax_iload_n hV dX9_get_50 rfl) ?_
        refine ax_j (ax_iload_n hV dX9_get_51 rfl) ?_
        refine ax_jb (fun v ho => ax_cVi hV lk_X9_318 rfl dX9_get_52 rfl rfl [.int p1, .int p3] [] (fun ad => [.ref (ad 8), .int p1, .int p3]) rfl rfl rfl rfl v s (T_X8_item p1 p3 s v ho)) (fun q52 => ?_)
        exact ax_jl (fun h => ax_ir hV rfl dX9_get_55 (hP (q52, s) h))
      · refine ax_j (ax_aload_n hV dX9_get_35 rfl) ?_
        refine ax_j (ax_iload hV dX9_get_36 rfl) ?_
        refine ax_jb (fun v ho => ax_cVi hV lk_X9_113 rfl dX9_get_38 rfl rfl [.int q25] [] (fun ad => [.ref (ad 0), .int q25]) rfl rfl rfl rfl v.1 v.2 (T_X9_found q25 s v ho)) (fun q38 => ?_)
        refine ax_j (ax_pop hV dX9_get_41 rfl) ?_
        refine ax_j (ax_ldcw hV kc_X9_317 dX9_get_42) ?_
        exact ax_jl (fun h => ax_ir hV rfl dX9_get_45 (hP ((-2147483648 : Int32), q38.2) h))
def mu_X9_copy : ax_Mu := (yX9_copy, cX9_copy, 6, some .int, 2, 43)
theorem lc_X9_copy : Cond.code mu_X9_copy.1 mu_X9_copy.2.1 mu_X9_copy.2.2.1 mu_X9_copy.2.2.2.1 ∈ ax_tb := (ax_m4 124 rfl rfl)
noncomputable def f_X9_copy (p1 : Int32) (p2 : Int32) (p3 : Int32) (p4 : Int32) (p5 : Int32) (s : ax_S) : Option (Int32 × ax_S) := (f_X9_isSheet p1).bind (fun q1 => (if q1 = 0 then some (((-2 : Int32), s)) else (f_X9_isSheet p3).bind (fun q8 => (if q8 = 0 then some (((-2 : Int32), s)) else (f_X8_isLost p1 s).bind (fun q22 => (if q22 = 0 then (f_X8_isLost p3 s).bind (fun q33 => (if q33 = 0 then (ax_ai cx_C s 37 p1).bind (fun v53 => (ax_ai cx_C s 37 p3).bind (fun v62 => (if v53 = v62 then (f_X8_has p1 p2 p5 s).bind (fun q80 => (if q80 = 0 then (f_X9_found (2 : Int32) s).bind (fun q103 => some ((q103.1, q103.2))) else (f_X8_has p3 p4 p5 s).bind (fun q95 => (if q95 = 0 then (f_X9_found (2 : Int32) s).bind (fun q103 => some ((q103.1, q103.2))) else (f_X8_move p1 p2 p3 p4 p5 s).bind (fun q118 => some (((1 : Int32), q118))))))) else (f_X9_found (4 : Int32) s).bind (fun q68 => some ((q68.1, q68.2)))))) else (f_X9_found (1 : Int32) s).bind (fun q41 => some ((q41.1, q41.2))))) else (f_X9_found (1 : Int32) s).bind (fun q41 => some ((q41.1, q41.2)))))))))
theorem T_X9_copy (p1 : Int32) (p2 : Int32) (p3 : Int32) (p4 : Int32) (p5 : Int32) (s : ax_S) (r : Int32 × ax_S) (h : f_X9_copy p1 p2 p3 p4 p5 s = some r) : ax_M cx_C mu_X9_copy (fun ad => [.ref (ad 0), .int p1, .int p2, .int p3, .int p4, .int p5]) s (some (.int r.1)) r.2 := by
  refine ax_enter (by decide +kernel) 0 (fun ad => [some (.ref (ad 0)), some (.int p1), some (.int p2), some (.int p3), some (.int p4), some (.int p5)]) (fun ad => rfl) (fun ad => Nat.le_of_ble_eq_true rfl) (fun X hV ho => ?_)
  refine ax_go (fun r : Int32 × ax_S => (some (Value.int r.1), r.2)) (fun P hP => ?_) h ho
  unfold f_X9_copy
  refine ax_j (ax_iload_n hV dX9_copy_0 rfl) ?_
  refine ax_jb (fun v ho => ax_cSi hV lk_X9_107 rfl dX9_copy_1 [.int p1] [] (fun ad => [.int p1]) rfl rfl rfl rfl v s (T_X9_isSheet p1 s v ho)) (fun q1 => ?_)
  refine ax_jif (ax_if_eq hV dX9_copy_4) ?_ ?_
  · refine ax_j (ax_bipush hV (-2 : Int32) dX9_copy_14 (by decide)) ?_
    exact ax_jl (fun h => ax_ir hV rfl dX9_copy_16 (hP ((-2 : Int32), s) h))
  · refine ax_j (ax_iload_n hV dX9_copy_7 rfl) ?_
    refine ax_jb (fun v ho => ax_cSi hV lk_X9_107 rfl dX9_copy_8 [.int p3] [] (fun ad => [.int p3]) rfl rfl rfl rfl v s (T_X9_isSheet p3 s v ho)) (fun q8 => ?_)
    refine ax_jif (ax_if_ne hV dX9_copy_11) ?_ ?_
    · refine ax_j (ax_bipush hV (-2 : Int32) dX9_copy_14 (by decide)) ?_
      exact ax_jl (fun h => ax_ir hV rfl dX9_copy_16 (hP ((-2 : Int32), s) h))
    · refine ax_j (ax_aload_n hV dX9_copy_17 rfl) ?_
      refine ax_j (ax_gfr hV lf_X9_57 dX9_copy_18 rfl rfl) ?_
      refine ax_j (ax_iload_n hV dX9_copy_21 rfl) ?_
      refine ax_jb (fun v ho => ax_cVi hV lk_X9_110 rfl dX9_copy_22 rfl rfl [.int p1] [] (fun ad => [.ref (ad 8), .int p1]) rfl rfl rfl rfl v s (T_X8_isLost p1 s v ho)) (fun q22 => ?_)
      refine ax_jif (ax_if_ne hV dX9_copy_25) ?_ ?_
      · refine ax_j (ax_aload_n hV dX9_copy_28 rfl) ?_
        refine ax_j (ax_gfr hV lf_X9_57 dX9_copy_29 rfl rfl) ?_
        refine ax_j (ax_iload_n hV dX9_copy_32 rfl) ?_
        refine ax_jb (fun v ho => ax_cVi hV lk_X9_110 rfl dX9_copy_33 rfl rfl [.int p3] [] (fun ad => [.ref (ad 8), .int p3]) rfl rfl rfl rfl v s (T_X8_isLost p3 s v ho)) (fun q33 => ?_)
        refine ax_jif (ax_if_eq hV dX9_copy_36) ?_ ?_
        · refine ax_j (ax_aload_n hV dX9_copy_45 rfl) ?_
          refine ax_j (ax_gfr hV lf_X9_57 dX9_copy_46 rfl rfl) ?_
          refine ax_j (ax_gfr hV lf_X9_308 dX9_copy_49 rfl rfl) ?_
          refine ax_j (ax_iload_n hV dX9_copy_52 rfl) ?_
          refine ax_jb (ax_iald hV dX9_copy_53) (fun v53 => ?_)
          refine ax_j (ax_aload_n hV dX9_copy_54 rfl) ?_
          refine ax_j (ax_gfr hV lf_X9_57 dX9_copy_55 rfl rfl) ?_
          refine ax_j (ax_gfr hV lf_X9_308 dX9_copy_58 rfl rfl) ?_
          refine ax_j (ax_iload_n hV dX9_copy_61 rfl) ?_
          refine ax_jb (ax_iald hV dX9_copy_62) (fun v62 => ?_)
          refine ax_jif (ax_icmp_eq hV dX9_copy_63) ?_ ?_
          · refine ax_j (ax_aload_n hV dX9_copy_72 rfl) ?_
            refine ax_j (ax_gfr hV lf_X9_57 dX9_copy_73 rfl rfl) ?_
            refine ax_j (ax_iload_n hV dX9_copy_76 rfl) ?_
            refine ax_j (ax_iload_n hV dX9_copy_77 rfl) ?_
            refine ax_j (ax_iload hV dX9_copy_78 rfl) ?_
            refine ax_jb (fun v ho => ax_cVi hV lk_X9_321 rfl dX9_copy_80 rfl rfl [.int p1, .int p2, .int p5] [] (fun ad => [.ref (ad 8), .int p1, .int p2, .int p5]) rfl rfl rfl rfl v s (T_X8_has p1 p2 p5 s v ho)) (fun q80 => ?_)
            refine ax_jif (ax_if_eq hV dX9_copy_83) ?_ ?_
            · refine ax_j (ax_aload_n hV dX9_copy_101 rfl) ?_
              refine ax_j (ax_iconst hV (2 : Int32) dX9_copy_102 (by decide)) ?_
              refine ax_jb (fun v ho => ax_cVi hV lk_X9_113 rfl dX9_copy_103 rfl rfl [.int (2 : Int32)] [] (fun ad => [.ref (ad 0), .int (2 : Int32)]) rfl rfl rfl rfl v.1 v.2 (T_X9_found (2 : Int32) s v ho)) (fun q103 => ?_)
              exact ax_jl (fun h => ax_ir hV rfl dX9_copy_106 (hP (q103.1, q103.2) h))
            · refine ax_j (ax_aload_n hV dX9_copy_86 rfl) ?_
              refine ax_j (ax_gfr hV lf_X9_57 dX9_copy_87 rfl rfl) ?_
              refine ax_j (ax_iload_n hV dX9_copy_90 rfl) ?_
              refine ax_j (ax_iload hV dX9_copy_91 rfl) ?_
              refine ax_j (ax_iload hV dX9_copy_93 rfl) ?_
              refine ax_jb (fun v ho => ax_cVi hV lk_X9_321 rfl dX9_copy_95 rfl rfl [.int p3, .int p4, .int p5] [] (fun ad => [.ref (ad 8), .int p3, .int p4, .int p5]) rfl rfl rfl rfl v s (T_X8_has p3 p4 p5 s v ho)) (fun q95 => ?_)
              refine ax_jif (ax_if_ne hV dX9_copy_98) ?_ ?_
              · refine ax_j (ax_aload_n hV dX9_copy_101 rfl) ?_
                refine ax_j (ax_iconst hV (2 : Int32) dX9_copy_102 (by decide)) ?_
                refine ax_jb (fun v ho => ax_cVi hV lk_X9_113 rfl dX9_copy_103 rfl rfl [.int (2 : Int32)] [] (fun ad => [.ref (ad 0), .int (2 : Int32)]) rfl rfl rfl rfl v.1 v.2 (T_X9_found (2 : Int32) s v ho)) (fun q103 => ?_)
                exact ax_jl (fun h => ax_ir hV rfl dX9_copy_106 (hP (q103.1, q103.2) h))
              · refine ax_j (ax_aload_n hV dX9_copy_107 rfl) ?_
                refine ax_j (ax_gfr hV lf_X9_57 dX9_copy_108 rfl rfl) ?_
                refine ax_j (ax_iload_n hV dX9_copy_111 rfl) ?_
                refine ax_j (ax_iload_n hV dX9_copy_112 rfl) ?_
                refine ax_j (ax_iload_n hV dX9_copy_113 rfl) ?_
                refine ax_j (ax_iload hV dX9_copy_114 rfl) ?_
                refine ax_j (ax_iload hV dX9_copy_116 rfl) ?_
                refine ax_jb (fun v ho => ax_cVv hV lk_X9_324 rfl dX9_copy_118 rfl rfl [.int p1, .int p2, .int p3, .int p4, .int p5] [] (fun ad => [.ref (ad 8), .int p1, .int p2, .int p3, .int p4, .int p5]) rfl rfl rfl rfl v (T_X8_move p1 p2 p3 p4 p5 s v ho)) (fun q118 => ?_)
                refine ax_j (ax_iconst hV (1 : Int32) dX9_copy_121 (by decide)) ?_
                exact ax_jl (fun h => ax_ir hV rfl dX9_copy_122 (hP ((1 : Int32), q118) h))
          · refine ax_j (ax_aload_n hV dX9_copy_66 rfl) ?_
            refine ax_j (ax_iconst hV (4 : Int32) dX9_copy_67 (by decide)) ?_
            refine ax_jb (fun v ho => ax_cVi hV lk_X9_113 rfl dX9_copy_68 rfl rfl [.int (4 : Int32)] [] (fun ad => [.ref (ad 0), .int (4 : Int32)]) rfl rfl rfl rfl v.1 v.2 (T_X9_found (4 : Int32) s v ho)) (fun q68 => ?_)
            exact ax_jl (fun h => ax_ir hV rfl dX9_copy_71 (hP (q68.1, q68.2) h))
        · refine ax_j (ax_aload_n hV dX9_copy_39 rfl) ?_
          refine ax_j (ax_iconst hV (1 : Int32) dX9_copy_40 (by decide)) ?_
          refine ax_jb (fun v ho => ax_cVi hV lk_X9_113 rfl dX9_copy_41 rfl rfl [.int (1 : Int32)] [] (fun ad => [.ref (ad 0), .int (1 : Int32)]) rfl rfl rfl rfl v.1 v.2 (T_X9_found (1 : Int32) s v ho)) (fun q41 => ?_)
          exact ax_jl (fun h => ax_ir hV rfl dX9_copy_44 (hP (q41.1, q41.2) h))
      · refine ax_j (ax_aload_n hV dX9_copy_39 rfl) ?_
        refine ax_j (ax_iconst hV (1 : Int32) dX9_copy_40 (by decide)) ?_
        refine ax_jb (fun v ho => ax_cVi hV lk_X9_113 rfl dX9_copy_41 rfl rfl [.int (1 : Int32)] [] (fun ad => [.ref (ad 0), .int (1 : Int32)]) rfl rfl rfl rfl v.1 v.2 (T_X9_found (1 : Int32) s v ho)) (fun q41 => ?_)
        exact ax_jl (fun h => ax_ir hV rfl dX9_copy_44 (hP (q41.1, q41.2) h))

def mu_X10_isLeap : ax_Mu := (yX10_isLeap, cX10_isLeap, 2, some .boolean, 0, 0)
theorem lc_X10_isLeap : Cond.code mu_X10_isLeap.1 mu_X10_isLeap.2.1 mu_X10_isLeap.2.2.1 mu_X10_isLeap.2.2.2.1 ∈ ax_tb := (ax_m6 80 rfl rfl)
noncomputable def f_X10_isLeap (p1 : Int32) (p2 : Int32) : Option (Int32) := (ax_irem p2 (4 : Int32)).bind (fun v2 => (if v2 = 0 then (if p1 = 0 then some ((1 : Int32)) else (ax_irem p2 (100 : Int32)).bind (fun v13 => (if v13 = 0 then (ax_irem p2 (400 : Int32)).bind (fun v21 => (if v21 = 0 then some ((1 : Int32)) else some ((0 : Int32)))) else some ((1 : Int32))))) else some ((0 : Int32))))
theorem T_X10_isLeap (p1 : Int32) (p2 : Int32) (s : ax_S) (r : Int32) (h : f_X10_isLeap p1 p2 = some r) : ax_M cx_R mu_X10_isLeap (fun ad => [.int p1, .int p2]) s (some (.int r)) s := by
  refine ax_enter (by decide +kernel) 0 (fun ad => [some (.int p1), some (.int p2)]) (fun ad => rfl) (fun ad => Nat.le_of_ble_eq_true rfl) (fun X hV ho => ?_)
  refine ax_go (fun r : Int32 => (some (Value.int r), s)) (fun P hP => ?_) h ho
  unfold f_X10_isLeap
  refine ax_j (ax_iload_n hV dX10_isLeap_0 rfl) ?_
  refine ax_j (ax_iconst hV (4 : Int32) dX10_isLeap_1 (by decide)) ?_
  refine ax_jb (ax_irem_ hV dX10_isLeap_2) (fun v2 => ?_)
  refine ax_jif (ax_if_ne hV dX10_isLeap_3) ?_ ?_
  · refine ax_j (ax_iload_n hV dX10_isLeap_6 rfl) ?_
    refine ax_jif (ax_if_eq hV dX10_isLeap_7) ?_ ?_
    · refine ax_j (ax_iconst hV (1 : Int32) dX10_isLeap_25 (by decide)) ?_
      refine ax_j (ax_goto hV dX10_isLeap_26) ?_
      exact ax_jl (fun h => ax_zr hV rfl (by decide) dX10_isLeap_30 (hP (1 : Int32) h))
    · refine ax_j (ax_iload_n hV dX10_isLeap_10 rfl) ?_
      refine ax_j (ax_bipush hV (100 : Int32) dX10_isLeap_11 (by decide)) ?_
      refine ax_jb (ax_irem_ hV dX10_isLeap_13) (fun v13 => ?_)
      refine ax_jif (ax_if_ne hV dX10_isLeap_14) ?_ ?_
      · refine ax_j (ax_iload_n hV dX10_isLeap_17 rfl) ?_
        refine ax_j (ax_sipush hV (400 : Int32) dX10_isLeap_18 (by decide)) ?_
        refine ax_jb (ax_irem_ hV dX10_isLeap_21) (fun v21 => ?_)
        refine ax_jif (ax_if_ne hV dX10_isLeap_22) ?_ ?_
        · refine ax_j (ax_iconst hV (1 : Int32) dX10_isLeap_25 (by decide)) ?_
          refine ax_j (ax_goto hV dX10_isLeap_26) ?_
          exact ax_jl (fun h => ax_zr hV rfl (by decide) dX10_isLeap_30 (hP (1 : Int32) h))
        · refine ax_j (ax_iconst hV (0 : Int32) dX10_isLeap_29 (by decide)) ?_
          exact ax_jl (fun h => ax_zr hV rfl (by decide) dX10_isLeap_30 (hP (0 : Int32) h))
      · refine ax_j (ax_iconst hV (1 : Int32) dX10_isLeap_25 (by decide)) ?_
        refine ax_j (ax_goto hV dX10_isLeap_26) ?_
        exact ax_jl (fun h => ax_zr hV rfl (by decide) dX10_isLeap_30 (hP (1 : Int32) h))
  · refine ax_j (ax_iconst hV (0 : Int32) dX10_isLeap_29 (by decide)) ?_
    exact ax_jl (fun h => ax_zr hV rfl (by decide) dX10_isLeap_30 (hP (0 : Int32) h))
theorem lk_X10_254 : ax_lkS RX10 254 mu_X10_isLeap 2 := ax_lkS_of (ax_m6 78 rfl rfl) (ax_m6 79 rfl rfl) (ax_m1 10 rfl rfl) lc_X10_isLeap ⟨by decide +kernel, by decide +kernel, by decide +kernel⟩
def mu_X10_daysOf : ax_Mu := (yX10_daysOf, cX10_daysOf, 3, some .int, 1, 21)
theorem lc_X10_daysOf : Cond.code mu_X10_daysOf.1 mu_X10_daysOf.2.1 mu_X10_daysOf.2.2.1 mu_X10_daysOf.2.2.2.1 ∈ ax_tb := (ax_m6 77 rfl rfl)
noncomputable def f_X10_daysOf (p1 : Int32) (p2 : Int32) (p3 : Int32) : Option (Int32) := (if p2 = (2 : Int32) then (f_X10_isLeap p1 p3).bind (fun q7 => (if q7 = 0 then some ((28 : Int32)) else some ((29 : Int32)))) else (if p2 = (4 : Int32) then some ((30 : Int32)) else (if p2 = (6 : Int32) then some ((30 : Int32)) else (if p2 = (9 : Int32) then some ((30 : Int32)) else (if p2 = (11 : Int32) then some ((30 : Int32)) else some ((31 : Int32)))))))
theorem T_X10_daysOf (p1 : Int32) (p2 : Int32) (p3 : Int32) (s : ax_S) (r : Int32) (h : f_X10_daysOf p1 p2 p3 = some r) : ax_M cx_R mu_X10_daysOf (fun ad => [.int p1, .int p2, .int p3]) s (some (.int r)) s := by
  refine ax_enter (by decide +kernel) 0 (fun ad => [some (.int p1), some (.int p2), some (.int p3)]) (fun ad => rfl) (fun ad => Nat.le_of_ble_eq_true rfl) (fun X hV ho => ?_)
  refine ax_go (fun r : Int32 => (some (Value.int r), s)) (fun P hP => ?_) h ho
  unfold f_X10_daysOf
  refine ax_j (ax_iload_n hV dX10_daysOf_0 rfl) ?_
  refine ax_j (ax_iconst hV (2 : Int32) dX10_daysOf_1 (by decide)) ?_
  refine ax_jif (ax_icmp_ne hV dX10_daysOf_2) ?_ ?_
  · refine ax_j (ax_iload_n hV dX10_daysOf_5 rfl) ?_
    refine ax_j (ax_iload_n hV dX10_daysOf_6 rfl) ?_
    refine ax_jb (fun v ho => ax_cSi hV lk_X10_254 rfl dX10_daysOf_7 [.int p1, .int p3] [] (fun ad => [.int p1, .int p3]) rfl rfl rfl rfl v s (T_X10_isLeap p1 p3 s v ho)) (fun q7 => ?_)
    refine ax_jif (ax_if_eq hV dX10_daysOf_10) ?_ ?_
    · refine ax_j (ax_bipush hV (28 : Int32) dX10_daysOf_18 (by decide)) ?_
      exact ax_jl (fun h => ax_ir hV rfl dX10_daysOf_20 (hP (28 : Int32) h))
    · refine ax_j (ax_bipush hV (29 : Int32) dX10_daysOf_13 (by decide)) ?_
      refine ax_j (ax_goto hV dX10_daysOf_15) ?_
      exact ax_jl (fun h => ax_ir hV rfl dX10_daysOf_20 (hP (29 : Int32) h))
  · refine ax_j (ax_iload_n hV dX10_daysOf_21 rfl) ?_
    refine ax_j (ax_iconst hV (4 : Int32) dX10_daysOf_22 (by decide)) ?_
    refine ax_jif (ax_icmp_eq hV dX10_daysOf_23) ?_ ?_
    · refine ax_j (ax_bipush hV (30 : Int32) dX10_daysOf_44 (by decide)) ?_
      refine ax_j (ax_goto hV dX10_daysOf_46) ?_
      exact ax_jl (fun h => ax_ir hV rfl dX10_daysOf_51 (hP (30 : Int32) h))
    · refine ax_j (ax_iload_n hV dX10_daysOf_26 rfl) ?_
      refine ax_j (ax_bipush hV (6 : Int32) dX10_daysOf_27 (by decide)) ?_
      refine ax_jif (ax_icmp_eq hV dX10_daysOf_29) ?_ ?_
      · refine ax_j (ax_bipush hV (30 : Int32) dX10_daysOf_44 (by decide)) ?_
        refine ax_j (ax_goto hV dX10_daysOf_46) ?_
        exact ax_jl (fun h => ax_ir hV rfl dX10_daysOf_51 (hP (30 : Int32) h))
      · refine ax_j (ax_iload_n hV dX10_daysOf_32 rfl) ?_
        refine ax_j (ax_bipush hV (9 : Int32) dX10_daysOf_33 (by decide)) ?_
        refine ax_jif (ax_icmp_eq hV dX10_daysOf_35) ?_ ?_
        · refine ax_j (ax_bipush hV (30 : Int32) dX10_daysOf_44 (by decide)) ?_
          refine ax_j (ax_goto hV dX10_daysOf_46) ?_
          exact ax_jl (fun h => ax_ir hV rfl dX10_daysOf_51 (hP (30 : Int32) h))
        · refine ax_j (ax_iload_n hV dX10_daysOf_38 rfl) ?_
          refine ax_j (ax_bipush hV (11 : Int32) dX10_daysOf_39 (by decide)) ?_
          refine ax_jif (ax_icmp_ne hV dX10_daysOf_41) ?_ ?_
          · refine ax_j (ax_bipush hV (30 : Int32) dX10_daysOf_44 (by decide)) ?_
            refine ax_j (ax_goto hV dX10_daysOf_46) ?_
            exact ax_jl (fun h => ax_ir hV rfl dX10_daysOf_51 (hP (30 : Int32) h))
          · refine ax_j (ax_bipush hV (31 : Int32) dX10_daysOf_49 (by decide)) ?_
            exact ax_jl (fun h => ax_ir hV rfl dX10_daysOf_51 (hP (31 : Int32) h))
theorem lk_X10_257 : ax_lkS RX10 257 mu_X10_daysOf 3 := ax_lkS_of (ax_m6 75 rfl rfl) (ax_m6 76 rfl rfl) (ax_m1 10 rfl rfl) lc_X10_daysOf ⟨by decide +kernel, by decide +kernel, by decide +kernel⟩
def mu_X10_daysTo : ax_Mu := (yX10_daysTo, cX10_daysTo, 7, some .int, 2, 43)
theorem lc_X10_daysTo : Cond.code mu_X10_daysTo.1 mu_X10_daysTo.2.1 mu_X10_daysTo.2.2.1 mu_X10_daysTo.2.2.2.1 ∈ ax_tb := (ax_m6 86 rfl rfl)
noncomputable def b_X10_daysTo_42 (l0 : Int32) (l1 : Int32) (l2 : Int32) (l3 : Int32) (a : Int32 × Int32) : Option ((Int32 × Int32) ⊕ (Int32)) := (if l2 ≤ a.2 then some (.inr a.1) else (f_X10_daysOf l0 a.2 l3).bind (fun q54 => some (.inl ((a.1 + q54), (a.2 + 1)))))
noncomputable def f_X10_daysTo (p1 : Int32) (p2 : Int32) (p3 : Int32) (p4 : Int32) : Option (Int32) := (ax_idiv (p4 - (1 : Int32)) (4 : Int32)).bind (fun v14 => (if p1 = 0 then (ax_lp (b_X10_daysTo_42 p1 p2 p3 p4) (((((365 : Int32) * (p4 - (1 : Int32))) + v14) - (0 : Int32)), (1 : Int32))).bind (fun e42 => some (((e42 + p2) - (1 : Int32)))) else (ax_idiv (p4 - (1 : Int32)) (100 : Int32)).bind (fun v28 => (ax_idiv (p4 - (1 : Int32)) (400 : Int32)).bind (fun v34 => (ax_lp (b_X10_daysTo_42 p1 p2 p3 p4) (((((365 : Int32) * (p4 - (1 : Int32))) + v14) - (v28 - v34)), (1 : Int32))).bind (fun e42 => some (((e42 + p2) - (1 : Int32))))))))
theorem B_X10_daysTo_42 (X : ax_G × ax_K × Option Value × ax_S) (hV : ax_ok (cx_R, X) mu_X10_daysTo) (l0 : Int32) (l1 : Int32) (l2 : Int32) (l3 : Int32) (s : ax_S) (P : ((Int32 × Int32) ⊕ (Int32)) → Prop) (hI : ∀ a : Int32 × Int32, P (.inl a) → ax_At (cx_R, X) 42 [some (.int l0), some (.int l1), some (.int l2), some (.int l3), none, some (.int a.1), some (.int a.2)] [] s) (hO : ∀ e : Int32, P (.inr e) → ax_At (cx_R, X) 66 [none, some (.int l1), none, none, none, some (.int e), none] [] s) (a : Int32 × Int32) : ax_J (cx_R, X) P 42 [some (.int l0), some (.int l1), some (.int l2), some (.int l3), none, some (.int a.1), some (.int a.2)] [] s (b_X10_daysTo_42 l0 l1 l2 l3 a) := by
  unfold b_X10_daysTo_42
  refine ax_j (ax_iload hV dX10_daysTo_42 rfl) ?_
  refine ax_j (ax_iload_n hV dX10_daysTo_44 rfl) ?_
  refine ax_jif (ax_icmp_ge hV dX10_daysTo_45) ?_ ?_
  · refine ax_jf (lv' := [none, some (.int l1), none, none, none, some (.int a.1), none]) [false, true, false, false, false, true, false] rfl ?_
    exact ax_jl (fun h => hO a.1 h)
  · refine ax_j (ax_iload hV dX10_daysTo_48 rfl) ?_
    refine ax_j (ax_iload_n hV dX10_daysTo_50 rfl) ?_
    refine ax_j (ax_iload hV dX10_daysTo_51 rfl) ?_
    refine ax_j (ax_iload_n hV dX10_daysTo_53 rfl) ?_
    refine ax_jb (fun v ho => ax_cSi hV lk_X10_257 rfl dX10_daysTo_54 [.int l0, .int a.2, .int l3] [.int a.1] (fun ad => [.int l0, .int a.2, .int l3]) rfl rfl rfl rfl v s (T_X10_daysOf l0 a.2 l3 s v ho)) (fun q54 => ?_)
    refine ax_j (ax_iadd hV dX10_daysTo_57) ?_
    refine ax_j (ax_istore hV [some (.int l0), some (.int l1), some (.int l2), some (.int l3), none, some (.int (a.1 + q54)), some (.int a.2)] dX10_daysTo_58 rfl rfl) ?_
    refine ax_j (ax_iinc hV (a.2 + 1) [some (.int l0), some (.int l1), some (.int l2), some (.int l3), none, some (.int (a.1 + q54)), some (.int (a.2 + 1))] dX10_daysTo_60 rfl rfl rfl rfl) ?_
    refine ax_j (ax_goto hV dX10_daysTo_63) ?_
    exact ax_jl (fun h => hI ((a.1 + q54), (a.2 + 1)) h)
theorem T_X10_daysTo (p1 : Int32) (p2 : Int32) (p3 : Int32) (p4 : Int32) (s : ax_S) (r : Int32) (h : f_X10_daysTo p1 p2 p3 p4 = some r) : ax_M cx_R mu_X10_daysTo (fun ad => [.int p1, .int p2, .int p3, .int p4]) s (some (.int r)) s := by
  refine ax_enter (by decide +kernel) 3 (fun ad => [some (.int p1), some (.int p2), some (.int p3), some (.int p4), none, none, none]) (fun ad => rfl) (fun ad => Nat.le_of_ble_eq_true rfl) (fun X hV ho => ?_)
  refine ax_go (fun r : Int32 => (some (Value.int r), s)) (fun P hP => ?_) h ho
  unfold f_X10_daysTo
  refine ax_j (ax_iload_n hV dX10_daysTo_0 rfl) ?_
  refine ax_j (ax_iconst hV (1 : Int32) dX10_daysTo_1 (by decide)) ?_
  refine ax_j (ax_isub hV dX10_daysTo_2) ?_
  refine ax_j (ax_istore hV [some (.int p1), some (.int p2), some (.int p3), some (.int p4), some (.int (p4 - (1 : Int32))), none, none] dX10_daysTo_3 rfl rfl) ?_
  refine ax_j (ax_sipush hV (365 : Int32) dX10_daysTo_5 (by decide)) ?_
  refine ax_j (ax_iload hV dX10_daysTo_8 rfl) ?_
  refine ax_j (ax_imul hV dX10_daysTo_10) ?_
  refine ax_j (ax_iload hV dX10_daysTo_11 rfl) ?_
  refine ax_j (ax_iconst hV (4 : Int32) dX10_daysTo_13 (by decide)) ?_
  refine ax_jb (ax_idiv_ hV dX10_daysTo_14) (fun v14 => ?_)
  refine ax_j (ax_iadd hV dX10_daysTo_15) ?_
  refine ax_j (ax_iload_n hV dX10_daysTo_16 rfl) ?_
  refine ax_jif (ax_if_ne hV dX10_daysTo_17) ?_ ?_
  · refine ax_j (ax_iconst hV (0 : Int32) dX10_daysTo_20 (by decide)) ?_
    refine ax_j (ax_goto hV dX10_daysTo_21) ?_
    refine ax_j (ax_isub hV dX10_daysTo_36) ?_
    refine ax_j (ax_istore hV [some (.int p1), some (.int p2), some (.int p3), some (.int p4), some (.int (p4 - (1 : Int32))), some (.int ((((365 : Int32) * (p4 - (1 : Int32))) + v14) - (0 : Int32))), none] dX10_daysTo_37 rfl rfl) ?_
    refine ax_j (ax_iconst hV (1 : Int32) dX10_daysTo_39 (by decide)) ?_
    refine ax_j (ax_istore hV [some (.int p1), some (.int p2), some (.int p3), some (.int p4), some (.int (p4 - (1 : Int32))), some (.int ((((365 : Int32) * (p4 - (1 : Int32))) + v14) - (0 : Int32))), some (.int (1 : Int32))] dX10_daysTo_40 rfl rfl) ?_
    refine ax_jf (lv' := [some (.int p1), some (.int p2), some (.int p3), some (.int p4), none, some (.int ((((365 : Int32) * (p4 - (1 : Int32))) + v14) - (0 : Int32))), some (.int (1 : Int32))]) [true, true, true, true, false, true, true] rfl ?_
    refine ax_jlp (((((365 : Int32) * (p4 - (1 : Int32))) + v14) - (0 : Int32)), (1 : Int32)) (fun x42 : Int32 × Int32 => [some (.int p1), some (.int p2), some (.int p3), some (.int p4), none, some (.int x42.1), some (.int x42.2)]) (fun x42 : Int32 × Int32 => s) (fun y42 : Int32 => [none, some (.int p2), none, none, none, some (.int y42), none]) (fun y42 : Int32 => s) (fun P' h1 h2 w => B_X10_daysTo_42 X hV p1 p2 p3 p4 s P' h1 h2 w) (fun e42 => ?_)
    refine ax_j (ax_iload hV dX10_daysTo_66 rfl) ?_
    refine ax_j (ax_iload_n hV dX10_daysTo_68 rfl) ?_
    refine ax_j (ax_iadd hV dX10_daysTo_69) ?_
    refine ax_j (ax_iconst hV (1 : Int32) dX10_daysTo_70 (by decide)) ?_
    refine ax_j (ax_isub hV dX10_daysTo_71) ?_
    exact ax_jl (fun h => ax_ir hV rfl dX10_daysTo_72 (hP ((e42 + p2) - (1 : Int32)) h))
  · refine ax_j (ax_iload hV dX10_daysTo_24 rfl) ?_
    refine ax_j (ax_bipush hV (100 : Int32) dX10_daysTo_26 (by decide)) ?_
    refine ax_jb (ax_idiv_ hV dX10_daysTo_28) (fun v28 => ?_)
    refine ax_j (ax_iload hV dX10_daysTo_29 rfl) ?_
    refine ax_j (ax_sipush hV (400 : Int32) dX10_daysTo_31 (by decide)) ?_
    refine ax_jb (ax_idiv_ hV dX10_daysTo_34) (fun v34 => ?_)
    refine ax_j (ax_isub hV dX10_daysTo_35) ?_
    refine ax_j (ax_isub hV dX10_daysTo_36) ?_
    refine ax_j (ax_istore hV [some (.int p1), some (.int p2), some (.int p3), some (.int p4), some (.int (p4 - (1 : Int32))), some (.int ((((365 : Int32) * (p4 - (1 : Int32))) + v14) - (v28 - v34))), none] dX10_daysTo_37 rfl rfl) ?_
    refine ax_j (ax_iconst hV (1 : Int32) dX10_daysTo_39 (by decide)) ?_
    refine ax_j (ax_istore hV [some (.int p1), some (.int p2), some (.int p3), some (.int p4), some (.int (p4 - (1 : Int32))), some (.int ((((365 : Int32) * (p4 - (1 : Int32))) + v14) - (v28 - v34))), some (.int (1 : Int32))] dX10_daysTo_40 rfl rfl) ?_
    refine ax_jf (lv' := [some (.int p1), some (.int p2), some (.int p3), some (.int p4), none, some (.int ((((365 : Int32) * (p4 - (1 : Int32))) + v14) - (v28 - v34))), some (.int (1 : Int32))]) [true, true, true, true, false, true, true] rfl ?_
    refine ax_jlp (((((365 : Int32) * (p4 - (1 : Int32))) + v14) - (v28 - v34)), (1 : Int32)) (fun x42 : Int32 × Int32 => [some (.int p1), some (.int p2), some (.int p3), some (.int p4), none, some (.int x42.1), some (.int x42.2)]) (fun x42 : Int32 × Int32 => s) (fun y42 : Int32 => [none, some (.int p2), none, none, none, some (.int y42), none]) (fun y42 : Int32 => s) (fun P' h1 h2 w => B_X10_daysTo_42 X hV p1 p2 p3 p4 s P' h1 h2 w) (fun e42 => ?_)
    refine ax_j (ax_iload hV dX10_daysTo_66 rfl) ?_
    refine ax_j (ax_iload_n hV dX10_daysTo_68 rfl) ?_
    refine ax_j (ax_iadd hV dX10_daysTo_69) ?_
    refine ax_j (ax_iconst hV (1 : Int32) dX10_daysTo_70 (by decide)) ?_
    refine ax_j (ax_isub hV dX10_daysTo_71) ?_
    exact ax_jl (fun h => ax_ir hV rfl dX10_daysTo_72 (hP ((e42 + p2) - (1 : Int32)) h))
theorem lk_X10_261 : ax_lkS RX10 261 mu_X10_daysTo 4 := ax_lkS_of (ax_m6 84 rfl rfl) (ax_m6 85 rfl rfl) (ax_m1 10 rfl rfl) lc_X10_daysTo ⟨by decide +kernel, by decide +kernel, by decide +kernel⟩
def mu_X10_dayNumber : ax_Mu := (yX10_dayNumber, cX10_dayNumber, 4, some .int, 3, 69)
theorem lc_X10_dayNumber : Cond.code mu_X10_dayNumber.1 mu_X10_dayNumber.2.1 mu_X10_dayNumber.2.2.1 mu_X10_dayNumber.2.2.2.1 ∈ ax_tb := (ax_m6 83 rfl rfl)
noncomputable def f_X10_dayNumber (p1 : Int32) (p2 : Int32) (p3 : Int32) (p4 : Int32) : Option (Int32) := (f_X10_daysTo p1 p2 p3 p4).bind (fun q4 => (f_X10_daysTo p1 (1 : Int32) (3 : Int32) (200 : Int32)).bind (fun q13 => some ((q4 - q13))))
theorem T_X10_dayNumber (p1 : Int32) (p2 : Int32) (p3 : Int32) (p4 : Int32) (s : ax_S) (r : Int32) (h : f_X10_dayNumber p1 p2 p3 p4 = some r) : ax_M cx_R mu_X10_dayNumber (fun ad => [.int p1, .int p2, .int p3, .int p4]) s (some (.int r)) s := by
  refine ax_enter (by decide +kernel) 0 (fun ad => [some (.int p1), some (.int p2), some (.int p3), some (.int p4)]) (fun ad => rfl) (fun ad => Nat.le_of_ble_eq_true rfl) (fun X hV ho => ?_)
  refine ax_go (fun r : Int32 => (some (Value.int r), s)) (fun P hP => ?_) h ho
  unfold f_X10_dayNumber
  refine ax_j (ax_iload_n hV dX10_dayNumber_0 rfl) ?_
  refine ax_j (ax_iload_n hV dX10_dayNumber_1 rfl) ?_
  refine ax_j (ax_iload_n hV dX10_dayNumber_2 rfl) ?_
  refine ax_j (ax_iload_n hV dX10_dayNumber_3 rfl) ?_
  refine ax_jb (fun v ho => ax_cSi hV lk_X10_261 rfl dX10_dayNumber_4 [.int p1, .int p2, .int p3, .int p4] [] (fun ad => [.int p1, .int p2, .int p3, .int p4]) rfl rfl rfl rfl v s (T_X10_daysTo p1 p2 p3 p4 s v ho)) (fun q4 => ?_)
  refine ax_j (ax_iload_n hV dX10_dayNumber_7 rfl) ?_
  refine ax_j (ax_iconst hV (1 : Int32) dX10_dayNumber_8 (by decide)) ?_
  refine ax_j (ax_iconst hV (3 : Int32) dX10_dayNumber_9 (by decide)) ?_
  refine ax_j (ax_sipush hV (200 : Int32) dX10_dayNumber_10 (by decide)) ?_
  refine ax_jb (fun v ho => ax_cSi hV lk_X10_261 rfl dX10_dayNumber_13 [.int p1, .int (1 : Int32), .int (3 : Int32), .int (200 : Int32)] [.int q4] (fun ad => [.int p1, .int (1 : Int32), .int (3 : Int32), .int (200 : Int32)]) rfl rfl rfl rfl v s (T_X10_daysTo p1 (1 : Int32) (3 : Int32) (200 : Int32) s v ho)) (fun q13 => ?_)
  refine ax_j (ax_isub hV dX10_dayNumber_16) ?_
  exact ax_jl (fun h => ax_ir hV rfl dX10_dayNumber_17 (hP (q4 - q13) h))
theorem lk_X10_264 : ax_lkS RX10 264 mu_X10_dayNumber 4 := ax_lkS_of (ax_m6 81 rfl rfl) (ax_m6 82 rfl rfl) (ax_m1 10 rfl rfl) lc_X10_dayNumber ⟨by decide +kernel, by decide +kernel, by decide +kernel⟩
def mu_X10_dayOf : ax_Mu := (yX10_dayOf, cX10_dayOf, 5, some .int, 4, 92)
theorem lc_X10_dayOf : Cond.code mu_X10_dayOf.1 mu_X10_dayOf.2.1 mu_X10_dayOf.2.2.1 mu_X10_dayOf.2.2.2.1 ∈ ax_tb := (ax_m6 74 rfl rfl)
noncomputable def f_X10_dayOf (p1 : Int32) (p2 : Int32) (p3 : Int32) (p4 : Int32) : Option (Int32) := (f_X10_in p1 (0 : Int32) (1 : Int32)).bind (fun q3 => (if q3 = 0 then some ((-300000 : Int32)) else (f_X10_in p4 (1 : Int32) (600 : Int32)).bind (fun q15 => (if q15 = 0 then some ((-300000 : Int32)) else (f_X10_in p3 (1 : Int32) (12 : Int32)).bind (fun q25 => (if q25 = 0 then some ((-300000 : Int32)) else (f_X10_daysOf p1 p3 p4).bind (fun q37 => (f_X10_in p2 (1 : Int32) q37).bind (fun q40 => (if q40 = 0 then some ((-300000 : Int32)) else (f_X10_dayNumber p1 p2 p3 p4).bind (fun q54 => some (q54)))))))))))
theorem T_X10_dayOf (p1 : Int32) (p2 : Int32) (p3 : Int32) (p4 : Int32) (s : ax_S) (r : Int32) (h : f_X10_dayOf p1 p2 p3 p4 = some r) : ax_M cx_R mu_X10_dayOf (fun ad => [.ref (ad 0), .int p1, .int p2, .int p3, .int p4]) s (some (.int r)) s := by
  refine ax_enter (by decide +kernel) 0 (fun ad => [some (.ref (ad 0)), some (.int p1), some (.int p2), some (.int p3), some (.int p4)]) (fun ad => rfl) (fun ad => Nat.le_of_ble_eq_true rfl) (fun X hV ho => ?_)
  refine ax_go (fun r : Int32 => (some (Value.int r), s)) (fun P hP => ?_) h ho
  unfold f_X10_dayOf
  refine ax_j (ax_iload_n hV dX10_dayOf_0 rfl) ?_
  refine ax_j (ax_iconst hV (0 : Int32) dX10_dayOf_1 (by decide)) ?_
  refine ax_j (ax_iconst hV (1 : Int32) dX10_dayOf_2 (by decide)) ?_
  refine ax_jb (fun v ho => ax_cSi hV lk_X10_97 rfl dX10_dayOf_3 [.int p1, .int (0 : Int32), .int (1 : Int32)] [] (fun ad => [.int p1, .int (0 : Int32), .int (1 : Int32)]) rfl rfl rfl rfl v s (T_X10_in p1 (0 : Int32) (1 : Int32) s v ho)) (fun q3 => ?_)
  refine ax_jif (ax_if_eq hV dX10_dayOf_6) ?_ ?_
  · refine ax_j (ax_ldc hV kc_X10_150 dX10_dayOf_46) ?_
    exact ax_jl (fun h => ax_ir hV rfl dX10_dayOf_48 (hP (-300000 : Int32) h))
  · refine ax_j (ax_iload hV dX10_dayOf_9 rfl) ?_
    refine ax_j (ax_iconst hV (1 : Int32) dX10_dayOf_11 (by decide)) ?_
    refine ax_j (ax_sipush hV (600 : Int32) dX10_dayOf_12 (by decide)) ?_
    refine ax_jb (fun v ho => ax_cSi hV lk_X10_97 rfl dX10_dayOf_15 [.int p4, .int (1 : Int32), .int (600 : Int32)] [] (fun ad => [.int p4, .int (1 : Int32), .int (600 : Int32)]) rfl rfl rfl rfl v s (T_X10_in p4 (1 : Int32) (600 : Int32) s v ho)) (fun q15 => ?_)
    refine ax_jif (ax_if_eq hV dX10_dayOf_18) ?_ ?_
    · refine ax_j (ax_ldc hV kc_X10_150 dX10_dayOf_46) ?_
      exact ax_jl (fun h => ax_ir hV rfl dX10_dayOf_48 (hP (-300000 : Int32) h))
    · refine ax_j (ax_iload_n hV dX10_dayOf_21 rfl) ?_
      refine ax_j (ax_iconst hV (1 : Int32) dX10_dayOf_22 (by decide)) ?_
      refine ax_j (ax_bipush hV (12 : Int32) dX10_dayOf_23 (by decide)) ?_
      refine ax_jb (fun v ho => ax_cSi hV lk_X10_97 rfl dX10_dayOf_25 [.int p3, .int (1 : Int32), .int (12 : Int32)] [] (fun ad => [.int p3, .int (1 : Int32), .int (12 : Int32)]) rfl rfl rfl rfl v s (T_X10_in p3 (1 : Int32) (12 : Int32) s v ho)) (fun q25 => ?_)
      refine ax_jif (ax_if_eq hV dX10_dayOf_28) ?_ ?_
      · refine ax_j (ax_ldc hV kc_X10_150 dX10_dayOf_46) ?_
        exact ax_jl (fun h => ax_ir hV rfl dX10_dayOf_48 (hP (-300000 : Int32) h))
      · refine ax_j (ax_iload_n hV dX10_dayOf_31 rfl) ?_
        refine ax_j (ax_iconst hV (1 : Int32) dX10_dayOf_32 (by decide)) ?_
        refine ax_j (ax_iload_n hV dX10_dayOf_33 rfl) ?_
        refine ax_j (ax_iload_n hV dX10_dayOf_34 rfl) ?_
        refine ax_j (ax_iload hV dX10_dayOf_35 rfl) ?_
        refine ax_jb (fun v ho => ax_cSi hV lk_X10_257 rfl dX10_dayOf_37 [.int p1, .int p3, .int p4] [.int (1 : Int32), .int p2] (fun ad => [.int p1, .int p3, .int p4]) rfl rfl rfl rfl v s (T_X10_daysOf p1 p3 p4 s v ho)) (fun q37 => ?_)
        refine ax_jb (fun v ho => ax_cSi hV lk_X10_97 rfl dX10_dayOf_40 [.int p2, .int (1 : Int32), .int q37] [] (fun ad => [.int p2, .int (1 : Int32), .int q37]) rfl rfl rfl rfl v s (T_X10_in p2 (1 : Int32) q37 s v ho)) (fun q40 => ?_)
        refine ax_jif (ax_if_ne hV dX10_dayOf_43) ?_ ?_
        · refine ax_j (ax_ldc hV kc_X10_150 dX10_dayOf_46) ?_
          exact ax_jl (fun h => ax_ir hV rfl dX10_dayOf_48 (hP (-300000 : Int32) h))
        · refine ax_j (ax_iload_n hV dX10_dayOf_49 rfl) ?_
          refine ax_j (ax_iload_n hV dX10_dayOf_50 rfl) ?_
          refine ax_j (ax_iload_n hV dX10_dayOf_51 rfl) ?_
          refine ax_j (ax_iload hV dX10_dayOf_52 rfl) ?_
          refine ax_jb (fun v ho => ax_cSi hV lk_X10_264 rfl dX10_dayOf_54 [.int p1, .int p2, .int p3, .int p4] [] (fun ad => [.int p1, .int p2, .int p3, .int p4]) rfl rfl rfl rfl v s (T_X10_dayNumber p1 p2 p3 p4 s v ho)) (fun q54 => ?_)
          exact ax_jl (fun h => ax_ir hV rfl dX10_dayOf_57 (hP q54 h))
def mu_X10_dateOf : ax_Mu := (yX10_dateOf, cX10_dateOf, 6, some .int, 4, 92)
theorem lc_X10_dateOf : Cond.code mu_X10_dateOf.1 mu_X10_dateOf.2.1 mu_X10_dateOf.2.2.1 mu_X10_dateOf.2.2.2.1 ∈ ax_tb := (ax_m6 90 rfl rfl)
noncomputable def b_X10_dateOf_49 (l1 : Int32) (l2 : Int32) (l3 : Int32) (a : Int32) : Option ((Int32) ⊕ (Int32)) := (if (600 : Int32) ≤ a then some (.inr a) else (f_X10_dayNumber l1 (1 : Int32) (1 : Int32) (a + (1 : Int32))).bind (fun q64 => (if l2 < q64 then some (.inr a) else some (.inl (a + 1)))))
noncomputable def b_X10_dateOf_80 (l1 : Int32) (l2 : Int32) (l3 : Int32) (l4 : Int32) (a : Int32) : Option ((Int32) ⊕ (Int32)) := (if (12 : Int32) ≤ a then some (.inr a) else (f_X10_dayNumber l1 (1 : Int32) (a + (1 : Int32)) l4).bind (fun q95 => (if l2 < q95 then some (.inr a) else some (.inl (a + 1)))))
noncomputable def j_X10_dateOf_108 (l1 : Int32) (l2 : Int32) (l3 : Int32) (l4 : Int32) (l5 : Int32) : Option (Int32) := (if l3 = 0 then (f_X10_dayNumber l1 (1 : Int32) l5 l4).bind (fun q119 => some (((l2 - q119) + (1 : Int32)))) else (if l3 = (1 : Int32) then some (l5) else some (l4)))
noncomputable def f_X10_dateOf (p1 : Int32) (p2 : Int32) (p3 : Int32) : Option (Int32) := (f_X10_in p1 (0 : Int32) (1 : Int32)).bind (fun q3 => (if q3 = 0 then some ((-2 : Int32)) else (f_X10_in p3 (0 : Int32) (2 : Int32)).bind (fun q12 => (if q12 = 0 then some ((-2 : Int32)) else (f_X10_dayNumber p1 (1 : Int32) (1 : Int32) (1 : Int32)).bind (fun q23 => (f_X10_dayNumber p1 (31 : Int32) (12 : Int32) (600 : Int32)).bind (fun q34 => (f_X10_in p2 q23 q34).bind (fun q37 => (if q37 = 0 then some ((-2 : Int32)) else (ax_lp (b_X10_dateOf_49 p1 p2 p3) (1 : Int32)).bind (fun e49 => (ax_lp (b_X10_dateOf_80 p1 p2 p3 e49) (1 : Int32)).bind (fun e80 => j_X10_dateOf_108 p1 p2 p3 e49 e80))))))))))
theorem B_X10_dateOf_49 (X : ax_G × ax_K × Option Value × ax_S) (hV : ax_ok (cx_R, X) mu_X10_dateOf) (l1 : Int32) (l2 : Int32) (l3 : Int32) (s : ax_S) (P : ((Int32) ⊕ (Int32)) → Prop) (hI : ∀ a : Int32, P (.inl a) → ax_At (cx_R, X) 49 [none, some (.int l1), some (.int l2), some (.int l3), some (.int a), none] [] s) (hO : ∀ e : Int32, P (.inr e) → ax_At (cx_R, X) 77 [none, some (.int l1), some (.int l2), some (.int l3), some (.int e), none] [] s) (a : Int32) : ax_J (cx_R, X) P 49 [none, some (.int l1), some (.int l2), some (.int l3), some (.int a), none] [] s (b_X10_dateOf_49 l1 l2 l3 a) := by
  unfold b_X10_dateOf_49
  refine ax_j (ax_iload hV dX10_dateOf_49 rfl) ?_
  refine ax_j (ax_sipush hV (600 : Int32) dX10_dateOf_51 (by decide)) ?_
  refine ax_jif (ax_icmp_ge hV dX10_dateOf_54) ?_ ?_
  · exact ax_jl (fun h => hO a h)
  · refine ax_j (ax_iload_n hV dX10_dateOf_57 rfl) ?_
    refine ax_j (ax_iconst hV (1 : Int32) dX10_dateOf_58 (by decide)) ?_
    refine ax_j (ax_iconst hV (1 : Int32) dX10_dateOf_59 (by decide)) ?_
    refine ax_j (ax_iload hV dX10_dateOf_60 rfl) ?_
    refine ax_j (ax_iconst hV (1 : Int32) dX10_dateOf_62 (by decide)) ?_
    refine ax_j (ax_iadd hV dX10_dateOf_63) ?_
    refine ax_jb (fun v ho => ax_cSi hV lk_X10_264 rfl dX10_dateOf_64 [.int l1, .int (1 : Int32), .int (1 : Int32), .int (a + (1 : Int32))] [] (fun ad => [.int l1, .int (1 : Int32), .int (1 : Int32), .int (a + (1 : Int32))]) rfl rfl rfl rfl v s (T_X10_dayNumber l1 (1 : Int32) (1 : Int32) (a + (1 : Int32)) s v ho)) (fun q64 => ?_)
    refine ax_j (ax_iload_n hV dX10_dateOf_67 rfl) ?_
    refine ax_jif (ax_icmp_gt hV dX10_dateOf_68) ?_ ?_
    · exact ax_jl (fun h => hO a h)
    · refine ax_j (ax_iinc hV (a + 1) [none, some (.int l1), some (.int l2), some (.int l3), some (.int (a + 1)), none] dX10_dateOf_71 rfl rfl rfl rfl) ?_
      refine ax_j (ax_goto hV dX10_dateOf_74) ?_
      exact ax_jl (fun h => hI (a + 1) h)
theorem B_X10_dateOf_80 (X : ax_G × ax_K × Option Value × ax_S) (hV : ax_ok (cx_R, X) mu_X10_dateOf) (l1 : Int32) (l2 : Int32) (l3 : Int32) (l4 : Int32) (s : ax_S) (P : ((Int32) ⊕ (Int32)) → Prop) (hI : ∀ a : Int32, P (.inl a) → ax_At (cx_R, X) 80 [none, some (.int l1), some (.int l2), some (.int l3), some (.int l4), some (.int a)] [] s) (hO : ∀ e : Int32, P (.inr e) → ax_At (cx_R, X) 108 [none, some (.int l1), some (.int l2), some (.int l3), some (.int l4), some (.int e)] [] s) (a : Int32) : ax_J (cx_R, X) P 80 [none, some (.int l1), some (.int l2), some (.int l3), some (.int l4), some (.int a)] [] s (b_X10_dateOf_80 l1 l2 l3 l4 a) := by
  unfold b_X10_dateOf_80
  refine ax_j (ax_iload hV dX10_dateOf_80 rfl) ?_
  refine ax_j (ax_bipush hV (12 : Int32) dX10_dateOf_82 (by decide)) ?_
  refine ax_jif (ax_icmp_ge hV dX10_dateOf_84) ?_ ?_
  · exact ax_jl (fun h => hO a h)
  · refine ax_j (ax_iload_n hV dX10_dateOf_87 rfl) ?_
    refine ax_j (ax_iconst hV (1 : Int32) dX10_dateOf_88 (by decide)) ?_
    refine ax_j (ax_iload hV dX10_dateOf_89 rfl) ?_
    refine ax_j (ax_iconst hV (1 : Int32) dX10_dateOf_91 (by decide)) ?_
    refine ax_j (ax_iadd hV dX10_dateOf_92) ?_
    refine ax_j (ax_iload hV dX10_dateOf_93 rfl) ?_
    refine ax_jb (fun v ho => ax_cSi hV lk_X10_264 rfl dX10_dateOf_95 [.int l1, .int (1 : Int32), .int (a + (1 : Int32)), .int l4] [] (fun ad => [.int l1, .int (1 : Int32), .int (a + (1 : Int32)), .int l4]) rfl rfl rfl rfl v s (T_X10_dayNumber l1 (1 : Int32) (a + (1 : Int32)) l4 s v ho)) (fun q95 => ?_)
    refine ax_j (ax_iload_n hV dX10_dateOf_98 rfl) ?_
    refine ax_jif (ax_icmp_gt hV dX10_dateOf_99) ?_ ?_
    · exact ax_jl (fun h => hO a h)
    · refine ax_j (ax_iinc hV (a + 1) [none, some (.int l1), some (.int l2), some (.int l3), some (.int l4), some (.int (a + 1))] dX10_dateOf_102 rfl rfl rfl rfl) ?_
      refine ax_j (ax_goto hV dX10_dateOf_105) ?_
      exact ax_jl (fun h => hI (a + 1) h)
theorem N_X10_dateOf_108 (X : ax_G × ax_K × Option Value × ax_S) (hV : ax_ok (cx_R, X) mu_X10_dateOf) (s : ax_S) (P : (Int32) → Prop) (hP : ∀ r : Int32, P r → X.2.2 = (fun r : Int32 => (some (Value.int r), s)) r) (l1 : Int32) (l2 : Int32) (l3 : Int32) (l4 : Int32) (l5 : Int32) : ax_J (cx_R, X) P 108 [none, some (.int l1), some (.int l2), some (.int l3), some (.int l4), some (.int l5)] [] s (j_X10_dateOf_108 l1 l2 l3 l4 l5) := by
  unfold j_X10_dateOf_108
  refine ax_j (ax_iload_n hV dX10_dateOf_108 rfl) ?_
  refine ax_jif (ax_if_ne hV dX10_dateOf_109) ?_ ?_
  · refine ax_j (ax_iload_n hV dX10_dateOf_112 rfl) ?_
    refine ax_j (ax_iload_n hV dX10_dateOf_113 rfl) ?_
    refine ax_j (ax_iconst hV (1 : Int32) dX10_dateOf_114 (by decide)) ?_
    refine ax_j (ax_iload hV dX10_dateOf_115 rfl) ?_
    refine ax_j (ax_iload hV dX10_dateOf_117 rfl) ?_
    refine ax_jb (fun v ho => ax_cSi hV lk_X10_264 rfl dX10_dateOf_119 [.int l1, .int (1 : Int32), .int l5, .int l4] [.int l2] (fun ad => [.int l1, .int (1 : Int32), .int l5, .int l4]) rfl rfl rfl rfl v s (T_X10_dayNumber l1 (1 : Int32) l5 l4 s v ho)) (fun q119 => ?_)
    refine ax_j (ax_isub hV dX10_dateOf_122) ?_
    refine ax_j (ax_iconst hV (1 : Int32) dX10_dateOf_123 (by decide)) ?_
    refine ax_j (ax_iadd hV dX10_dateOf_124) ?_
    refine ax_j (ax_goto hV dX10_dateOf_125) ?_
    exact ax_jl (fun h => ax_ir hV rfl dX10_dateOf_140 (hP ((l2 - q119) + (1 : Int32)) h))
  · refine ax_j (ax_iload_n hV dX10_dateOf_128 rfl) ?_
    refine ax_j (ax_iconst hV (1 : Int32) dX10_dateOf_129 (by decide)) ?_
    refine ax_jif (ax_icmp_ne hV dX10_dateOf_130) ?_ ?_
    · refine ax_j (ax_iload hV dX10_dateOf_133 rfl) ?_
      refine ax_j (ax_goto hV dX10_dateOf_135) ?_
      exact ax_jl (fun h => ax_ir hV rfl dX10_dateOf_140 (hP l5 h))
    · refine ax_j (ax_iload hV dX10_dateOf_138 rfl) ?_
      exact ax_jl (fun h => ax_ir hV rfl dX10_dateOf_140 (hP l4 h))
theorem T_X10_dateOf (p1 : Int32) (p2 : Int32) (p3 : Int32) (s : ax_S) (r : Int32) (h : f_X10_dateOf p1 p2 p3 = some r) : ax_M cx_R mu_X10_dateOf (fun ad => [.ref (ad 0), .int p1, .int p2, .int p3]) s (some (.int r)) s := by
  refine ax_enter (by decide +kernel) 2 (fun ad => [some (.ref (ad 0)), some (.int p1), some (.int p2), some (.int p3), none, none]) (fun ad => rfl) (fun ad => Nat.le_of_ble_eq_true rfl) (fun X hV ho => ?_)
  refine ax_go (fun r : Int32 => (some (Value.int r), s)) (fun P hP => ?_) h ho
  unfold f_X10_dateOf
  refine ax_j (ax_iload_n hV dX10_dateOf_0 rfl) ?_
  refine ax_j (ax_iconst hV (0 : Int32) dX10_dateOf_1 (by decide)) ?_
  refine ax_j (ax_iconst hV (1 : Int32) dX10_dateOf_2 (by decide)) ?_
  refine ax_jb (fun v ho => ax_cSi hV lk_X10_97 rfl dX10_dateOf_3 [.int p1, .int (0 : Int32), .int (1 : Int32)] [] (fun ad => [.int p1, .int (0 : Int32), .int (1 : Int32)]) rfl rfl rfl rfl v s (T_X10_in p1 (0 : Int32) (1 : Int32) s v ho)) (fun q3 => ?_)
  refine ax_jif (ax_if_eq hV dX10_dateOf_6) ?_ ?_
  · refine ax_j (ax_bipush hV (-2 : Int32) dX10_dateOf_43 (by decide)) ?_
    exact ax_jl (fun h => ax_ir hV rfl dX10_dateOf_45 (hP (-2 : Int32) h))
  · refine ax_j (ax_iload_n hV dX10_dateOf_9 rfl) ?_
    refine ax_j (ax_iconst hV (0 : Int32) dX10_dateOf_10 (by decide)) ?_
    refine ax_j (ax_iconst hV (2 : Int32) dX10_dateOf_11 (by decide)) ?_
    refine ax_jb (fun v ho => ax_cSi hV lk_X10_97 rfl dX10_dateOf_12 [.int p3, .int (0 : Int32), .int (2 : Int32)] [] (fun ad => [.int p3, .int (0 : Int32), .int (2 : Int32)]) rfl rfl rfl rfl v s (T_X10_in p3 (0 : Int32) (2 : Int32) s v ho)) (fun q12 => ?_)
    refine ax_jif (ax_if_eq hV dX10_dateOf_15) ?_ ?_
    · refine ax_j (ax_bipush hV (-2 : Int32) dX10_dateOf_43 (by decide)) ?_
      exact ax_jl (fun h => ax_ir hV rfl dX10_dateOf_45 (hP (-2 : Int32) h))
    · refine ax_j (ax_iload_n hV dX10_dateOf_18 rfl) ?_
      refine ax_j (ax_iload_n hV dX10_dateOf_19 rfl) ?_
      refine ax_j (ax_iconst hV (1 : Int32) dX10_dateOf_20 (by decide)) ?_
      refine ax_j (ax_iconst hV (1 : Int32) dX10_dateOf_21 (by decide)) ?_
      refine ax_j (ax_iconst hV (1 : Int32) dX10_dateOf_22 (by decide)) ?_
      refine ax_jb (fun v ho => ax_cSi hV lk_X10_264 rfl dX10_dateOf_23 [.int p1, .int (1 : Int32), .int (1 : Int32), .int (1 : Int32)] [.int p2] (fun ad => [.int p1, .int (1 : Int32), .int (1 : Int32), .int (1 : Int32)]) rfl rfl rfl rfl v s (T_X10_dayNumber p1 (1 : Int32) (1 : Int32) (1 : Int32) s v ho)) (fun q23 => ?_)
      refine ax_j (ax_iload_n hV dX10_dateOf_26 rfl) ?_
      refine ax_j (ax_bipush hV (31 : Int32) dX10_dateOf_27 (by decide)) ?_
      refine ax_j (ax_bipush hV (12 : Int32) dX10_dateOf_29 (by decide)) ?_
      refine ax_j (ax_sipush hV (600 : Int32) dX10_dateOf_31 (by decide)) ?_
      refine ax_jb (fun v ho => ax_cSi hV lk_X10_264 rfl dX10_dateOf_34 [.int p1, .int (31 : Int32), .int (12 : Int32), .int (600 : Int32)] [.int q23, .int p2] (fun ad => [.int p1, .int (31 : Int32), .int (12 : Int32), .int (600 : Int32)]) rfl rfl rfl rfl v s (T_X10_dayNumber p1 (31 : Int32) (12 : Int32) (600 : Int32) s v ho)) (fun q34 => ?_)
      refine ax_jb (fun v ho => ax_cSi hV lk_X10_97 rfl dX10_dateOf_37 [.int p2, .int q23, .int q34] [] (fun ad => [.int p2, .int q23, .int q34]) rfl rfl rfl rfl v s (T_X10_in p2 q23 q34 s v ho)) (fun q37 => ?_)
      refine ax_jif (ax_if_ne hV dX10_dateOf_40) ?_ ?_
      · refine ax_j (ax_bipush hV (-2 : Int32) dX10_dateOf_43 (by decide)) ?_
        exact ax_jl (fun h => ax_ir hV rfl dX10_dateOf_45 (hP (-2 : Int32) h))
      · refine ax_j (ax_iconst hV (1 : Int32) dX10_dateOf_46 (by decide)) ?_
        refine ax_j (ax_istore hV [some (.ref (ax_ad (cx_R, X) 0)), some (.int p1), some (.int p2), some (.int p3), some (.int (1 : Int32)), none] dX10_dateOf_47 rfl rfl) ?_
        refine ax_jf (lv' := [none, some (.int p1), some (.int p2), some (.int p3), some (.int (1 : Int32)), none]) [false, true, true, true, true, false] rfl ?_
        refine ax_jlp (1 : Int32) (fun x49 : Int32 => [none, some (.int p1), some (.int p2), some (.int p3), some (.int x49), none]) (fun x49 : Int32 => s) (fun y49 : Int32 => [none, some (.int p1), some (.int p2), some (.int p3), some (.int y49), none]) (fun y49 : Int32 => s) (fun P' h1 h2 w => B_X10_dateOf_49 X hV p1 p2 p3 s P' h1 h2 w) (fun e49 => ?_)
        refine ax_j (ax_iconst hV (1 : Int32) dX10_dateOf_77 (by decide)) ?_
        refine ax_j (ax_istore hV [none, some (.int p1), some (.int p2), some (.int p3), some (.int e49), some (.int (1 : Int32))] dX10_dateOf_78 rfl rfl) ?_
        refine ax_jlp (1 : Int32) (fun x80 : Int32 => [none, some (.int p1), some (.int p2), some (.int p3), some (.int e49), some (.int x80)]) (fun x80 : Int32 => s) (fun y80 : Int32 => [none, some (.int p1), some (.int p2), some (.int p3), some (.int e49), some (.int y80)]) (fun y80 : Int32 => s) (fun P' h1 h2 w => B_X10_dateOf_80 X hV p1 p2 p3 e49 s P' h1 h2 w) (fun e80 => ?_)
        exact N_X10_dateOf_108 X hV s P hP p1 p2 p3 e49 e80
def mu_X10_type : ax_Mu := (yX10_type, cX10_type, 2, some .int, 1, 22)
theorem lc_X10_type : Cond.code mu_X10_type.1 mu_X10_type.2.1 mu_X10_type.2.2.1 mu_X10_type.2.2.2.1 ∈ ax_tb := (ax_m6 94 rfl rfl)
noncomputable def f_X10_type (p1 : Int32) (s : ax_S) : Option (Int32 × ax_S) := (f_X10_in p1 (0 : Int32) (255 : Int32)).bind (fun q5 => (if q5 = 0 then some (((-2 : Int32), s)) else (if (s.1 0 30) = (40 : Int32) then some (((-4 : Int32), s)) else (ax_si cx_R s 21 (s.1 0 30) p1).bind (fun s35 => some ((((ax_ui s35 0 30 ((s35.1 0 30) + (1 : Int32))).1 0 30), (ax_ui s35 0 30 ((s35.1 0 30) + (1 : Int32)))))))))
theorem T_X10_type (p1 : Int32) (s : ax_S) (r : Int32 × ax_S) (h : f_X10_type p1 s = some r) : ax_M cx_R mu_X10_type (fun ad => [.ref (ad 0), .int p1]) s (some (.int r.1)) r.2 := by
  refine ax_enter (by decide +kernel) 0 (fun ad => [some (.ref (ad 0)), some (.int p1)]) (fun ad => rfl) (fun ad => Nat.le_of_ble_eq_true rfl) (fun X hV ho => ?_)
  refine ax_go (fun r : Int32 × ax_S => (some (Value.int r.1), r.2)) (fun P hP => ?_) h ho
  unfold f_X10_type
  refine ax_j (ax_iload_n hV dX10_type_0 rfl) ?_
  refine ax_j (ax_iconst hV (0 : Int32) dX10_type_1 (by decide)) ?_
  refine ax_j (ax_sipush hV (255 : Int32) dX10_type_2 (by decide)) ?_
  refine ax_jb (fun v ho => ax_cSi hV lk_X10_97 rfl dX10_type_5 [.int p1, .int (0 : Int32), .int (255 : Int32)] [] (fun ad => [.int p1, .int (0 : Int32), .int (255 : Int32)]) rfl rfl rfl rfl v s (T_X10_in p1 (0 : Int32) (255 : Int32) s v ho)) (fun q5 => ?_)
  refine ax_jif (ax_if_ne hV dX10_type_8) ?_ ?_
  · refine ax_j (ax_bipush hV (-2 : Int32) dX10_type_11 (by decide)) ?_
    exact ax_jl (fun h => ax_ir hV rfl dX10_type_13 (hP ((-2 : Int32), s) h))
  · refine ax_j (ax_aload_n hV dX10_type_14 rfl) ?_
    refine ax_j (ax_gfi hV lf_X10_267 dX10_type_15 rfl rfl) ?_
    refine ax_j (ax_bipush hV (40 : Int32) dX10_type_18 (by decide)) ?_
    refine ax_jif (ax_icmp_ne hV dX10_type_20) ?_ ?_
    · refine ax_j (ax_bipush hV (-4 : Int32) dX10_type_23 (by decide)) ?_
      exact ax_jl (fun h => ax_ir hV rfl dX10_type_25 (hP ((-4 : Int32), s) h))
    · refine ax_j (ax_aload_n hV dX10_type_26 rfl) ?_
      refine ax_j (ax_gfr hV lf_X10_75 dX10_type_27 rfl rfl) ?_
      refine ax_j (ax_aload_n hV dX10_type_30 rfl) ?_
      refine ax_j (ax_gfi hV lf_X10_267 dX10_type_31 rfl rfl) ?_
      refine ax_j (ax_iload_n hV dX10_type_34 rfl) ?_
      refine ax_jb (ax_iast hV dX10_type_35) (fun s35 => ?_)
      refine ax_j (ax_aload_n hV dX10_type_36 rfl) ?_
      refine ax_j (ax_dup hV dX10_type_37 rfl) ?_
      refine ax_j (ax_gfi hV lf_X10_267 dX10_type_38 rfl rfl) ?_
      refine ax_j (ax_iconst hV (1 : Int32) dX10_type_41 (by decide)) ?_
      refine ax_j (ax_iadd hV dX10_type_42) ?_
      refine ax_j (ax_pfi hV lp_X10_267 dX10_type_43 rfl rfl) ?_
      refine ax_j (ax_aload_n hV dX10_type_46 rfl) ?_
      refine ax_j (ax_gfi hV lf_X10_267 dX10_type_47 rfl rfl) ?_
      exact ax_jl (fun h => ax_ir hV rfl dX10_type_50 (hP (((ax_ui s35 0 30 ((s35.1 0 30) + (1 : Int32))).1 0 30), (ax_ui s35 0 30 ((s35.1 0 30) + (1 : Int32)))) h))
def mu_X10_wipe : ax_Mu := (yX10_wipe, cX10_wipe, 2, some .int, 0, 0)
theorem lc_X10_wipe : Cond.code mu_X10_wipe.1 mu_X10_wipe.2.1 mu_X10_wipe.2.2.1 mu_X10_wipe.2.2.2.1 ∈ ax_tb := (ax_m6 98 rfl rfl)
noncomputable def f_X10_wipe  (s : ax_S) : Option (Int32 × ax_S) := some (((s.1 0 30), (ax_ui s 0 30 (0 : Int32))))
theorem T_X10_wipe  (s : ax_S) (r : Int32 × ax_S) (h : f_X10_wipe s = some r) : ax_M cx_R mu_X10_wipe (fun ad => [.ref (ad 0)]) s (some (.int r.1)) r.2 := by
  refine ax_enter (by decide +kernel) 1 (fun ad => [some (.ref (ad 0)), none]) (fun ad => rfl) (fun ad => Nat.le_of_ble_eq_true rfl) (fun X hV ho => ?_)
  refine ax_go (fun r : Int32 × ax_S => (some (Value.int r.1), r.2)) (fun P hP => ?_) h ho
  unfold f_X10_wipe
  refine ax_j (ax_aload_n hV dX10_wipe_0 rfl) ?_
  refine ax_j (ax_gfi hV lf_X10_267 dX10_wipe_1 rfl rfl) ?_
  refine ax_j (ax_istore_n hV [some (.ref (ax_ad (cx_R, X) 0)), some (.int (s.1 0 30))] dX10_wipe_4 rfl rfl) ?_
  refine ax_j (ax_aload_n hV dX10_wipe_5 rfl) ?_
  refine ax_j (ax_iconst hV (0 : Int32) dX10_wipe_6 (by decide)) ?_
  refine ax_j (ax_pfi hV lp_X10_267 dX10_wipe_7 rfl rfl) ?_
  refine ax_j (ax_iload_n hV dX10_wipe_10 rfl) ?_
  exact ax_jl (fun h => ax_ir hV rfl dX10_wipe_11 (hP ((s.1 0 30), (ax_ui s 0 30 (0 : Int32))) h))
def mu_X10_byteAt : ax_Mu := (yX10_byteAt, cX10_byteAt, 2, some .int, 0, 0)
theorem lc_X10_byteAt : Cond.code mu_X10_byteAt.1 mu_X10_byteAt.2.1 mu_X10_byteAt.2.2.1 mu_X10_byteAt.2.2.2.1 ∈ ax_tb := (ax_m6 118 rfl rfl)
noncomputable def f_X10_byteAt (p1 : Int32) (s : ax_S) : Option (Int32) := (if (s.1 0 30) ≤ p1 then some ((-1 : Int32)) else (ax_ai cx_R s 21 p1).bind (fun v13 => some (v13)))
theorem T_X10_byteAt (p1 : Int32) (s : ax_S) (r : Int32) (h : f_X10_byteAt p1 s = some r) : ax_M cx_R mu_X10_byteAt (fun ad => [.ref (ad 0), .int p1]) s (some (.int r)) s := by
  refine ax_enter (by decide +kernel) 0 (fun ad => [some (.ref (ad 0)), some (.int p1)]) (fun ad => rfl) (fun ad => Nat.le_of_ble_eq_true rfl) (fun X hV ho => ?_)
  refine ax_go (fun r : Int32 => (some (Value.int r), s)) (fun P hP => ?_) h ho
  unfold f_X10_byteAt
  refine ax_j (ax_iload_n hV dX10_byteAt_0 rfl) ?_
  refine ax_j (ax_aload_n hV dX10_byteAt_1 rfl) ?_
  refine ax_j (ax_gfi hV lf_X10_267 dX10_byteAt_2 rfl rfl) ?_
  refine ax_jif (ax_icmp_ge hV dX10_byteAt_5) ?_ ?_
  · refine ax_j (ax_iconst hV (-1 : Int32) dX10_byteAt_17 (by decide)) ?_
    exact ax_jl (fun h => ax_ir hV rfl dX10_byteAt_18 (hP (-1 : Int32) h))
  · refine ax_j (ax_aload_n hV dX10_byteAt_8 rfl) ?_
    refine ax_j (ax_gfr hV lf_X10_75 dX10_byteAt_9 rfl rfl) ?_
    refine ax_j (ax_iload_n hV dX10_byteAt_12 rfl) ?_
    refine ax_jb (ax_iald hV dX10_byteAt_13) (fun v13 => ?_)
    refine ax_j (ax_goto hV dX10_byteAt_14) ?_
    exact ax_jl (fun h => ax_ir hV rfl dX10_byteAt_18 (hP v13 h))
theorem lk_X10_276 : ax_lkV RX10 276 mu_X10_byteAt RX10 1 := ax_lkV_of (ax_m6 115 rfl rfl) (ax_m6 117 rfl rfl) (ax_mp5 6 rfl rfl rfl) (ax_m1 10 rfl rfl) lc_X10_byteAt rfl ⟨by decide +kernel, by decide +kernel, by decide +kernel⟩
def mu_X10_figures : ax_Mu := (yX10_figures, cX10_figures, 5, some .int, 1, 22)
theorem lc_X10_figures : Cond.code mu_X10_figures.1 mu_X10_figures.2.1 mu_X10_figures.2.2.1 mu_X10_figures.2.2.2.1 ∈ ax_tb := (ax_m6 114 rfl rfl)
noncomputable def b_X10_figures_8 (l1 : Int32) (l2 : Int32) (l3 : Int32) (a : Int32 × ax_S) : Option ((Int32 × ax_S) ⊕ (Int32 × ax_S)) := (if (a.2.1 0 33) = (-1 : Int32) then (if (l3 + l1) ≤ (a.2.1 0 32) then some (.inr (a.1, a.2)) else (f_X10_byteAt (a.2.1 0 32) a.2).bind (fun q31 => (if q31 < (48 : Int32) then some (.inr (a.1, a.2)) else (f_X10_byteAt (a.2.1 0 32) a.2).bind (fun q44 => (if (57 : Int32) < q44 then some (.inr (a.1, a.2)) else (f_X10_byteAt (a.2.1 0 32) a.2).bind (fun q62 => some (.inl (((((10 : Int32) * a.1) + q62) - (48 : Int32)), (ax_ui a.2 0 32 ((a.2.1 0 32) + (1 : Int32))))))))))) else some (.inr (a.1, a.2)))
noncomputable def j_X10_figures_84 (l2 : Int32) (l3 : Int32) (l4 : Int32) (s : ax_S) : Option (Int32 × ax_S) := (if (s.1 0 33) = (-1 : Int32) then (if (s.1 0 32) = l3 then some ((l4, (ax_ui s 0 33 l3))) else (f_X10_in l4 (1 : Int32) l2).bind (fun q104 => (if q104 = 0 then some ((l4, (ax_ui s 0 33 l3))) else some ((l4, s))))) else some ((l4, s)))
noncomputable def f_X10_figures (p1 : Int32) (p2 : Int32) (s : ax_S) : Option (Int32 × ax_S) := (ax_lp (b_X10_figures_8 p1 p2 (s.1 0 32)) ((0 : Int32), s)).bind (fun e8 => j_X10_figures_84 p2 (s.1 0 32) e8.1 e8.2)
theorem B_X10_figures_8 (X : ax_G × ax_K × Option Value × ax_S) (hV : ax_ok (cx_R, X) mu_X10_figures) (l1 : Int32) (l2 : Int32) (l3 : Int32) (P : ((Int32 × ax_S) ⊕ (Int32 × ax_S)) → Prop) (hI : ∀ a : Int32 × ax_S, P (.inl a) → ax_At (cx_R, X) 8 [some (.ref (ax_ad (cx_R, X) 0)), some (.int l1), some (.int l2), some (.int l3), some (.int a.1)] [] a.2) (hO : ∀ e : Int32 × ax_S, P (.inr e) → ax_At (cx_R, X) 84 [some (.ref (ax_ad (cx_R, X) 0)), none, some (.int l2), some (.int l3), some (.int e.1)] [] e.2) (a : Int32 × ax_S) : ax_J (cx_R, X) P 8 [some (.ref (ax_ad (cx_R, X) 0)), some (.int l1), some (.int l2), some (.int l3), some (.int a.1)] [] a.2 (b_X10_figures_8 l1 l2 l3 a) := by
  unfold b_X10_figures_8
  refine ax_j (ax_aload_n hV dX10_figures_8 rfl) ?_
  refine ax_j (ax_gfi hV lf_X10_273 dX10_figures_9 rfl rfl) ?_
  refine ax_j (ax_iconst hV (-1 : Int32) dX10_figures_12 (by decide)) ?_
  refine ax_jif (ax_icmp_ne hV dX10_figures_13) ?_ ?_
  · refine ax_j (ax_aload_n hV dX10_figures_16 rfl) ?_
    refine ax_j (ax_gfi hV lf_X10_270 dX10_figures_17 rfl rfl) ?_
    refine ax_j (ax_iload_n hV dX10_figures_20 rfl) ?_
    refine ax_j (ax_iload_n hV dX10_figures_21 rfl) ?_
    refine ax_j (ax_iadd hV dX10_figures_22) ?_
    refine ax_jif (ax_icmp_ge hV dX10_figures_23) ?_ ?_
    · refine ax_jf (lv' := [some (.ref (ax_ad (cx_R, X) 0)), none, some (.int l2), some (.int l3), some (.int a.1)]) [true, false, true, true, true] rfl ?_
      exact ax_jl (fun h => hO (a.1, a.2) h)
    · refine ax_j (ax_aload_n hV dX10_figures_26 rfl) ?_
      refine ax_j (ax_aload_n hV dX10_figures_27 rfl) ?_
      refine ax_j (ax_gfi hV lf_X10_270 dX10_figures_28 rfl rfl) ?_
      refine ax_jb (fun v ho => ax_cVi hV lk_X10_276 rfl dX10_figures_31 rfl rfl [.int (a.2.1 0 32)] [] (fun ad => [.ref (ad 0), .int (a.2.1 0 32)]) rfl rfl rfl rfl v a.2 (T_X10_byteAt (a.2.1 0 32) a.2 v ho)) (fun q31 => ?_)
      refine ax_j (ax_bipush hV (48 : Int32) dX10_figures_34 (by decide)) ?_
      refine ax_jif (ax_icmp_lt hV dX10_figures_36) ?_ ?_
      · refine ax_jf (lv' := [some (.ref (ax_ad (cx_R, X) 0)), none, some (.int l2), some (.int l3), some (.int a.1)]) [true, false, true, true, true] rfl ?_
        exact ax_jl (fun h => hO (a.1, a.2) h)
      · refine ax_j (ax_aload_n hV dX10_figures_39 rfl) ?_
        refine ax_j (ax_aload_n hV dX10_figures_40 rfl) ?_
        refine ax_j (ax_gfi hV lf_X10_270 dX10_figures_41 rfl rfl) ?_
        refine ax_jb (fun v ho => ax_cVi hV lk_X10_276 rfl dX10_figures_44 rfl rfl [.int (a.2.1 0 32)] [] (fun ad => [.ref (ad 0), .int (a.2.1 0 32)]) rfl rfl rfl rfl v a.2 (T_X10_byteAt (a.2.1 0 32) a.2 v ho)) (fun q44 => ?_)
        refine ax_j (ax_bipush hV (57 : Int32) dX10_figures_47 (by decide)) ?_
        refine ax_jif (ax_icmp_gt hV dX10_figures_49) ?_ ?_
        · refine ax_jf (lv' := [some (.ref (ax_ad (cx_R, X) 0)), none, some (.int l2), some (.int l3), some (.int a.1)]) [true, false, true, true, true] rfl ?_
          exact ax_jl (fun h => hO (a.1, a.2) h)
        · refine ax_j (ax_bipush hV (10 : Int32) dX10_figures_52 (by decide)) ?_
          refine ax_j (ax_iload hV dX10_figures_54 rfl) ?_
          refine ax_j (ax_imul hV dX10_figures_56) ?_
          refine ax_j (ax_aload_n hV dX10_figures_57 rfl) ?_
          refine ax_j (ax_aload_n hV dX10_figures_58 rfl) ?_
          refine ax_j (ax_gfi hV lf_X10_270 dX10_figures_59 rfl rfl) ?_
          refine ax_jb (fun v ho => ax_cVi hV lk_X10_276 rfl dX10_figures_62 rfl rfl [.int (a.2.1 0 32)] [.int ((10 : Int32) * a.1)] (fun ad => [.ref (ad 0), .int (a.2.1 0 32)]) rfl rfl rfl rfl v a.2 (T_X10_byteAt (a.2.1 0 32) a.2 v ho)) (fun q62 => ?_)
          refine ax_j (ax_iadd hV dX10_figures_65) ?_
          refine ax_j (ax_bipush hV (48 : Int32) dX10_figures_66 (by decide)) ?_
          refine ax_j (ax_isub hV dX10_figures_68) ?_
          refine ax_j (ax_istore hV [some (.ref (ax_ad (cx_R, X) 0)), some (.int l1), some (.int l2), some (.int l3), some (.int ((((10 : Int32) * a.1) + q62) - (48 : Int32)))] dX10_figures_69 rfl rfl) ?_
          refine ax_j (ax_aload_n hV dX10_figures_71 rfl) ?_
          refine ax_j (ax_dup hV dX10_figures_72 rfl) ?_
          refine ax_j (ax_gfi hV lf_X10_270 dX10_figures_73 rfl rfl) ?_
          refine ax_j (ax_iconst hV (1 : Int32) dX10_figures_76 (by decide)) ?_
          refine ax_j (ax_iadd hV dX10_figures_77) ?_
          refine ax_j (ax_pfi hV lp_X10_270 dX10_figures_78 rfl rfl) ?_
          refine ax_j (ax_goto hV dX10_figures_81) ?_
          exact ax_jl (fun h => hI (((((10 : Int32) * a.1) + q62) - (48 : Int32)), (ax_ui a.2 0 32 ((a.2.1 0 32) + (1 : Int32)))) h)
  · refine ax_jf (lv' := [some (.ref (ax_ad (cx_R, X) 0)), none, some (.int l2), some (.int l3), some (.int a.1)]) [true, false, true, true, true] rfl ?_
    exact ax_jl (fun h => hO (a.1, a.2) h)
theorem N_X10_figures_84 (X : ax_G × ax_K × Option Value × ax_S) (hV : ax_ok (cx_R, X) mu_X10_figures)  (P : (Int32 × ax_S) → Prop) (hP : ∀ r : Int32 × ax_S, P r → X.2.2 = (fun r : Int32 × ax_S => (some (Value.int r.1), r.2)) r) (l2 : Int32) (l3 : Int32) (l4 : Int32) (s : ax_S) : ax_J (cx_R, X) P 84 [some (.ref (ax_ad (cx_R, X) 0)), none, some (.int l2), some (.int l3), some (.int l4)] [] s (j_X10_figures_84 l2 l3 l4 s) := by
  unfold j_X10_figures_84
  refine ax_j (ax_aload_n hV dX10_figures_84 rfl) ?_
  refine ax_j (ax_gfi hV lf_X10_273 dX10_figures_85 rfl rfl) ?_
  refine ax_j (ax_iconst hV (-1 : Int32) dX10_figures_88 (by decide)) ?_
  refine ax_jif (ax_icmp_ne hV dX10_figures_89) ?_ ?_
  · refine ax_j (ax_aload_n hV dX10_figures_92 rfl) ?_
    refine ax_j (ax_gfi hV lf_X10_270 dX10_figures_93 rfl rfl) ?_
    refine ax_j (ax_iload_n hV dX10_figures_96 rfl) ?_
    refine ax_jif (ax_icmp_eq hV dX10_figures_97) ?_ ?_
    · refine ax_j (ax_aload_n hV dX10_figures_110 rfl) ?_
      refine ax_j (ax_iload_n hV dX10_figures_111 rfl) ?_
      refine ax_j (ax_pfi hV lp_X10_273 dX10_figures_112 rfl rfl) ?_
      refine ax_j (ax_iload hV dX10_figures_115 rfl) ?_
      exact ax_jl (fun h => ax_ir hV rfl dX10_figures_117 (hP (l4, (ax_ui s 0 33 l3)) h))
    · refine ax_j (ax_iload hV dX10_figures_100 rfl) ?_
      refine ax_j (ax_iconst hV (1 : Int32) dX10_figures_102 (by decide)) ?_
      refine ax_j (ax_iload_n hV dX10_figures_103 rfl) ?_
      refine ax_jb (fun v ho => ax_cSi hV lk_X10_97 rfl dX10_figures_104 [.int l4, .int (1 : Int32), .int l2] [] (fun ad => [.int l4, .int (1 : Int32), .int l2]) rfl rfl rfl rfl v s (T_X10_in l4 (1 : Int32) l2 s v ho)) (fun q104 => ?_)
      refine ax_jif (ax_if_ne hV dX10_figures_107) ?_ ?_
      · refine ax_j (ax_aload_n hV dX10_figures_110 rfl) ?_
        refine ax_j (ax_iload_n hV dX10_figures_111 rfl) ?_
        refine ax_j (ax_pfi hV lp_X10_273 dX10_figures_112 rfl rfl) ?_
        refine ax_j (ax_iload hV dX10_figures_115 rfl) ?_
        exact ax_jl (fun h => ax_ir hV rfl dX10_figures_117 (hP (l4, (ax_ui s 0 33 l3)) h))
      · refine ax_j (ax_iload hV dX10_figures_115 rfl) ?_
        exact ax_jl (fun h => ax_ir hV rfl dX10_figures_117 (hP (l4, s) h))
  · refine ax_j (ax_iload hV dX10_figures_115 rfl) ?_
    exact ax_jl (fun h => ax_ir hV rfl dX10_figures_117 (hP (l4, s) h))
theorem T_X10_figures (p1 : Int32) (p2 : Int32) (s : ax_S) (r : Int32 × ax_S) (h : f_X10_figures p1 p2 s = some r) : ax_M cx_R mu_X10_figures (fun ad => [.ref (ad 0), .int p1, .int p2]) s (some (.int r.1)) r.2 := by
  refine ax_enter (by decide +kernel) 2 (fun ad => [some (.ref (ad 0)), some (.int p1), some (.int p2), none, none]) (fun ad => rfl) (fun ad => Nat.le_of_ble_eq_true rfl) (fun X hV ho => ?_)
  refine ax_go (fun r : Int32 × ax_S => (some (Value.int r.1), r.2)) (fun P hP => ?_) h ho
  unfold f_X10_figures
  refine ax_j (ax_aload_n hV dX10_figures_0 rfl) ?_
  refine ax_j (ax_gfi hV lf_X10_270 dX10_figures_1 rfl rfl) ?_
  refine ax_j (ax_istore_n hV [some (.ref (ax_ad (cx_R, X) 0)), some (.int p1), some (.int p2), some (.int (s.1 0 32)), none] dX10_figures_4 rfl rfl) ?_
  refine ax_j (ax_iconst hV (0 : Int32) dX10_figures_5 (by decide)) ?_
  refine ax_j (ax_istore hV [some (.ref (ax_ad (cx_R, X) 0)), some (.int p1), some (.int p2), some (.int (s.1 0 32)), some (.int (0 : Int32))] dX10_figures_6 rfl rfl) ?_
  refine ax_jlp ((0 : Int32), s) (fun x8 : Int32 × ax_S => [some (.ref (ax_ad (cx_R, X) 0)), some (.int p1), some (.int p2), some (.int (s.1 0 32)), some (.int x8.1)]) (fun x8 : Int32 × ax_S => x8.2) (fun y8 : Int32 × ax_S => [some (.ref (ax_ad (cx_R, X) 0)), none, some (.int p2), some (.int (s.1 0 32)), some (.int y8.1)]) (fun y8 : Int32 × ax_S => y8.2) (fun P' h1 h2 w => B_X10_figures_8 X hV p1 p2 (s.1 0 32) P' h1 h2 w) (fun e8 => ?_)
  exact N_X10_figures_84 X hV  P hP p2 (s.1 0 32) e8.1 e8.2
theorem lk_X10_279 : ax_lkV RX10 279 mu_X10_figures RX10 2 := ax_lkV_of (ax_m6 111 rfl rfl) (ax_m6 113 rfl rfl) (ax_mp5 5 rfl rfl rfl) (ax_m1 10 rfl rfl) lc_X10_figures rfl ⟨by decide +kernel, by decide +kernel, by decide +kernel⟩
def mu_X10_dot : ax_Mu := (yX10_dot, cX10_dot, 1, none, 1, 21)
theorem lc_X10_dot : Cond.code mu_X10_dot.1 mu_X10_dot.2.1 mu_X10_dot.2.2.1 mu_X10_dot.2.2.2.1 ∈ ax_tb := (ax_m6 122 rfl rfl)
noncomputable def f_X10_dot  (s : ax_S) : Option (ax_S) := (if (s.1 0 33) = (-1 : Int32) then (f_X10_byteAt (s.1 0 32) s).bind (fun q13 => (if q13 = (46 : Int32) then some ((ax_ui s 0 32 ((s.1 0 32) + (1 : Int32)))) else some ((ax_ui (ax_ui s 0 33 (s.1 0 32)) 0 32 (((ax_ui s 0 33 (s.1 0 32)).1 0 32) + (1 : Int32)))))) else some ((ax_ui s 0 32 ((s.1 0 32) + (1 : Int32)))))
theorem T_X10_dot  (s : ax_S) (r : ax_S) (h : f_X10_dot s = some r) : ax_M cx_R mu_X10_dot (fun ad => [.ref (ad 0)]) s none r := by
  refine ax_enter (by decide +kernel) 0 (fun ad => [some (.ref (ad 0))]) (fun ad => rfl) (fun ad => Nat.le_of_ble_eq_true rfl) (fun X hV ho => ?_)
  refine ax_go (fun r : ax_S => ((none : Option Value), r)) (fun P hP => ?_) h ho
  unfold f_X10_dot
  refine ax_j (ax_aload_n hV dX10_dot_0 rfl) ?_
  refine ax_j (ax_gfi hV lf_X10_273 dX10_dot_1 rfl rfl) ?_
  refine ax_j (ax_iconst hV (-1 : Int32) dX10_dot_4 (by decide)) ?_
  refine ax_jif (ax_icmp_ne hV dX10_dot_5) ?_ ?_
  · refine ax_j (ax_aload_n hV dX10_dot_8 rfl) ?_
    refine ax_j (ax_aload_n hV dX10_dot_9 rfl) ?_
    refine ax_j (ax_gfi hV lf_X10_270 dX10_dot_10 rfl rfl) ?_
    refine ax_jb (fun v ho => ax_cVi hV lk_X10_276 rfl dX10_dot_13 rfl rfl [.int (s.1 0 32)] [] (fun ad => [.ref (ad 0), .int (s.1 0 32)]) rfl rfl rfl rfl v s (T_X10_byteAt (s.1 0 32) s v ho)) (fun q13 => ?_)
    refine ax_j (ax_bipush hV (46 : Int32) dX10_dot_16 (by decide)) ?_
    refine ax_jif (ax_icmp_eq hV dX10_dot_18) ?_ ?_
    · refine ax_j (ax_aload_n hV dX10_dot_29 rfl) ?_
      refine ax_j (ax_dup hV dX10_dot_30 rfl) ?_
      refine ax_j (ax_gfi hV lf_X10_270 dX10_dot_31 rfl rfl) ?_
      refine ax_j (ax_iconst hV (1 : Int32) dX10_dot_34 (by decide)) ?_
      refine ax_j (ax_iadd hV dX10_dot_35) ?_
      refine ax_j (ax_pfi hV lp_X10_270 dX10_dot_36 rfl rfl) ?_
      exact ax_jl (fun h => ax_vr hV rfl dX10_dot_39 (hP (ax_ui s 0 32 ((s.1 0 32) + (1 : Int32))) h))
    · refine ax_j (ax_aload_n hV dX10_dot_21 rfl) ?_
      refine ax_j (ax_aload_n hV dX10_dot_22 rfl) ?_
      refine ax_j (ax_gfi hV lf_X10_270 dX10_dot_23 rfl rfl) ?_
      refine ax_j (ax_pfi hV lp_X10_273 dX10_dot_26 rfl rfl) ?_
      refine ax_j (ax_aload_n hV dX10_dot_29 rfl) ?_
      refine ax_j (ax_dup hV dX10_dot_30 rfl) ?_
      refine ax_j (ax_gfi hV lf_X10_270 dX10_dot_31 rfl rfl) ?_
      refine ax_j (ax_iconst hV (1 : Int32) dX10_dot_34 (by decide)) ?_
      refine ax_j (ax_iadd hV dX10_dot_35) ?_
      refine ax_j (ax_pfi hV lp_X10_270 dX10_dot_36 rfl rfl) ?_
      exact ax_jl (fun h => ax_vr hV rfl dX10_dot_39 (hP (ax_ui (ax_ui s 0 33 (s.1 0 32)) 0 32 (((ax_ui s 0 33 (s.1 0 32)).1 0 32) + (1 : Int32))) h))
  · refine ax_j (ax_aload_n hV dX10_dot_29 rfl) ?_
    refine ax_j (ax_dup hV dX10_dot_30 rfl) ?_
    refine ax_j (ax_gfi hV lf_X10_270 dX10_dot_31 rfl rfl) ?_
    refine ax_j (ax_iconst hV (1 : Int32) dX10_dot_34 (by decide)) ?_
    refine ax_j (ax_iadd hV dX10_dot_35) ?_
    refine ax_j (ax_pfi hV lp_X10_270 dX10_dot_36 rfl rfl) ?_
    exact ax_jl (fun h => ax_vr hV rfl dX10_dot_39 (hP (ax_ui s 0 32 ((s.1 0 32) + (1 : Int32))) h))
theorem lk_X10_282 : ax_lkV RX10 282 mu_X10_dot RX10 0 := ax_lkV_of (ax_m6 119 rfl rfl) (ax_m6 121 rfl rfl) (ax_mp5 7 rfl rfl rfl) (ax_m1 10 rfl rfl) lc_X10_dot rfl ⟨by decide +kernel, by decide +kernel, by decide +kernel⟩
def mu_X10_date : ax_Mu := (yX10_date, cX10_date, 6, some .int, 4, 92)
theorem lc_X10_date : Cond.code mu_X10_date.1 mu_X10_date.2.1 mu_X10_date.2.2.1 mu_X10_date.2.2.2.1 ∈ ax_tb := (ax_m6 110 rfl rfl)
noncomputable def j_X10_date_81 (l1 : Int32) (l2 : Int32) (l3 : Int32) (l4 : Int32) (s : ax_S) : Option (Int32 × ax_S) := (if (s.1 0 33) = (-1 : Int32) then (f_X10_byteAt (s.1 0 32) s).bind (fun q96 => (f_X10_daysOf (q96 - (97 : Int32)) l3 l4).bind (fun q120 => (if l2 ≤ q120 then (f_X10_dayNumber (q96 - (97 : Int32)) l2 l3 l4).bind (fun q137 => some ((q137, (ax_ui s 0 32 ((s.1 0 32) + (1 : Int32)))))) else (f_X10_dayNumber (q96 - (97 : Int32)) l2 l3 l4).bind (fun q137 => some ((q137, (ax_ui (ax_ui s 0 32 ((s.1 0 32) + (1 : Int32))) 0 33 l1))))))) else some (((0 : Int32), s)))
noncomputable def f_X10_date  (s : ax_S) : Option (Int32 × ax_S) := (f_X10_figures (2 : Int32) (31 : Int32) s).bind (fun q9 => (f_X10_dot q9.2).bind (fun q14 => (f_X10_figures (2 : Int32) (12 : Int32) q14).bind (fun q21 => (f_X10_dot q21.2).bind (fun q26 => (f_X10_figures (3 : Int32) (600 : Int32) q26).bind (fun q34 => (if (q34.2.1 0 33) = (-1 : Int32) then (f_X10_byteAt (q34.2.1 0 32) q34.2).bind (fun q52 => (if q52 = (97 : Int32) then j_X10_date_81 (s.1 0 32) q9.1 q21.1 q34.1 q34.2 else (f_X10_byteAt (q34.2.1 0 32) q34.2).bind (fun q65 => (if q65 = (98 : Int32) then j_X10_date_81 (s.1 0 32) q9.1 q21.1 q34.1 q34.2 else j_X10_date_81 (s.1 0 32) q9.1 q21.1 q34.1 (ax_ui q34.2 0 33 (q34.2.1 0 32)))))) else j_X10_date_81 (s.1 0 32) q9.1 q21.1 q34.1 q34.2))))))
theorem N_X10_date_81 (X : ax_G × ax_K × Option Value × ax_S) (hV : ax_ok (cx_R, X) mu_X10_date)  (P : (Int32 × ax_S) → Prop) (hP : ∀ r : Int32 × ax_S, P r → X.2.2 = (fun r : Int32 × ax_S => (some (Value.int r.1), r.2)) r) (l1 : Int32) (l2 : Int32) (l3 : Int32) (l4 : Int32) (s : ax_S) : ax_J (cx_R, X) P 81 [some (.ref (ax_ad (cx_R, X) 0)), some (.int l1), some (.int l2), some (.int l3), some (.int l4), none] [] s (j_X10_date_81 l1 l2 l3 l4 s) := by
  unfold j_X10_date_81
  refine ax_j (ax_aload_n hV dX10_date_81 rfl) ?_
  refine ax_j (ax_gfi hV lf_X10_273 dX10_date_82 rfl rfl) ?_
  refine ax_j (ax_iconst hV (-1 : Int32) dX10_date_85 (by decide)) ?_
  refine ax_jif (ax_icmp_eq hV dX10_date_86) ?_ ?_
  · refine ax_j (ax_aload_n hV dX10_date_91 rfl) ?_
    refine ax_j (ax_aload_n hV dX10_date_92 rfl) ?_
    refine ax_j (ax_gfi hV lf_X10_270 dX10_date_93 rfl rfl) ?_
    refine ax_jb (fun v ho => ax_cVi hV lk_X10_276 rfl dX10_date_96 rfl rfl [.int (s.1 0 32)] [] (fun ad => [.ref (ad 0), .int (s.1 0 32)]) rfl rfl rfl rfl v s (T_X10_byteAt (s.1 0 32) s v ho)) (fun q96 => ?_)
    refine ax_j (ax_bipush hV (97 : Int32) dX10_date_99 (by decide)) ?_
    refine ax_j (ax_isub hV dX10_date_101) ?_
    refine ax_j (ax_istore hV [some (.ref (ax_ad (cx_R, X) 0)), some (.int l1), some (.int l2), some (.int l3), some (.int l4), some (.int (q96 - (97 : Int32)))] dX10_date_102 rfl rfl) ?_
    refine ax_j (ax_aload_n hV dX10_date_104 rfl) ?_
    refine ax_j (ax_dup hV dX10_date_105 rfl) ?_
    refine ax_j (ax_gfi hV lf_X10_270 dX10_date_106 rfl rfl) ?_
    refine ax_j (ax_iconst hV (1 : Int32) dX10_date_109 (by decide)) ?_
    refine ax_j (ax_iadd hV dX10_date_110) ?_
    refine ax_j (ax_pfi hV lp_X10_270 dX10_date_111 rfl rfl) ?_
    refine ax_j (ax_iload_n hV dX10_date_114 rfl) ?_
    refine ax_j (ax_iload hV dX10_date_115 rfl) ?_
    refine ax_j (ax_iload_n hV dX10_date_117 rfl) ?_
    refine ax_j (ax_iload hV dX10_date_118 rfl) ?_
    refine ax_jb (fun v ho => ax_cSi hV lk_X10_257 rfl dX10_date_120 [.int (q96 - (97 : Int32)), .int l3, .int l4] [.int l2] (fun ad => [.int (q96 - (97 : Int32)), .int l3, .int l4]) rfl rfl rfl rfl v (ax_ui s 0 32 ((s.1 0 32) + (1 : Int32))) (T_X10_daysOf (q96 - (97 : Int32)) l3 l4 (ax_ui s 0 32 ((s.1 0 32) + (1 : Int32))) v ho)) (fun q120 => ?_)
    refine ax_jif (ax_icmp_le hV dX10_date_123) ?_ ?_
    · refine ax_j (ax_iload hV dX10_date_131 rfl) ?_
      refine ax_j (ax_iload_n hV dX10_date_133 rfl) ?_
      refine ax_j (ax_iload_n hV dX10_date_134 rfl) ?_
      refine ax_j (ax_iload hV dX10_date_135 rfl) ?_
      refine ax_jb (fun v ho => ax_cSi hV lk_X10_264 rfl dX10_date_137 [.int (q96 - (97 : Int32)), .int l2, .int l3, .int l4] [] (fun ad => [.int (q96 - (97 : Int32)), .int l2, .int l3, .int l4]) rfl rfl rfl rfl v (ax_ui s 0 32 ((s.1 0 32) + (1 : Int32))) (T_X10_dayNumber (q96 - (97 : Int32)) l2 l3 l4 (ax_ui s 0 32 ((s.1 0 32) + (1 : Int32))) v ho)) (fun q137 => ?_)
      exact ax_jl (fun h => ax_ir hV rfl dX10_date_140 (hP (q137, (ax_ui s 0 32 ((s.1 0 32) + (1 : Int32)))) h))
    · refine ax_j (ax_aload_n hV dX10_date_126 rfl) ?_
      refine ax_j (ax_iload_n hV dX10_date_127 rfl) ?_
      refine ax_j (ax_pfi hV lp_X10_273 dX10_date_128 rfl rfl) ?_
      refine ax_j (ax_iload hV dX10_date_131 rfl) ?_
      refine ax_j (ax_iload_n hV dX10_date_133 rfl) ?_
      refine ax_j (ax_iload_n hV dX10_date_134 rfl) ?_
      refine ax_j (ax_iload hV dX10_date_135 rfl) ?_
      refine ax_jb (fun v ho => ax_cSi hV lk_X10_264 rfl dX10_date_137 [.int (q96 - (97 : Int32)), .int l2, .int l3, .int l4] [] (fun ad => [.int (q96 - (97 : Int32)), .int l2, .int l3, .int l4]) rfl rfl rfl rfl v (ax_ui (ax_ui s 0 32 ((s.1 0 32) + (1 : Int32))) 0 33 l1) (T_X10_dayNumber (q96 - (97 : Int32)) l2 l3 l4 (ax_ui (ax_ui s 0 32 ((s.1 0 32) + (1 : Int32))) 0 33 l1) v ho)) (fun q137 => ?_)
      exact ax_jl (fun h => ax_ir hV rfl dX10_date_140 (hP (q137, (ax_ui (ax_ui s 0 32 ((s.1 0 32) + (1 : Int32))) 0 33 l1)) h))
  · refine ax_j (ax_iconst hV (0 : Int32) dX10_date_89 (by decide)) ?_
    exact ax_jl (fun h => ax_ir hV rfl dX10_date_90 (hP ((0 : Int32), s) h))
theorem T_X10_date  (s : ax_S) (r : Int32 × ax_S) (h : f_X10_date s = some r) : ax_M cx_R mu_X10_date (fun ad => [.ref (ad 0)]) s (some (.int r.1)) r.2 := by
  refine ax_enter (by decide +kernel) 5 (fun ad => [some (.ref (ad 0)), none, none, none, none, none]) (fun ad => rfl) (fun ad => Nat.le_of_ble_eq_true rfl) (fun X hV ho => ?_)
  refine ax_go (fun r : Int32 × ax_S => (some (Value.int r.1), r.2)) (fun P hP => ?_) h ho
  unfold f_X10_date
  refine ax_j (ax_aload_n hV dX10_date_0 rfl) ?_
  refine ax_j (ax_gfi hV lf_X10_270 dX10_date_1 rfl rfl) ?_
  refine ax_j (ax_istore_n hV [some (.ref (ax_ad (cx_R, X) 0)), some (.int (s.1 0 32)), none, none, none, none] dX10_date_4 rfl rfl) ?_
  refine ax_j (ax_aload_n hV dX10_date_5 rfl) ?_
  refine ax_j (ax_iconst hV (2 : Int32) dX10_date_6 (by decide)) ?_
  refine ax_j (ax_bipush hV (31 : Int32) dX10_date_7 (by decide)) ?_
  refine ax_jb (fun v ho => ax_cVi hV lk_X10_279 rfl dX10_date_9 rfl rfl [.int (2 : Int32), .int (31 : Int32)] [] (fun ad => [.ref (ad 0), .int (2 : Int32), .int (31 : Int32)]) rfl rfl rfl rfl v.1 v.2 (T_X10_figures (2 : Int32) (31 : Int32) s v ho)) (fun q9 => ?_)
  refine ax_j (ax_istore_n hV [some (.ref (ax_ad (cx_R, X) 0)), some (.int (s.1 0 32)), some (.int q9.1), none, none, none] dX10_date_12 rfl rfl) ?_
  refine ax_j (ax_aload_n hV dX10_date_13 rfl) ?_
  refine ax_jb (fun v ho => ax_cVv hV lk_X10_282 rfl dX10_date_14 rfl rfl [] [] (fun ad => [.ref (ad 0)]) rfl rfl rfl rfl v (T_X10_dot q9.2 v ho)) (fun q14 => ?_)
  refine ax_j (ax_aload_n hV dX10_date_17 rfl) ?_
  refine ax_j (ax_iconst hV (2 : Int32) dX10_date_18 (by decide)) ?_
  refine ax_j (ax_bipush hV (12 : Int32) dX10_date_19 (by decide)) ?_
  refine ax_jb (fun v ho => ax_cVi hV lk_X10_279 rfl dX10_date_21 rfl rfl [.int (2 : Int32), .int (12 : Int32)] [] (fun ad => [.ref (ad 0), .int (2 : Int32), .int (12 : Int32)]) rfl rfl rfl rfl v.1 v.2 (T_X10_figures (2 : Int32) (12 : Int32) q14 v ho)) (fun q21 => ?_)
  refine ax_j (ax_istore_n hV [some (.ref (ax_ad (cx_R, X) 0)), some (.int (s.1 0 32)), some (.int q9.1), some (.int q21.1), none, none] dX10_date_24 rfl rfl) ?_
  refine ax_j (ax_aload_n hV dX10_date_25 rfl) ?_
  refine ax_jb (fun v ho => ax_cVv hV lk_X10_282 rfl dX10_date_26 rfl rfl [] [] (fun ad => [.ref (ad 0)]) rfl rfl rfl rfl v (T_X10_dot q21.2 v ho)) (fun q26 => ?_)
  refine ax_j (ax_aload_n hV dX10_date_29 rfl) ?_
  refine ax_j (ax_iconst hV (3 : Int32) dX10_date_30 (by decide)) ?_
  refine ax_j (ax_sipush hV (600 : Int32) dX10_date_31 (by decide)) ?_
  refine ax_jb (fun v ho => ax_cVi hV lk_X10_279 rfl dX10_date_34 rfl rfl [.int (3 : Int32), .int (600 : Int32)] [] (fun ad => [.ref (ad 0), .int (3 : Int32), .int (600 : Int32)]) rfl rfl rfl rfl v.1 v.2 (T_X10_figures (3 : Int32) (600 : Int32) q26 v ho)) (fun q34 => ?_)
  refine ax_j (ax_istore hV [some (.ref (ax_ad (cx_R, X) 0)), some (.int (s.1 0 32)), some (.int q9.1), some (.int q21.1), some (.int q34.1), none] dX10_date_37 rfl rfl) ?_
  refine ax_j (ax_aload_n hV dX10_date_39 rfl) ?_
  refine ax_j (ax_gfi hV lf_X10_273 dX10_date_40 rfl rfl) ?_
  refine ax_j (ax_iconst hV (-1 : Int32) dX10_date_43 (by decide)) ?_
  refine ax_jif (ax_icmp_ne hV dX10_date_44) ?_ ?_
  · refine ax_j (ax_aload_n hV dX10_date_47 rfl) ?_
    refine ax_j (ax_aload_n hV dX10_date_48 rfl) ?_
    refine ax_j (ax_gfi hV lf_X10_270 dX10_date_49 rfl rfl) ?_
    refine ax_jb (fun v ho => ax_cVi hV lk_X10_276 rfl dX10_date_52 rfl rfl [.int (q34.2.1 0 32)] [] (fun ad => [.ref (ad 0), .int (q34.2.1 0 32)]) rfl rfl rfl rfl v q34.2 (T_X10_byteAt (q34.2.1 0 32) q34.2 v ho)) (fun q52 => ?_)
    refine ax_j (ax_bipush hV (97 : Int32) dX10_date_55 (by decide)) ?_
    refine ax_jif (ax_icmp_eq hV dX10_date_57) ?_ ?_
    · exact N_X10_date_81 X hV  P hP (s.1 0 32) q9.1 q21.1 q34.1 q34.2
    · refine ax_j (ax_aload_n hV dX10_date_60 rfl) ?_
      refine ax_j (ax_aload_n hV dX10_date_61 rfl) ?_
      refine ax_j (ax_gfi hV lf_X10_270 dX10_date_62 rfl rfl) ?_
      refine ax_jb (fun v ho => ax_cVi hV lk_X10_276 rfl dX10_date_65 rfl rfl [.int (q34.2.1 0 32)] [] (fun ad => [.ref (ad 0), .int (q34.2.1 0 32)]) rfl rfl rfl rfl v q34.2 (T_X10_byteAt (q34.2.1 0 32) q34.2 v ho)) (fun q65 => ?_)
      refine ax_j (ax_bipush hV (98 : Int32) dX10_date_68 (by decide)) ?_
      refine ax_jif (ax_icmp_eq hV dX10_date_70) ?_ ?_
      · exact N_X10_date_81 X hV  P hP (s.1 0 32) q9.1 q21.1 q34.1 q34.2
      · refine ax_j (ax_aload_n hV dX10_date_73 rfl) ?_
        refine ax_j (ax_aload_n hV dX10_date_74 rfl) ?_
        refine ax_j (ax_gfi hV lf_X10_270 dX10_date_75 rfl rfl) ?_
        refine ax_j (ax_pfi hV lp_X10_273 dX10_date_78 rfl rfl) ?_
        exact N_X10_date_81 X hV  P hP (s.1 0 32) q9.1 q21.1 q34.1 (ax_ui q34.2 0 33 (q34.2.1 0 32))
  · exact N_X10_date_81 X hV  P hP (s.1 0 32) q9.1 q21.1 q34.1 q34.2
theorem lk_X10_285 : ax_lkV RX10 285 mu_X10_date RX10 0 := ax_lkV_of (ax_m6 107 rfl rfl) (ax_m6 109 rfl rfl) (ax_mp5 4 rfl rfl rfl) (ax_m1 10 rfl rfl) lc_X10_date rfl ⟨by decide +kernel, by decide +kernel, by decide +kernel⟩
def mu_X10_faultNow : ax_Mu := (yX10_faultNow, cX10_faultNow, 2, some .int, 5, 117)
theorem lc_X10_faultNow : Cond.code mu_X10_faultNow.1 mu_X10_faultNow.2.1 mu_X10_faultNow.2.2.1 mu_X10_faultNow.2.2.2.1 ∈ ax_tb := (ax_m6 106 rfl rfl)
noncomputable def j_X10_faultNow_94 (s : ax_S) : Option (Int32 × ax_S) := (if (s.1 0 33) = (-1 : Int32) then (if (s.1 0 30) ≤ (s.1 0 32) then some (((s.1 0 33), s)) else some ((((ax_ui s 0 33 (s.1 0 32)).1 0 33), (ax_ui s 0 33 (s.1 0 32))))) else some (((s.1 0 33), s)))
noncomputable def f_X10_faultNow  (s : ax_S) : Option (Int32 × ax_S) := (f_X10_date (ax_ui (ax_ui s 0 32 (0 : Int32)) 0 33 (-1 : Int32))).bind (fun q12 => (if ((ax_ui (ax_ui q12.2 0 34 q12.1) 0 35 ((ax_ui q12.2 0 34 q12.1).1 0 34)).1 0 33) = (-1 : Int32) then (f_X10_byteAt ((ax_ui (ax_ui q12.2 0 34 q12.1) 0 35 ((ax_ui q12.2 0 34 q12.1).1 0 34)).1 0 32) (ax_ui (ax_ui q12.2 0 34 q12.1) 0 35 ((ax_ui q12.2 0 34 q12.1).1 0 34))).bind (fun q39 => (if q39 = (45 : Int32) then (f_X10_date (ax_ui (ax_ui (ax_ui q12.2 0 34 q12.1) 0 35 ((ax_ui q12.2 0 34 q12.1).1 0 34)) 0 32 (((ax_ui (ax_ui q12.2 0 34 q12.1) 0 35 ((ax_ui q12.2 0 34 q12.1).1 0 34)).1 0 32) + (1 : Int32)))).bind (fun q64 => (if ((ax_ui q64.2 0 35 q64.1).1 0 33) = (-1 : Int32) then (if ((ax_ui q64.2 0 35 q64.1).1 0 34) ≤ ((ax_ui q64.2 0 35 q64.1).1 0 35) then j_X10_faultNow_94 (ax_ui q64.2 0 35 q64.1) else j_X10_faultNow_94 (ax_ui (ax_ui q64.2 0 35 q64.1) 0 33 ((ax_ui (ax_ui (ax_ui q12.2 0 34 q12.1) 0 35 ((ax_ui q12.2 0 34 q12.1).1 0 34)) 0 32 (((ax_ui (ax_ui q12.2 0 34 q12.1) 0 35 ((ax_ui q12.2 0 34 q12.1).1 0 34)).1 0 32) + (1 : Int32))).1 0 32))) else j_X10_faultNow_94 (ax_ui q64.2 0 35 q64.1))) else j_X10_faultNow_94 (ax_ui (ax_ui q12.2 0 34 q12.1) 0 35 ((ax_ui q12.2 0 34 q12.1).1 0 34)))) else j_X10_faultNow_94 (ax_ui (ax_ui q12.2 0 34 q12.1) 0 35 ((ax_ui q12.2 0 34 q12.1).1 0 34))))
theorem N_X10_faultNow_94 (X : ax_G × ax_K × Option Value × ax_S) (hV : ax_ok (cx_R, X) mu_X10_faultNow)  (P : (Int32 × ax_S) → Prop) (hP : ∀ r : Int32 × ax_S, P r → X.2.2 = (fun r : Int32 × ax_S => (some (Value.int r.1), r.2)) r) (s : ax_S) : ax_J (cx_R, X) P 94 [some (.ref (ax_ad (cx_R, X) 0)), none] [] s (j_X10_faultNow_94 s) := by
  unfold j_X10_faultNow_94
  refine ax_j (ax_aload_n hV dX10_faultNow_94 rfl) ?_
  refine ax_j (ax_gfi hV lf_X10_273 dX10_faultNow_95 rfl rfl) ?_
  refine ax_j (ax_iconst hV (-1 : Int32) dX10_faultNow_98 (by decide)) ?_
  refine ax_jif (ax_icmp_ne hV dX10_faultNow_99) ?_ ?_
  · refine ax_j (ax_aload_n hV dX10_faultNow_102 rfl) ?_
    refine ax_j (ax_gfi hV lf_X10_270 dX10_faultNow_103 rfl rfl) ?_
    refine ax_j (ax_aload_n hV dX10_faultNow_106 rfl) ?_
    refine ax_j (ax_gfi hV lf_X10_267 dX10_faultNow_107 rfl rfl) ?_
    refine ax_jif (ax_icmp_ge hV dX10_faultNow_110) ?_ ?_
    · refine ax_j (ax_aload_n hV dX10_faultNow_121 rfl) ?_
      refine ax_j (ax_gfi hV lf_X10_273 dX10_faultNow_122 rfl rfl) ?_
      exact ax_jl (fun h => ax_ir hV rfl dX10_faultNow_125 (hP ((s.1 0 33), s) h))
    · refine ax_j (ax_aload_n hV dX10_faultNow_113 rfl) ?_
      refine ax_j (ax_aload_n hV dX10_faultNow_114 rfl) ?_
      refine ax_j (ax_gfi hV lf_X10_270 dX10_faultNow_115 rfl rfl) ?_
      refine ax_j (ax_pfi hV lp_X10_273 dX10_faultNow_118 rfl rfl) ?_
      refine ax_j (ax_aload_n hV dX10_faultNow_121 rfl) ?_
      refine ax_j (ax_gfi hV lf_X10_273 dX10_faultNow_122 rfl rfl) ?_
      exact ax_jl (fun h => ax_ir hV rfl dX10_faultNow_125 (hP (((ax_ui s 0 33 (s.1 0 32)).1 0 33), (ax_ui s 0 33 (s.1 0 32))) h))
  · refine ax_j (ax_aload_n hV dX10_faultNow_121 rfl) ?_
    refine ax_j (ax_gfi hV lf_X10_273 dX10_faultNow_122 rfl rfl) ?_
    exact ax_jl (fun h => ax_ir hV rfl dX10_faultNow_125 (hP ((s.1 0 33), s) h))
theorem T_X10_faultNow  (s : ax_S) (r : Int32 × ax_S) (h : f_X10_faultNow s = some r) : ax_M cx_R mu_X10_faultNow (fun ad => [.ref (ad 0)]) s (some (.int r.1)) r.2 := by
  refine ax_enter (by decide +kernel) 1 (fun ad => [some (.ref (ad 0)), none]) (fun ad => rfl) (fun ad => Nat.le_of_ble_eq_true rfl) (fun X hV ho => ?_)
  refine ax_go (fun r : Int32 × ax_S => (some (Value.int r.1), r.2)) (fun P hP => ?_) h ho
  unfold f_X10_faultNow
  refine ax_j (ax_aload_n hV dX10_faultNow_0 rfl) ?_
  refine ax_j (ax_iconst hV (0 : Int32) dX10_faultNow_1 (by decide)) ?_
  refine ax_j (ax_pfi hV lp_X10_270 dX10_faultNow_2 rfl rfl) ?_
  refine ax_j (ax_aload_n hV dX10_faultNow_5 rfl) ?_
  refine ax_j (ax_iconst hV (-1 : Int32) dX10_faultNow_6 (by decide)) ?_
  refine ax_j (ax_pfi hV lp_X10_273 dX10_faultNow_7 rfl rfl) ?_
  refine ax_j (ax_aload_n hV dX10_faultNow_10 rfl) ?_
  refine ax_j (ax_aload_n hV dX10_faultNow_11 rfl) ?_
  refine ax_jb (fun v ho => ax_cVi hV lk_X10_285 rfl dX10_faultNow_12 rfl rfl [] [.ref (ax_ad (cx_R, X) 0)] (fun ad => [.ref (ad 0)]) rfl rfl rfl rfl v.1 v.2 (T_X10_date (ax_ui (ax_ui s 0 32 (0 : Int32)) 0 33 (-1 : Int32)) v ho)) (fun q12 => ?_)
  refine ax_j (ax_pfi hV lp_X10_288 dX10_faultNow_15 rfl rfl) ?_
  refine ax_j (ax_aload_n hV dX10_faultNow_18 rfl) ?_
  refine ax_j (ax_aload_n hV dX10_faultNow_19 rfl) ?_
  refine ax_j (ax_gfi hV lf_X10_288 dX10_faultNow_20 rfl rfl) ?_
  refine ax_j (ax_pfi hV lp_X10_291 dX10_faultNow_23 rfl rfl) ?_
  refine ax_j (ax_aload_n hV dX10_faultNow_26 rfl) ?_
  refine ax_j (ax_gfi hV lf_X10_273 dX10_faultNow_27 rfl rfl) ?_
  refine ax_j (ax_iconst hV (-1 : Int32) dX10_faultNow_30 (by decide)) ?_
  refine ax_jif (ax_icmp_ne hV dX10_faultNow_31) ?_ ?_
  · refine ax_j (ax_aload_n hV dX10_faultNow_34 rfl) ?_
    refine ax_j (ax_aload_n hV dX10_faultNow_35 rfl) ?_
    refine ax_j (ax_gfi hV lf_X10_270 dX10_faultNow_36 rfl rfl) ?_
    refine ax_jb (fun v ho => ax_cVi hV lk_X10_276 rfl dX10_faultNow_39 rfl rfl [.int ((ax_ui (ax_ui q12.2 0 34 q12.1) 0 35 ((ax_ui q12.2 0 34 q12.1).1 0 34)).1 0 32)] [] (fun ad => [.ref (ad 0), .int ((ax_ui (ax_ui q12.2 0 34 q12.1) 0 35 ((ax_ui q12.2 0 34 q12.1).1 0 34)).1 0 32)]) rfl rfl rfl rfl v (ax_ui (ax_ui q12.2 0 34 q12.1) 0 35 ((ax_ui q12.2 0 34 q12.1).1 0 34)) (T_X10_byteAt ((ax_ui (ax_ui q12.2 0 34 q12.1) 0 35 ((ax_ui q12.2 0 34 q12.1).1 0 34)).1 0 32) (ax_ui (ax_ui q12.2 0 34 q12.1) 0 35 ((ax_ui q12.2 0 34 q12.1).1 0 34)) v ho)) (fun q39 => ?_)
    refine ax_j (ax_bipush hV (45 : Int32) dX10_faultNow_42 (by decide)) ?_
    refine ax_jif (ax_icmp_ne hV dX10_faultNow_44) ?_ ?_
    · refine ax_j (ax_aload_n hV dX10_faultNow_47 rfl) ?_
      refine ax_j (ax_dup hV dX10_faultNow_48 rfl) ?_
      refine ax_j (ax_gfi hV lf_X10_270 dX10_faultNow_49 rfl rfl) ?_
      refine ax_j (ax_iconst hV (1 : Int32) dX10_faultNow_52 (by decide)) ?_
      refine ax_j (ax_iadd hV dX10_faultNow_53) ?_
      refine ax_j (ax_pfi hV lp_X10_270 dX10_faultNow_54 rfl rfl) ?_
      refine ax_j (ax_aload_n hV dX10_faultNow_57 rfl) ?_
      refine ax_j (ax_gfi hV lf_X10_270 dX10_faultNow_58 rfl rfl) ?_
      refine ax_j (ax_istore_n hV [some (.ref (ax_ad (cx_R, X) 0)), some (.int ((ax_ui (ax_ui (ax_ui q12.2 0 34 q12.1) 0 35 ((ax_ui q12.2 0 34 q12.1).1 0 34)) 0 32 (((ax_ui (ax_ui q12.2 0 34 q12.1) 0 35 ((ax_ui q12.2 0 34 q12.1).1 0 34)).1 0 32) + (1 : Int32))).1 0 32))] dX10_faultNow_61 rfl rfl) ?_
      refine ax_j (ax_aload_n hV dX10_faultNow_62 rfl) ?_
      refine ax_j (ax_aload_n hV dX10_faultNow_63 rfl) ?_
      refine ax_jb (fun v ho => ax_cVi hV lk_X10_285 rfl dX10_faultNow_64 rfl rfl [] [.ref (ax_ad (cx_R, X) 0)] (fun ad => [.ref (ad 0)]) rfl rfl rfl rfl v.1 v.2 (T_X10_date (ax_ui (ax_ui (ax_ui q12.2 0 34 q12.1) 0 35 ((ax_ui q12.2 0 34 q12.1).1 0 34)) 0 32 (((ax_ui (ax_ui q12.2 0 34 q12.1) 0 35 ((ax_ui q12.2 0 34 q12.1).1 0 34)).1 0 32) + (1 : Int32))) v ho)) (fun q64 => ?_)
      refine ax_j (ax_pfi hV lp_X10_291 dX10_faultNow_67 rfl rfl) ?_
      refine ax_j (ax_aload_n hV dX10_faultNow_70 rfl) ?_
      refine ax_j (ax_gfi hV lf_X10_273 dX10_faultNow_71 rfl rfl) ?_
      refine ax_j (ax_iconst hV (-1 : Int32) dX10_faultNow_74 (by decide)) ?_
      refine ax_jif (ax_icmp_ne hV dX10_faultNow_75) ?_ ?_
      · refine ax_j (ax_aload_n hV dX10_faultNow_78 rfl) ?_
        refine ax_j (ax_gfi hV lf_X10_291 dX10_faultNow_79 rfl rfl) ?_
        refine ax_j (ax_aload_n hV dX10_faultNow_82 rfl) ?_
        refine ax_j (ax_gfi hV lf_X10_288 dX10_faultNow_83 rfl rfl) ?_
        refine ax_jif (ax_icmp_ge hV dX10_faultNow_86) ?_ ?_
        · refine ax_jf (lv' := [some (.ref (ax_ad (cx_R, X) 0)), none]) [true, false] rfl ?_
          exact N_X10_faultNow_94 X hV  P hP (ax_ui q64.2 0 35 q64.1)
        · refine ax_j (ax_aload_n hV dX10_faultNow_89 rfl) ?_
          refine ax_j (ax_iload_n hV dX10_faultNow_90 rfl) ?_
          refine ax_j (ax_pfi hV lp_X10_273 dX10_faultNow_91 rfl rfl) ?_
          refine ax_jf (lv' := [some (.ref (ax_ad (cx_R, X) 0)), none]) [true, false] rfl ?_
          exact N_X10_faultNow_94 X hV  P hP (ax_ui (ax_ui q64.2 0 35 q64.1) 0 33 ((ax_ui (ax_ui (ax_ui q12.2 0 34 q12.1) 0 35 ((ax_ui q12.2 0 34 q12.1).1 0 34)) 0 32 (((ax_ui (ax_ui q12.2 0 34 q12.1) 0 35 ((ax_ui q12.2 0 34 q12.1).1 0 34)).1 0 32) + (1 : Int32))).1 0 32))
      · refine ax_jf (lv' := [some (.ref (ax_ad (cx_R, X) 0)), none]) [true, false] rfl ?_
        exact N_X10_faultNow_94 X hV  P hP (ax_ui q64.2 0 35 q64.1)
    · exact N_X10_faultNow_94 X hV  P hP (ax_ui (ax_ui q12.2 0 34 q12.1) 0 35 ((ax_ui q12.2 0 34 q12.1).1 0 34))
  · exact N_X10_faultNow_94 X hV  P hP (ax_ui (ax_ui q12.2 0 34 q12.1) 0 35 ((ax_ui q12.2 0 34 q12.1).1 0 34))
theorem lk_X10_294 : ax_lkV RX10 294 mu_X10_faultNow RX10 0 := ax_lkV_of (ax_m6 103 rfl rfl) (ax_m6 105 rfl rfl) (ax_mp5 3 rfl rfl rfl) (ax_m1 10 rfl rfl) lc_X10_faultNow rfl ⟨by decide +kernel, by decide +kernel, by decide +kernel⟩
def mu_X10_fault : ax_Mu := (yX10_fault, cX10_fault, 1, some .int, 6, 138)
theorem lc_X10_fault : Cond.code mu_X10_fault.1 mu_X10_fault.2.1 mu_X10_fault.2.2.1 mu_X10_fault.2.2.2.1 ∈ ax_tb := (ax_m6 102 rfl rfl)
noncomputable def f_X10_fault  (s : ax_S) : Option (Int32 × ax_S) := (f_X10_faultNow s).bind (fun q1 => some ((q1.1, q1.2)))
theorem T_X10_fault  (s : ax_S) (r : Int32 × ax_S) (h : f_X10_fault s = some r) : ax_M cx_R mu_X10_fault (fun ad => [.ref (ad 0)]) s (some (.int r.1)) r.2 := by
  refine ax_enter (by decide +kernel) 0 (fun ad => [some (.ref (ad 0))]) (fun ad => rfl) (fun ad => Nat.le_of_ble_eq_true rfl) (fun X hV ho => ?_)
  refine ax_go (fun r : Int32 × ax_S => (some (Value.int r.1), r.2)) (fun P hP => ?_) h ho
  unfold f_X10_fault
  refine ax_j (ax_aload_n hV dX10_fault_0 rfl) ?_
  refine ax_jb (fun v ho => ax_cVi hV lk_X10_294 rfl dX10_fault_1 rfl rfl [] [] (fun ad => [.ref (ad 0)]) rfl rfl rfl rfl v.1 v.2 (T_X10_faultNow s v ho)) (fun q1 => ?_)
  exact ax_jl (fun h => ax_ir hV rfl dX10_fault_4 (hP (q1.1, q1.2) h))
def mu_X10_said : ax_Mu := (yX10_said, cX10_said, 3, some .int, 6, 138)
theorem lc_X10_said : Cond.code mu_X10_said.1 mu_X10_said.2.1 mu_X10_said.2.2.1 mu_X10_said.2.2.2.1 ∈ ax_tb := (ax_m6 126 rfl rfl)
noncomputable def f_X10_said (p1 : Int32) (p2 : Int32) (s : ax_S) : Option (Int32 × ax_S) := (f_X10_isBook p1 s).bind (fun q2 => (if q2 = 0 then some (((-2 : Int32), s)) else (f_X10_isThing p2 s).bind (fun q10 => (if q10 = 0 then some (((-2 : Int32), s)) else (f_X10_faultNow s).bind (fun q20 => (if q20.1 = (-1 : Int32) then (f_X10_onMore p1 p2 (q20.2.1 0 34) (q20.2.1 0 35) q20.2).bind (fun q43 => some ((q43.1, q43.2))) else some (((-3 : Int32), q20.2))))))))
theorem T_X10_said (p1 : Int32) (p2 : Int32) (s : ax_S) (r : Int32 × ax_S) (h : f_X10_said p1 p2 s = some r) : ax_M cx_R mu_X10_said (fun ad => [.ref (ad 0), .int p1, .int p2]) s (some (.int r.1)) r.2 := by
  refine ax_enter (by decide +kernel) 0 (fun ad => [some (.ref (ad 0)), some (.int p1), some (.int p2)]) (fun ad => rfl) (fun ad => Nat.le_of_ble_eq_true rfl) (fun X hV ho => ?_)
  refine ax_go (fun r : Int32 × ax_S => (some (Value.int r.1), r.2)) (fun P hP => ?_) h ho
  unfold f_X10_said
  refine ax_j (ax_aload_n hV dX10_said_0 rfl) ?_
  refine ax_j (ax_iload_n hV dX10_said_1 rfl) ?_
  refine ax_jb (fun v ho => ax_cVi hV lk_X10_118 rfl dX10_said_2 rfl rfl [.int p1] [] (fun ad => [.ref (ad 0), .int p1]) rfl rfl rfl rfl v s (T_X10_isBook p1 s v ho)) (fun q2 => ?_)
  refine ax_jif (ax_if_eq hV dX10_said_5) ?_ ?_
  · refine ax_j (ax_bipush hV (-2 : Int32) dX10_said_16 (by decide)) ?_
    exact ax_jl (fun h => ax_ir hV rfl dX10_said_18 (hP ((-2 : Int32), s) h))
  · refine ax_j (ax_aload_n hV dX10_said_8 rfl) ?_
    refine ax_j (ax_iload_n hV dX10_said_9 rfl) ?_
    refine ax_jb (fun v ho => ax_cVi hV lk_X10_122 rfl dX10_said_10 rfl rfl [.int p2] [] (fun ad => [.ref (ad 0), .int p2]) rfl rfl rfl rfl v s (T_X10_isThing p2 s v ho)) (fun q10 => ?_)
    refine ax_jif (ax_if_ne hV dX10_said_13) ?_ ?_
    · refine ax_j (ax_bipush hV (-2 : Int32) dX10_said_16 (by decide)) ?_
      exact ax_jl (fun h => ax_ir hV rfl dX10_said_18 (hP ((-2 : Int32), s) h))
    · refine ax_j (ax_aload_n hV dX10_said_19 rfl) ?_
      refine ax_jb (fun v ho => ax_cVi hV lk_X10_294 rfl dX10_said_20 rfl rfl [] [] (fun ad => [.ref (ad 0)]) rfl rfl rfl rfl v.1 v.2 (T_X10_faultNow s v ho)) (fun q20 => ?_)
      refine ax_j (ax_iconst hV (-1 : Int32) dX10_said_23 (by decide)) ?_
      refine ax_jif (ax_icmp_eq hV dX10_said_24) ?_ ?_
      · refine ax_j (ax_aload_n hV dX10_said_32 rfl) ?_
        refine ax_j (ax_iload_n hV dX10_said_33 rfl) ?_
        refine ax_j (ax_iload_n hV dX10_said_34 rfl) ?_
        refine ax_j (ax_aload_n hV dX10_said_35 rfl) ?_
        refine ax_j (ax_gfi hV lf_X10_288 dX10_said_36 rfl rfl) ?_
        refine ax_j (ax_aload_n hV dX10_said_39 rfl) ?_
        refine ax_j (ax_gfi hV lf_X10_291 dX10_said_40 rfl rfl) ?_
        refine ax_jb (fun v ho => ax_cVi hV lk_X10_133 rfl dX10_said_43 rfl rfl [.int p1, .int p2, .int (q20.2.1 0 34), .int (q20.2.1 0 35)] [] (fun ad => [.ref (ad 0), .int p1, .int p2, .int (q20.2.1 0 34), .int (q20.2.1 0 35)]) rfl rfl rfl rfl v.1 v.2 (T_X10_onMore p1 p2 (q20.2.1 0 34) (q20.2.1 0 35) q20.2 v ho)) (fun q43 => ?_)
        exact ax_jl (fun h => ax_ir hV rfl dX10_said_46 (hP (q43.1, q43.2) h))
      · refine ax_j (ax_bipush hV (-3 : Int32) dX10_said_27 (by decide)) ?_
        refine ax_j (ax_goto hV dX10_said_29) ?_
        exact ax_jl (fun h => ax_ir hV rfl dX10_said_46 (hP ((-3 : Int32), q20.2) h))
def mu_X10_sheet : ax_Mu := (yX10_sheet, cX10_sheet, 5, some .int, 2, 42)
theorem lc_X10_sheet : Cond.code mu_X10_sheet.1 mu_X10_sheet.2.1 mu_X10_sheet.2.2.1 mu_X10_sheet.2.2.2.1 ∈ ax_tb := (ax_m6 130 rfl rfl)
noncomputable def b_X10_sheet_59 (l1 : Int32) (l3 : Int32) (a : Int32 × ax_S) : Option ((Int32 × ax_S) ⊕ (ax_S)) := (if (40 : Int32) ≤ a.1 then some (.inr a.2) else (ax_si cx_R a.2 25 (((40 : Int32) * l1) + a.1) (0 : Int32)).bind (fun s78 => some (.inl ((a.1 + 1), s78))))
noncomputable def f_X10_sheet (p1 : Int32) (p2 : Int32) (p3 : Int32) (s : ax_S) : Option (Int32 × ax_S) := (f_X10_isSheet p1).bind (fun q1 => (if q1 = 0 then some (((-2 : Int32), s)) else (f_X10_in p2 (0 : Int32) (2 : Int32)).bind (fun q10 => (if q10 = 0 then some (((-2 : Int32), s)) else (if p3 ≤ (40 : Int32) then (if 0 ≤ p3 then (ax_sb cx_R s 22 p1 (1 : Int32)).bind (fun s41 => (ax_si cx_R s41 23 p1 p2).bind (fun s48 => (ax_si cx_R s48 24 p1 p3).bind (fun s55 => (ax_lp (b_X10_sheet_59 p1 p3) ((0 : Int32), s55)).bind (fun e59 => some ((p3, e59)))))) else (f_X10_meets (5 : Int32) s).bind (fun q31 => some ((q31.1, q31.2)))) else some (((-2 : Int32), s)))))))
theorem B_X10_sheet_59 (X : ax_G × ax_K × Option Value × ax_S) (hV : ax_ok (cx_R, X) mu_X10_sheet) (l1 : Int32) (l3 : Int32) (P : ((Int32 × ax_S) ⊕ (ax_S)) → Prop) (hI : ∀ a : Int32 × ax_S, P (.inl a) → ax_At (cx_R, X) 59 [some (.ref (ax_ad (cx_R, X) 0)), some (.int l1), none, some (.int l3), some (.int a.1)] [] a.2) (hO : ∀ e : ax_S, P (.inr e) → ax_At (cx_R, X) 85 [none, none, none, some (.int l3), none] [] e) (a : Int32 × ax_S) : ax_J (cx_R, X) P 59 [some (.ref (ax_ad (cx_R, X) 0)), some (.int l1), none, some (.int l3), some (.int a.1)] [] a.2 (b_X10_sheet_59 l1 l3 a) := by
  unfold b_X10_sheet_59
  refine ax_j (ax_iload hV dX10_sheet_59 rfl) ?_
  refine ax_j (ax_bipush hV (40 : Int32) dX10_sheet_61 (by decide)) ?_
  refine ax_jif (ax_icmp_ge hV dX10_sheet_63) ?_ ?_
  · refine ax_jf (lv' := [none, none, none, some (.int l3), none]) [false, false, false, true, false] rfl ?_
    exact ax_jl (fun h => hO a.2 h)
  · refine ax_j (ax_aload_n hV dX10_sheet_66 rfl) ?_
    refine ax_j (ax_gfr hV lf_X10_88 dX10_sheet_67 rfl rfl) ?_
    refine ax_j (ax_bipush hV (40 : Int32) dX10_sheet_70 (by decide)) ?_
    refine ax_j (ax_iload_n hV dX10_sheet_72 rfl) ?_
    refine ax_j (ax_imul hV dX10_sheet_73) ?_
    refine ax_j (ax_iload hV dX10_sheet_74 rfl) ?_
    refine ax_j (ax_iadd hV dX10_sheet_76) ?_
    refine ax_j (ax_iconst hV (0 : Int32) dX10_sheet_77 (by decide)) ?_
    refine ax_jb (ax_iast hV dX10_sheet_78) (fun s78 => ?_)
    refine ax_j (ax_iinc hV (a.1 + 1) [some (.ref (ax_ad (cx_R, X) 0)), some (.int l1), none, some (.int l3), some (.int (a.1 + 1))] dX10_sheet_79 rfl rfl rfl rfl) ?_
    refine ax_j (ax_goto hV dX10_sheet_82) ?_
    exact ax_jl (fun h => hI ((a.1 + 1), s78) h)
theorem T_X10_sheet (p1 : Int32) (p2 : Int32) (p3 : Int32) (s : ax_S) (r : Int32 × ax_S) (h : f_X10_sheet p1 p2 p3 s = some r) : ax_M cx_R mu_X10_sheet (fun ad => [.ref (ad 0), .int p1, .int p2, .int p3]) s (some (.int r.1)) r.2 := by
  refine ax_enter (by decide +kernel) 1 (fun ad => [some (.ref (ad 0)), some (.int p1), some (.int p2), some (.int p3), none]) (fun ad => rfl) (fun ad => Nat.le_of_ble_eq_true rfl) (fun X hV ho => ?_)
  refine ax_go (fun r : Int32 × ax_S => (some (Value.int r.1), r.2)) (fun P hP => ?_) h ho
  unfold f_X10_sheet
  refine ax_j (ax_iload_n hV dX10_sheet_0 rfl) ?_
  refine ax_jb (fun v ho => ax_cSi hV lk_X10_140 rfl dX10_sheet_1 [.int p1] [] (fun ad => [.int p1]) rfl rfl rfl rfl v s (T_X10_isSheet p1 s v ho)) (fun q1 => ?_)
  refine ax_jif (ax_if_eq hV dX10_sheet_4) ?_ ?_
  · refine ax_j (ax_bipush hV (-2 : Int32) dX10_sheet_22 (by decide)) ?_
    exact ax_jl (fun h => ax_ir hV rfl dX10_sheet_24 (hP ((-2 : Int32), s) h))
  · refine ax_j (ax_iload_n hV dX10_sheet_7 rfl) ?_
    refine ax_j (ax_iconst hV (0 : Int32) dX10_sheet_8 (by decide)) ?_
    refine ax_j (ax_iconst hV (2 : Int32) dX10_sheet_9 (by decide)) ?_
    refine ax_jb (fun v ho => ax_cSi hV lk_X10_97 rfl dX10_sheet_10 [.int p2, .int (0 : Int32), .int (2 : Int32)] [] (fun ad => [.int p2, .int (0 : Int32), .int (2 : Int32)]) rfl rfl rfl rfl v s (T_X10_in p2 (0 : Int32) (2 : Int32) s v ho)) (fun q10 => ?_)
    refine ax_jif (ax_if_eq hV dX10_sheet_13) ?_ ?_
    · refine ax_j (ax_bipush hV (-2 : Int32) dX10_sheet_22 (by decide)) ?_
      exact ax_jl (fun h => ax_ir hV rfl dX10_sheet_24 (hP ((-2 : Int32), s) h))
    · refine ax_j (ax_iload_n hV dX10_sheet_16 rfl) ?_
      refine ax_j (ax_bipush hV (40 : Int32) dX10_sheet_17 (by decide)) ?_
      refine ax_jif (ax_icmp_le hV dX10_sheet_19) ?_ ?_
      · refine ax_j (ax_iload_n hV dX10_sheet_25 rfl) ?_
        refine ax_jif (ax_if_ge hV dX10_sheet_26) ?_ ?_
        · refine ax_j (ax_aload_n hV dX10_sheet_35 rfl) ?_
          refine ax_j (ax_gfr hV lf_X10_78 dX10_sheet_36 rfl rfl) ?_
          refine ax_j (ax_iload_n hV dX10_sheet_39 rfl) ?_
          refine ax_j (ax_iconst hV (1 : Int32) dX10_sheet_40 (by decide)) ?_
          refine ax_jb (ax_bast hV dX10_sheet_41) (fun s41 => ?_)
          refine ax_j (ax_aload_n hV dX10_sheet_42 rfl) ?_
          refine ax_j (ax_gfr hV lf_X10_82 dX10_sheet_43 rfl rfl) ?_
          refine ax_j (ax_iload_n hV dX10_sheet_46 rfl) ?_
          refine ax_j (ax_iload_n hV dX10_sheet_47 rfl) ?_
          refine ax_jb (ax_iast hV dX10_sheet_48) (fun s48 => ?_)
          refine ax_j (ax_aload_n hV dX10_sheet_49 rfl) ?_
          refine ax_j (ax_gfr hV lf_X10_85 dX10_sheet_50 rfl rfl) ?_
          refine ax_j (ax_iload_n hV dX10_sheet_53 rfl) ?_
          refine ax_j (ax_iload_n hV dX10_sheet_54 rfl) ?_
          refine ax_jb (ax_iast hV dX10_sheet_55) (fun s55 => ?_)
          refine ax_j (ax_iconst hV (0 : Int32) dX10_sheet_56 (by decide)) ?_
          refine ax_j (ax_istore hV [some (.ref (ax_ad (cx_R, X) 0)), some (.int p1), some (.int p2), some (.int p3), some (.int (0 : Int32))] dX10_sheet_57 rfl rfl) ?_
          refine ax_jf (lv' := [some (.ref (ax_ad (cx_R, X) 0)), some (.int p1), none, some (.int p3), some (.int (0 : Int32))]) [true, true, false, true, true] rfl ?_
          refine ax_jlp ((0 : Int32), s55) (fun x59 : Int32 × ax_S => [some (.ref (ax_ad (cx_R, X) 0)), some (.int p1), none, some (.int p3), some (.int x59.1)]) (fun x59 : Int32 × ax_S => x59.2) (fun y59 : ax_S => [none, none, none, some (.int p3), none]) (fun y59 : ax_S => y59) (fun P' h1 h2 w => B_X10_sheet_59 X hV p1 p3 P' h1 h2 w) (fun e59 => ?_)
          refine ax_j (ax_iload_n hV dX10_sheet_85 rfl) ?_
          exact ax_jl (fun h => ax_ir hV rfl dX10_sheet_86 (hP (p3, e59) h))
        · refine ax_j (ax_aload_n hV dX10_sheet_29 rfl) ?_
          refine ax_j (ax_iconst hV (5 : Int32) dX10_sheet_30 (by decide)) ?_
          refine ax_jb (fun v ho => ax_cVi hV lk_X10_143 rfl dX10_sheet_31 rfl rfl [.int (5 : Int32)] [] (fun ad => [.ref (ad 0), .int (5 : Int32)]) rfl rfl rfl rfl v.1 v.2 (T_X10_meets (5 : Int32) s v ho)) (fun q31 => ?_)
          exact ax_jl (fun h => ax_ir hV rfl dX10_sheet_34 (hP (q31.1, q31.2) h))
      · refine ax_j (ax_bipush hV (-2 : Int32) dX10_sheet_22 (by decide)) ?_
        exact ax_jl (fun h => ax_ir hV rfl dX10_sheet_24 (hP ((-2 : Int32), s) h))
def mu_X10_lose : ax_Mu := (yX10_lose, cX10_lose, 2, some .int, 2, 42)
theorem lc_X10_lose : Cond.code mu_X10_lose.1 mu_X10_lose.2.1 mu_X10_lose.2.2.1 mu_X10_lose.2.2.2.1 ∈ ax_tb := (ax_m6 134 rfl rfl)
noncomputable def f_X10_lose (p1 : Int32) (s : ax_S) : Option (Int32 × ax_S) := (f_X10_isSheet p1).bind (fun q1 => (if q1 = 0 then some (((-2 : Int32), s)) else (ax_ab cx_R s 22 p1).bind (fun v15 => (if v15 = 0 then (f_X10_meets (1 : Int32) s).bind (fun q21 => some ((q21.1, q21.2))) else (ax_sb cx_R s 22 p1 (0 : Int32)).bind (fun s31 => (ax_ai cx_R s31 24 p1).bind (fun v37 => some ((v37, s31))))))))
theorem T_X10_lose (p1 : Int32) (s : ax_S) (r : Int32 × ax_S) (h : f_X10_lose p1 s = some r) : ax_M cx_R mu_X10_lose (fun ad => [.ref (ad 0), .int p1]) s (some (.int r.1)) r.2 := by
  refine ax_enter (by decide +kernel) 0 (fun ad => [some (.ref (ad 0)), some (.int p1)]) (fun ad => rfl) (fun ad => Nat.le_of_ble_eq_true rfl) (fun X hV ho => ?_)
  refine ax_go (fun r : Int32 × ax_S => (some (Value.int r.1), r.2)) (fun P hP => ?_) h ho
  unfold f_X10_lose
  refine ax_j (ax_iload_n hV dX10_lose_0 rfl) ?_
  refine ax_jb (fun v ho => ax_cSi hV lk_X10_140 rfl dX10_lose_1 [.int p1] [] (fun ad => [.int p1]) rfl rfl rfl rfl v s (T_X10_isSheet p1 s v ho)) (fun q1 => ?_)
  refine ax_jif (ax_if_ne hV dX10_lose_4) ?_ ?_
  · refine ax_j (ax_bipush hV (-2 : Int32) dX10_lose_7 (by decide)) ?_
    exact ax_jl (fun h => ax_ir hV rfl dX10_lose_9 (hP ((-2 : Int32), s) h))
  · refine ax_j (ax_aload_n hV dX10_lose_10 rfl) ?_
    refine ax_j (ax_gfr hV lf_X10_78 dX10_lose_11 rfl rfl) ?_
    refine ax_j (ax_iload_n hV dX10_lose_14 rfl) ?_
    refine ax_jb (ax_bald hV dX10_lose_15) (fun v15 => ?_)
    refine ax_jif (ax_if_ne hV dX10_lose_16) ?_ ?_
    · refine ax_j (ax_aload_n hV dX10_lose_19 rfl) ?_
      refine ax_j (ax_iconst hV (1 : Int32) dX10_lose_20 (by decide)) ?_
      refine ax_jb (fun v ho => ax_cVi hV lk_X10_143 rfl dX10_lose_21 rfl rfl [.int (1 : Int32)] [] (fun ad => [.ref (ad 0), .int (1 : Int32)]) rfl rfl rfl rfl v.1 v.2 (T_X10_meets (1 : Int32) s v ho)) (fun q21 => ?_)
      exact ax_jl (fun h => ax_ir hV rfl dX10_lose_24 (hP (q21.1, q21.2) h))
    · refine ax_j (ax_aload_n hV dX10_lose_25 rfl) ?_
      refine ax_j (ax_gfr hV lf_X10_78 dX10_lose_26 rfl rfl) ?_
      refine ax_j (ax_iload_n hV dX10_lose_29 rfl) ?_
      refine ax_j (ax_iconst hV (0 : Int32) dX10_lose_30 (by decide)) ?_
      refine ax_jb (ax_bast hV dX10_lose_31) (fun s31 => ?_)
      refine ax_j (ax_aload_n hV dX10_lose_32 rfl) ?_
      refine ax_j (ax_gfr hV lf_X10_85 dX10_lose_33 rfl rfl) ?_
      refine ax_j (ax_iload_n hV dX10_lose_36 rfl) ?_
      refine ax_jb (ax_iald hV dX10_lose_37) (fun v37 => ?_)
      exact ax_jl (fun h => ax_ir hV rfl dX10_lose_38 (hP (v37, s31) h))
def mu_X10_lacks : ax_Mu := (yX10_lacks, cX10_lacks, 4, some .int, 1, 22)
theorem lc_X10_lacks : Cond.code mu_X10_lacks.1 mu_X10_lacks.2.1 mu_X10_lacks.2.2.1 mu_X10_lacks.2.2.2.1 ∈ ax_tb := (ax_m6 142 rfl rfl)
noncomputable def f_X10_lacks (p1 : Int32) (p2 : Int32) (p3 : Int32) (s : ax_S) : Option (Int32) := (ax_ab cx_R s 22 p1).bind (fun v5 => (if v5 = 0 then some ((1 : Int32)) else (ax_ai cx_R s 23 p1).bind (fun v18 => (if v18 = p2 then (ax_ai cx_R s 24 p1).bind (fun v34 => (f_X10_in p3 (0 : Int32) (v34 - (1 : Int32))).bind (fun q37 => (if q37 = 0 then some ((2 : Int32)) else some ((0 : Int32))))) else some ((3 : Int32))))))
theorem T_X10_lacks (p1 : Int32) (p2 : Int32) (p3 : Int32) (s : ax_S) (r : Int32) (h : f_X10_lacks p1 p2 p3 s = some r) : ax_M cx_R mu_X10_lacks (fun ad => [.ref (ad 0), .int p1, .int p2, .int p3]) s (some (.int r)) s := by
  refine ax_enter (by decide +kernel) 0 (fun ad => [some (.ref (ad 0)), some (.int p1), some (.int p2), some (.int p3)]) (fun ad => rfl) (fun ad => Nat.le_of_ble_eq_true rfl) (fun X hV ho => ?_)
  refine ax_go (fun r : Int32 => (some (Value.int r), s)) (fun P hP => ?_) h ho
  unfold f_X10_lacks
  refine ax_j (ax_aload_n hV dX10_lacks_0 rfl) ?_
  refine ax_j (ax_gfr hV lf_X10_78 dX10_lacks_1 rfl rfl) ?_
  refine ax_j (ax_iload_n hV dX10_lacks_4 rfl) ?_
  refine ax_jb (ax_bald hV dX10_lacks_5) (fun v5 => ?_)
  refine ax_jif (ax_if_ne hV dX10_lacks_6) ?_ ?_
  · refine ax_j (ax_iconst hV (1 : Int32) dX10_lacks_9 (by decide)) ?_
    refine ax_j (ax_goto hV dX10_lacks_10) ?_
    exact ax_jl (fun h => ax_ir hV rfl dX10_lacks_48 (hP (1 : Int32) h))
  · refine ax_j (ax_aload_n hV dX10_lacks_13 rfl) ?_
    refine ax_j (ax_gfr hV lf_X10_82 dX10_lacks_14 rfl rfl) ?_
    refine ax_j (ax_iload_n hV dX10_lacks_17 rfl) ?_
    refine ax_jb (ax_iald hV dX10_lacks_18) (fun v18 => ?_)
    refine ax_j (ax_iload_n hV dX10_lacks_19 rfl) ?_
    refine ax_jif (ax_icmp_eq hV dX10_lacks_20) ?_ ?_
    · refine ax_j (ax_iload_n hV dX10_lacks_27 rfl) ?_
      refine ax_j (ax_iconst hV (0 : Int32) dX10_lacks_28 (by decide)) ?_
      refine ax_j (ax_aload_n hV dX10_lacks_29 rfl) ?_
      refine ax_j (ax_gfr hV lf_X10_85 dX10_lacks_30 rfl rfl) ?_
      refine ax_j (ax_iload_n hV dX10_lacks_33 rfl) ?_
      refine ax_jb (ax_iald hV dX10_lacks_34) (fun v34 => ?_)
      refine ax_j (ax_iconst hV (1 : Int32) dX10_lacks_35 (by decide)) ?_
      refine ax_j (ax_isub hV dX10_lacks_36) ?_
      refine ax_jb (fun v ho => ax_cSi hV lk_X10_97 rfl dX10_lacks_37 [.int p3, .int (0 : Int32), .int (v34 - (1 : Int32))] [] (fun ad => [.int p3, .int (0 : Int32), .int (v34 - (1 : Int32))]) rfl rfl rfl rfl v s (T_X10_in p3 (0 : Int32) (v34 - (1 : Int32)) s v ho)) (fun q37 => ?_)
      refine ax_jif (ax_if_eq hV dX10_lacks_40) ?_ ?_
      · refine ax_j (ax_iconst hV (2 : Int32) dX10_lacks_47 (by decide)) ?_
        exact ax_jl (fun h => ax_ir hV rfl dX10_lacks_48 (hP (2 : Int32) h))
      · refine ax_j (ax_iconst hV (0 : Int32) dX10_lacks_43 (by decide)) ?_
        refine ax_j (ax_goto hV dX10_lacks_44) ?_
        exact ax_jl (fun h => ax_ir hV rfl dX10_lacks_48 (hP (0 : Int32) h))
    · refine ax_j (ax_iconst hV (3 : Int32) dX10_lacks_23 (by decide)) ?_
      refine ax_j (ax_goto hV dX10_lacks_24) ?_
      exact ax_jl (fun h => ax_ir hV rfl dX10_lacks_48 (hP (3 : Int32) h))
theorem lk_X10_300 : ax_lkV RX10 300 mu_X10_lacks RX10 3 := ax_lkV_of (ax_m6 139 rfl rfl) (ax_m6 141 rfl rfl) (ax_mp5 8 rfl rfl rfl) (ax_m1 10 rfl rfl) lc_X10_lacks rfl ⟨by decide +kernel, by decide +kernel, by decide +kernel⟩

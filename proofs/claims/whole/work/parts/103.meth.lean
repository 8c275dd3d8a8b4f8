def mu_X7_isKnown : ax_Mu := (yX7_isKnown, cX7_isKnown, 3, some .boolean, 0, 0)
theorem lc_X7_isKnown : Cond.code mu_X7_isKnown.1 mu_X7_isKnown.2.1 mu_X7_isKnown.2.2.1 mu_X7_isKnown.2.2.2.1 ∈ ax_tb := (ax_m2 158 rfl rfl)
noncomputable def f_X7_isKnown (p1 : Int32) (p2 : Int32) (s : ax_S) : Option (Int32) := (ax_ai cx_C s 24 p1).bind (fun v5 => (if p2 < v5 then some ((0 : Int32)) else (ax_ai cx_C s 25 p1).bind (fun v15 => (if v15 = (-1 : Int32) then some ((1 : Int32)) else (ax_ai cx_C s 25 p1).bind (fun v25 => (if v25 ≤ p2 then some ((0 : Int32)) else some ((1 : Int32))))))))
theorem T_X7_isKnown (p1 : Int32) (p2 : Int32) (s : ax_S) (r : Int32) (h : f_X7_isKnown p1 p2 s = some r) : ax_M cx_C mu_X7_isKnown (fun ad => [.ref (ad 2), .int p1, .int p2]) s (some (.int r)) s := by
  refine ax_enter (by decide +kernel) 0 (fun ad => [some (.ref (ad 2)), some (.int p1), some (.int p2)]) (fun ad => rfl) (fun ad => Nat.le_of_ble_eq_true rfl) (fun X hV ho => ?_)
  refine ax_go (fun r : Int32 => (some (Value.int r), s)) (fun P hP => ?_) h ho
  unfold f_X7_isKnown
  refine ax_j (ax_aload_n hV dX7_isKnown_0 rfl) ?_
  refine ax_j (ax_gfr hV lf_X7_27 dX7_isKnown_1 rfl rfl) ?_
  refine ax_j (ax_iload_n hV dX7_isKnown_4 rfl) ?_
  refine ax_jb (ax_iald hV dX7_isKnown_5) (fun v5 => ?_)
  refine ax_j (ax_iload_n hV dX7_isKnown_6 rfl) ?_
  refine ax_jif (ax_icmp_gt hV dX7_isKnown_7) ?_ ?_
  · refine ax_j (ax_iconst hV (0 : Int32) dX7_isKnown_34 (by decide)) ?_
    exact ax_jl (fun h => ax_zr hV rfl (by decide) dX7_isKnown_35 (hP (0 : Int32) h))
  · refine ax_j (ax_aload_n hV dX7_isKnown_10 rfl) ?_
    refine ax_j (ax_gfr hV lf_X7_30 dX7_isKnown_11 rfl rfl) ?_
    refine ax_j (ax_iload_n hV dX7_isKnown_14 rfl) ?_
    refine ax_jb (ax_iald hV dX7_isKnown_15) (fun v15 => ?_)
    refine ax_j (ax_iconst hV (-1 : Int32) dX7_isKnown_16 (by decide)) ?_
    refine ax_jif (ax_icmp_eq hV dX7_isKnown_17) ?_ ?_
    · refine ax_j (ax_iconst hV (1 : Int32) dX7_isKnown_30 (by decide)) ?_
      refine ax_j (ax_goto hV dX7_isKnown_31) ?_
      exact ax_jl (fun h => ax_zr hV rfl (by decide) dX7_isKnown_35 (hP (1 : Int32) h))
    · refine ax_j (ax_aload_n hV dX7_isKnown_20 rfl) ?_
      refine ax_j (ax_gfr hV lf_X7_30 dX7_isKnown_21 rfl rfl) ?_
      refine ax_j (ax_iload_n hV dX7_isKnown_24 rfl) ?_
      refine ax_jb (ax_iald hV dX7_isKnown_25) (fun v25 => ?_)
      refine ax_j (ax_iload_n hV dX7_isKnown_26 rfl) ?_
      refine ax_jif (ax_icmp_le hV dX7_isKnown_27) ?_ ?_
      · refine ax_j (ax_iconst hV (0 : Int32) dX7_isKnown_34 (by decide)) ?_
        exact ax_jl (fun h => ax_zr hV rfl (by decide) dX7_isKnown_35 (hP (0 : Int32) h))
      · refine ax_j (ax_iconst hV (1 : Int32) dX7_isKnown_30 (by decide)) ?_
        refine ax_j (ax_goto hV dX7_isKnown_31) ?_
        exact ax_jl (fun h => ax_zr hV rfl (by decide) dX7_isKnown_35 (hP (1 : Int32) h))
theorem lk_X7_37 : ax_lkV RX7 37 mu_X7_isKnown RX7 2 := ax_lkV_of (ax_m2 178 rfl rfl) (ax_m2 156 rfl rfl) (ax_m2 157 rfl rfl) (ax_m1 3 rfl rfl) lc_X7_isKnown rfl ⟨by decide +kernel, by decide +kernel, by decide +kernel⟩
theorem lk_X9_152 : ax_lkV RX9 152 mu_X7_isKnown RX7 2 := ax_lkV_of (ax_m2 155 rfl rfl) (ax_m2 156 rfl rfl) (ax_m2 157 rfl rfl) (ax_m1 3 rfl rfl) lc_X7_isKnown rfl ⟨by decide +kernel, by decide +kernel, by decide +kernel⟩
def mu_X7_knownAsOf : ax_Mu := (yX7_knownAsOf, cX7_knownAsOf, 5, some .long, 1, 22)
theorem lc_X7_knownAsOf : Cond.code mu_X7_knownAsOf.1 mu_X7_knownAsOf.2.1 mu_X7_knownAsOf.2.2.1 mu_X7_knownAsOf.2.2.2.1 ∈ ax_tb := (ax_m2 177 rfl rfl)
noncomputable def b_X7_knownAsOf_5 (l1 : Int32) (s : ax_S) (a : Int64 × Int32) : Option ((Int64 × Int32) ⊕ (Int64)) := (if (s.1 2 7) ≤ a.2 then some (.inr a.1) else (f_X7_isKnown a.2 l1 s).bind (fun q18 => (if q18 = 0 then some (.inl (a.1, (a.2 + 1))) else some (.inl ((a.1 ||| (ax_lshl (1 : Int64) a.2)), (a.2 + 1))))))
noncomputable def f_X7_knownAsOf (p1 : Int32) (s : ax_S) : Option (Int64) := (ax_lp (b_X7_knownAsOf_5 p1 s) ((0 : Int64), (0 : Int32))).bind (fun e5 => some (e5))
theorem B_X7_knownAsOf_5 (X : ax_G × ax_K × Option Value × ax_S) (hV : ax_ok (cx_C, X) mu_X7_knownAsOf) (l1 : Int32) (s : ax_S) (P : ((Int64 × Int32) ⊕ (Int64)) → Prop) (hI : ∀ a : Int64 × Int32, P (.inl a) → ax_At (cx_C, X) 5 [some (.ref (ax_ad (cx_C, X) 2)), some (.int l1), some (.long a.1), none, some (.int a.2)] [] s) (hO : ∀ e : Int64, P (.inr e) → ax_At (cx_C, X) 37 [none, none, some (.long e), none, none] [] s) (a : Int64 × Int32) : ax_J (cx_C, X) P 5 [some (.ref (ax_ad (cx_C, X) 2)), some (.int l1), some (.long a.1), none, some (.int a.2)] [] s (b_X7_knownAsOf_5 l1 s a) := by
  unfold b_X7_knownAsOf_5
  refine ax_j (ax_iload hV dX7_knownAsOf_5 rfl) ?_
  refine ax_j (ax_aload_n hV dX7_knownAsOf_7 rfl) ?_
  refine ax_j (ax_gfi hV lf_X7_33 dX7_knownAsOf_8 rfl rfl) ?_
  refine ax_jif (ax_icmp_ge hV dX7_knownAsOf_11) ?_ ?_
  · refine ax_jf (lv' := [none, none, some (.long a.1), none, none]) [false, false, true, false, false] rfl ?_
    exact ax_jl (fun h => hO a.1 h)
  · refine ax_j (ax_aload_n hV dX7_knownAsOf_14 rfl) ?_
    refine ax_j (ax_iload hV dX7_knownAsOf_15 rfl) ?_
    refine ax_j (ax_iload_n hV dX7_knownAsOf_17 rfl) ?_
    refine ax_jb (fun v ho => ax_cVi hV lk_X7_37 rfl dX7_knownAsOf_18 rfl rfl [.int a.2, .int l1] [] (fun ad => [.ref (ad 2), .int a.2, .int l1]) rfl rfl rfl rfl v s (T_X7_isKnown a.2 l1 s v ho)) (fun q18 => ?_)
    refine ax_jif (ax_if_eq hV dX7_knownAsOf_21) ?_ ?_
    · refine ax_j (ax_iinc hV (a.2 + 1) [some (.ref (ax_ad (cx_C, X) 2)), some (.int l1), some (.long a.1), none, some (.int (a.2 + 1))] dX7_knownAsOf_31 rfl rfl rfl rfl) ?_
      refine ax_j (ax_goto hV dX7_knownAsOf_34) ?_
      exact ax_jl (fun h => hI (a.1, (a.2 + 1)) h)
    · refine ax_j (ax_lload_n hV dX7_knownAsOf_24 rfl) ?_
      refine ax_j (ax_lconst hV (1 : Int64) dX7_knownAsOf_25 (by decide)) ?_
      refine ax_j (ax_iload hV dX7_knownAsOf_26 rfl) ?_
      refine ax_j (ax_lshl_ hV dX7_knownAsOf_28) ?_
      refine ax_j (ax_lor hV dX7_knownAsOf_29) ?_
      refine ax_j (ax_lstore_n hV [some (.ref (ax_ad (cx_C, X) 2)), some (.int l1), some (.long (a.1 ||| (ax_lshl (1 : Int64) a.2))), none, some (.int a.2)] dX7_knownAsOf_30 rfl rfl) ?_
      refine ax_j (ax_iinc hV (a.2 + 1) [some (.ref (ax_ad (cx_C, X) 2)), some (.int l1), some (.long (a.1 ||| (ax_lshl (1 : Int64) a.2))), none, some (.int (a.2 + 1))] dX7_knownAsOf_31 rfl rfl rfl rfl) ?_
      refine ax_j (ax_goto hV dX7_knownAsOf_34) ?_
      exact ax_jl (fun h => hI ((a.1 ||| (ax_lshl (1 : Int64) a.2)), (a.2 + 1)) h)
theorem T_X7_knownAsOf (p1 : Int32) (s : ax_S) (r : Int64) (h : f_X7_knownAsOf p1 s = some r) : ax_M cx_C mu_X7_knownAsOf (fun ad => [.ref (ad 2), .int p1]) s (some (.long r)) s := by
  refine ax_enter (by decide +kernel) 3 (fun ad => [some (.ref (ad 2)), some (.int p1), none, none, none]) (fun ad => rfl) (fun ad => Nat.le_of_ble_eq_true rfl) (fun X hV ho => ?_)
  refine ax_go (fun r : Int64 => (some (Value.long r), s)) (fun P hP => ?_) h ho
  unfold f_X7_knownAsOf
  refine ax_j (ax_lconst hV (0 : Int64) dX7_knownAsOf_0 (by decide)) ?_
  refine ax_j (ax_lstore_n hV [some (.ref (ax_ad (cx_C, X) 2)), some (.int p1), some (.long (0 : Int64)), none, none] dX7_knownAsOf_1 rfl rfl) ?_
  refine ax_j (ax_iconst hV (0 : Int32) dX7_knownAsOf_2 (by decide)) ?_
  refine ax_j (ax_istore hV [some (.ref (ax_ad (cx_C, X) 2)), some (.int p1), some (.long (0 : Int64)), none, some (.int (0 : Int32))] dX7_knownAsOf_3 rfl rfl) ?_
  refine ax_jlp ((0 : Int64), (0 : Int32)) (fun x5 : Int64 × Int32 => [some (.ref (ax_ad (cx_C, X) 2)), some (.int p1), some (.long x5.1), none, some (.int x5.2)]) (fun x5 : Int64 × Int32 => s) (fun y5 : Int64 => [none, none, some (.long y5), none, none]) (fun y5 : Int64 => s) (fun P' h1 h2 w => B_X7_knownAsOf_5 X hV p1 s P' h1 h2 w) (fun e5 => ?_)
  refine ax_j (ax_lload_n hV dX7_knownAsOf_37 rfl) ?_
  exact ax_jl (fun h => ax_lr hV rfl dX7_knownAsOf_38 (hP e5 h))
theorem lk_X9_197 : ax_lkV RX9 197 mu_X7_knownAsOf RX7 1 := ax_lkV_of (ax_m2 174 rfl rfl) (ax_m2 175 rfl rfl) (ax_m2 176 rfl rfl) (ax_m1 3 rfl rfl) lc_X7_knownAsOf rfl ⟨by decide +kernel, by decide +kernel, by decide +kernel⟩
def mu_X7_howManyOn : ax_Mu := (yX7_howManyOn, cX7_howManyOn, 5, some .int, 0, 0)
theorem lc_X7_howManyOn : Cond.code mu_X7_howManyOn.1 mu_X7_howManyOn.2.1 mu_X7_howManyOn.2.2.1 mu_X7_howManyOn.2.2.2.1 ∈ ax_tb := (ax_m4 145 rfl rfl)
noncomputable def b_X7_howManyOn_5 (l1 : Int64) (s : ax_S) (a : Int32 × Int32) : Option ((Int32 × Int32) ⊕ (Int32)) := (if (s.1 2 7) ≤ a.2 then some (.inr a.1) else (if (lg_cmp ((ax_lushr l1 a.2) &&& (1 : Int64)) (0 : Int64)) = 0 then some (.inl (a.1, (a.2 + 1))) else (ax_ai cx_C s 21 a.2).bind (fun v31 => (if v31 = (-1 : Int32) then some (.inl ((a.1 + 1), (a.2 + 1))) else some (.inl (a.1, (a.2 + 1)))))))
noncomputable def f_X7_howManyOn (p1 : Int64) (s : ax_S) : Option (Int32) := (ax_lp (b_X7_howManyOn_5 p1 s) ((0 : Int32), (0 : Int32))).bind (fun e5 => some (e5))
theorem B_X7_howManyOn_5 (X : ax_G × ax_K × Option Value × ax_S) (hV : ax_ok (cx_C, X) mu_X7_howManyOn) (l1 : Int64) (s : ax_S) (P : ((Int32 × Int32) ⊕ (Int32)) → Prop) (hI : ∀ a : Int32 × Int32, P (.inl a) → ax_At (cx_C, X) 5 [some (.ref (ax_ad (cx_C, X) 2)), some (.long l1), none, some (.int a.1), some (.int a.2)] [] s) (hO : ∀ e : Int32, P (.inr e) → ax_At (cx_C, X) 45 [none, none, none, some (.int e), none] [] s) (a : Int32 × Int32) : ax_J (cx_C, X) P 5 [some (.ref (ax_ad (cx_C, X) 2)), some (.long l1), none, some (.int a.1), some (.int a.2)] [] s (b_X7_howManyOn_5 l1 s a) := by
  unfold b_X7_howManyOn_5
  refine ax_j (ax_iload hV dX7_howManyOn_5 rfl) ?_
  refine ax_j (ax_aload_n hV dX7_howManyOn_7 rfl) ?_
  refine ax_j (ax_gfi hV lf_X7_33 dX7_howManyOn_8 rfl rfl) ?_
  refine ax_jif (ax_icmp_ge hV dX7_howManyOn_11) ?_ ?_
  · refine ax_jf (lv' := [none, none, none, some (.int a.1), none]) [false, false, false, true, false] rfl ?_
    exact ax_jl (fun h => hO a.1 h)
  · refine ax_j (ax_lload_n hV dX7_howManyOn_14 rfl) ?_
    refine ax_j (ax_iload hV dX7_howManyOn_15 rfl) ?_
    refine ax_j (ax_lushr_ hV dX7_howManyOn_17) ?_
    refine ax_j (ax_lconst hV (1 : Int64) dX7_howManyOn_18 (by decide)) ?_
    refine ax_j (ax_land hV dX7_howManyOn_19) ?_
    refine ax_j (ax_lconst hV (0 : Int64) dX7_howManyOn_20 (by decide)) ?_
    refine ax_j (ax_lcmp hV dX7_howManyOn_21) ?_
    refine ax_jif (ax_if_eq hV dX7_howManyOn_22) ?_ ?_
    · refine ax_j (ax_iinc hV (a.2 + 1) [some (.ref (ax_ad (cx_C, X) 2)), some (.long l1), none, some (.int a.1), some (.int (a.2 + 1))] dX7_howManyOn_39 rfl rfl rfl rfl) ?_
      refine ax_j (ax_goto hV dX7_howManyOn_42) ?_
      exact ax_jl (fun h => hI (a.1, (a.2 + 1)) h)
    · refine ax_j (ax_aload_n hV dX7_howManyOn_25 rfl) ?_
      refine ax_j (ax_gfr hV lf_X7_18 dX7_howManyOn_26 rfl rfl) ?_
      refine ax_j (ax_iload hV dX7_howManyOn_29 rfl) ?_
      refine ax_jb (ax_iald hV dX7_howManyOn_31) (fun v31 => ?_)
      refine ax_j (ax_iconst hV (-1 : Int32) dX7_howManyOn_32 (by decide)) ?_
      refine ax_jif (ax_icmp_ne hV dX7_howManyOn_33) ?_ ?_
      · refine ax_j (ax_iinc hV (a.1 + 1) [some (.ref (ax_ad (cx_C, X) 2)), some (.long l1), none, some (.int (a.1 + 1)), some (.int a.2)] dX7_howManyOn_36 rfl rfl rfl rfl) ?_
        refine ax_j (ax_iinc hV (a.2 + 1) [some (.ref (ax_ad (cx_C, X) 2)), some (.long l1), none, some (.int (a.1 + 1)), some (.int (a.2 + 1))] dX7_howManyOn_39 rfl rfl rfl rfl) ?_
        refine ax_j (ax_goto hV dX7_howManyOn_42) ?_
        exact ax_jl (fun h => hI ((a.1 + 1), (a.2 + 1)) h)
      · refine ax_j (ax_iinc hV (a.2 + 1) [some (.ref (ax_ad (cx_C, X) 2)), some (.long l1), none, some (.int a.1), some (.int (a.2 + 1))] dX7_howManyOn_39 rfl rfl rfl rfl) ?_
        refine ax_j (ax_goto hV dX7_howManyOn_42) ?_
        exact ax_jl (fun h => hI (a.1, (a.2 + 1)) h)
theorem T_X7_howManyOn (p1 : Int64) (s : ax_S) (r : Int32) (h : f_X7_howManyOn p1 s = some r) : ax_M cx_C mu_X7_howManyOn (fun ad => [.ref (ad 2), .long p1]) s (some (.int r)) s := by
  refine ax_enter (by decide +kernel) 2 (fun ad => [some (.ref (ad 2)), some (.long p1), none, none, none]) (fun ad => rfl) (fun ad => Nat.le_of_ble_eq_true rfl) (fun X hV ho => ?_)
  refine ax_go (fun r : Int32 => (some (Value.int r), s)) (fun P hP => ?_) h ho
  unfold f_X7_howManyOn
  refine ax_j (ax_iconst hV (0 : Int32) dX7_howManyOn_0 (by decide)) ?_
  refine ax_j (ax_istore_n hV [some (.ref (ax_ad (cx_C, X) 2)), some (.long p1), none, some (.int (0 : Int32)), none] dX7_howManyOn_1 rfl rfl) ?_
  refine ax_j (ax_iconst hV (0 : Int32) dX7_howManyOn_2 (by decide)) ?_
  refine ax_j (ax_istore hV [some (.ref (ax_ad (cx_C, X) 2)), some (.long p1), none, some (.int (0 : Int32)), some (.int (0 : Int32))] dX7_howManyOn_3 rfl rfl) ?_
  refine ax_jlp ((0 : Int32), (0 : Int32)) (fun x5 : Int32 × Int32 => [some (.ref (ax_ad (cx_C, X) 2)), some (.long p1), none, some (.int x5.1), some (.int x5.2)]) (fun x5 : Int32 × Int32 => s) (fun y5 : Int32 => [none, none, none, some (.int y5), none]) (fun y5 : Int32 => s) (fun P' h1 h2 w => B_X7_howManyOn_5 X hV p1 s P' h1 h2 w) (fun e5 => ?_)
  refine ax_j (ax_iload_n hV dX7_howManyOn_45 rfl) ?_
  exact ax_jl (fun h => ax_ir hV rfl dX7_howManyOn_46 (hP e5 h))
theorem lk_X9_339 : ax_lkV RX9 339 mu_X7_howManyOn RX7 1 := ax_lkV_of (ax_m4 142 rfl rfl) (ax_m4 143 rfl rfl) (ax_m4 144 rfl rfl) (ax_m1 3 rfl rfl) lc_X7_howManyOn rfl ⟨by decide +kernel, by decide +kernel, by decide +kernel⟩
def mu_X7_nearer : ax_Mu := (yX7_nearer, cX7_nearer, 4, some .int, 0, 0)
theorem lc_X7_nearer : Cond.code mu_X7_nearer.1 mu_X7_nearer.2.1 mu_X7_nearer.2.2.1 mu_X7_nearer.2.2.2.1 ∈ ax_tb := (ax_m3 49 rfl rfl)
noncomputable def j_X7_nearer_20 (l0 : Int32) (l1 : Int32) (k0 : Int32) : Option (Int32) := (if k0 = 0 then some (l0) else some (l1))
noncomputable def j_X7_nearer_19 (l0 : Int32) (l1 : Int32) : Option (Int32) := j_X7_nearer_20 l0 l1 (0 : Int32)
noncomputable def j_X7_nearer_15 (l0 : Int32) (l1 : Int32) : Option (Int32) := j_X7_nearer_20 l0 l1 (1 : Int32)
noncomputable def f_X7_nearer (p1 : Int32) (p2 : Int32) (p3 : Int32) : Option (Int32) := (if p2 ≤ p3 then j_X7_nearer_19 p1 p2 else (if p1 = (-1 : Int32) then j_X7_nearer_15 p1 p2 else (if p1 ≤ p2 then j_X7_nearer_19 p1 p2 else j_X7_nearer_15 p1 p2)))
theorem N_X7_nearer_20 (X : ax_G × ax_K × Option Value × ax_S) (hV : ax_ok (cx_C, X) mu_X7_nearer) (s : ax_S) (P : (Int32) → Prop) (hP : ∀ r : Int32, P r → X.2.2 = (fun r : Int32 => (some (Value.int r), s)) r) (l0 : Int32) (l1 : Int32) (k0 : Int32) : ax_J (cx_C, X) P 20 [some (.int l0), some (.int l1), none, none] [.int k0] s (j_X7_nearer_20 l0 l1 k0) := by
  unfold j_X7_nearer_20
  refine ax_j (ax_istore_n hV [some (.int l0), some (.int l1), none, some (.int k0)] dX7_nearer_20 rfl rfl) ?_
  refine ax_j (ax_iload_n hV dX7_nearer_21 rfl) ?_
  refine ax_jif (ax_if_eq hV dX7_nearer_22) ?_ ?_
  · refine ax_j (ax_iload_n hV dX7_nearer_29 rfl) ?_
    exact ax_jl (fun h => ax_ir hV rfl dX7_nearer_30 (hP l0 h))
  · refine ax_j (ax_iload_n hV dX7_nearer_25 rfl) ?_
    refine ax_j (ax_goto hV dX7_nearer_26) ?_
    exact ax_jl (fun h => ax_ir hV rfl dX7_nearer_30 (hP l1 h))
theorem N_X7_nearer_19 (X : ax_G × ax_K × Option Value × ax_S) (hV : ax_ok (cx_C, X) mu_X7_nearer) (s : ax_S) (P : (Int32) → Prop) (hP : ∀ r : Int32, P r → X.2.2 = (fun r : Int32 => (some (Value.int r), s)) r) (l0 : Int32) (l1 : Int32) : ax_J (cx_C, X) P 19 [some (.int l0), some (.int l1), none, none] [] s (j_X7_nearer_19 l0 l1) := by
  unfold j_X7_nearer_19
  refine ax_j (ax_iconst hV (0 : Int32) dX7_nearer_19 (by decide)) ?_
  exact N_X7_nearer_20 X hV s P hP l0 l1 (0 : Int32)
theorem N_X7_nearer_15 (X : ax_G × ax_K × Option Value × ax_S) (hV : ax_ok (cx_C, X) mu_X7_nearer) (s : ax_S) (P : (Int32) → Prop) (hP : ∀ r : Int32, P r → X.2.2 = (fun r : Int32 => (some (Value.int r), s)) r) (l0 : Int32) (l1 : Int32) : ax_J (cx_C, X) P 15 [some (.int l0), some (.int l1), none, none] [] s (j_X7_nearer_15 l0 l1) := by
  unfold j_X7_nearer_15
  refine ax_j (ax_iconst hV (1 : Int32) dX7_nearer_15 (by decide)) ?_
  refine ax_j (ax_goto hV dX7_nearer_16) ?_
  exact N_X7_nearer_20 X hV s P hP l0 l1 (1 : Int32)
theorem T_X7_nearer (p1 : Int32) (p2 : Int32) (p3 : Int32) (s : ax_S) (r : Int32) (h : f_X7_nearer p1 p2 p3 = some r) : ax_M cx_C mu_X7_nearer (fun ad => [.int p1, .int p2, .int p3]) s (some (.int r)) s := by
  refine ax_enter (by decide +kernel) 1 (fun ad => [some (.int p1), some (.int p2), some (.int p3), none]) (fun ad => rfl) (fun ad => Nat.le_of_ble_eq_true rfl) (fun X hV ho => ?_)
  refine ax_go (fun r : Int32 => (some (Value.int r), s)) (fun P hP => ?_) h ho
  unfold f_X7_nearer
  refine ax_j (ax_iload_n hV dX7_nearer_0 rfl) ?_
  refine ax_j (ax_iload_n hV dX7_nearer_1 rfl) ?_
  refine ax_jif (ax_icmp_le hV dX7_nearer_2) ?_ ?_
  · refine ax_jf (lv' := [some (.int p1), some (.int p2), none, none]) [true, true, false, false] rfl ?_
    exact N_X7_nearer_19 X hV s P hP p1 p2
  · refine ax_j (ax_iload_n hV dX7_nearer_5 rfl) ?_
    refine ax_j (ax_iconst hV (-1 : Int32) dX7_nearer_6 (by decide)) ?_
    refine ax_jif (ax_icmp_eq hV dX7_nearer_7) ?_ ?_
    · refine ax_jf (lv' := [some (.int p1), some (.int p2), none, none]) [true, true, false, false] rfl ?_
      exact N_X7_nearer_15 X hV s P hP p1 p2
    · refine ax_j (ax_iload_n hV dX7_nearer_10 rfl) ?_
      refine ax_j (ax_iload_n hV dX7_nearer_11 rfl) ?_
      refine ax_jif (ax_icmp_ge hV dX7_nearer_12) ?_ ?_
      · refine ax_jf (lv' := [some (.int p1), some (.int p2), none, none]) [true, true, false, false] rfl ?_
        exact N_X7_nearer_19 X hV s P hP p1 p2
      · refine ax_jf (lv' := [some (.int p1), some (.int p2), none, none]) [true, true, false, false] rfl ?_
        exact N_X7_nearer_15 X hV s P hP p1 p2
theorem lk_X7_41 : ax_lkS RX7 41 mu_X7_nearer 3 := ax_lkS_of (ax_m3 47 rfl rfl) (ax_m3 48 rfl rfl) (ax_m1 3 rfl rfl) lc_X7_nearer ⟨by decide +kernel, by decide +kernel, by decide +kernel⟩
def mu_X7_nextDayOfNews : ax_Mu := (yX7_nextDayOfNews, cX7_nextDayOfNews, 4, some .int, 1, 23)
theorem lc_X7_nextDayOfNews : Cond.code mu_X7_nextDayOfNews.1 mu_X7_nextDayOfNews.2.1 mu_X7_nextDayOfNews.2.2.1 mu_X7_nextDayOfNews.2.2.2.1 ∈ ax_tb := (ax_m3 46 rfl rfl)
noncomputable def b_X7_nextDayOfNews_4 (l1 : Int32) (s : ax_S) (a : Int32 × Int32) : Option ((Int32 × Int32) ⊕ (Int32)) := (if (s.1 2 7) ≤ a.2 then some (.inr a.1) else (ax_ai cx_C s 24 a.2).bind (fun v18 => (f_X7_nearer a.1 v18 l1).bind (fun q20 => (ax_ai cx_C s 25 a.2).bind (fun v30 => (f_X7_nearer q20 v30 l1).bind (fun q32 => some (.inl (q32, (a.2 + 1))))))))
noncomputable def f_X7_nextDayOfNews (p1 : Int32) (s : ax_S) : Option (Int32) := (ax_lp (b_X7_nextDayOfNews_4 p1 s) ((-1 : Int32), (0 : Int32))).bind (fun e4 => some (e4))
theorem B_X7_nextDayOfNews_4 (X : ax_G × ax_K × Option Value × ax_S) (hV : ax_ok (cx_C, X) mu_X7_nextDayOfNews) (l1 : Int32) (s : ax_S) (P : ((Int32 × Int32) ⊕ (Int32)) → Prop) (hI : ∀ a : Int32 × Int32, P (.inl a) → ax_At (cx_C, X) 4 [some (.ref (ax_ad (cx_C, X) 2)), some (.int l1), some (.int a.1), some (.int a.2)] [] s) (hO : ∀ e : Int32, P (.inr e) → ax_At (cx_C, X) 42 [none, none, some (.int e), none] [] s) (a : Int32 × Int32) : ax_J (cx_C, X) P 4 [some (.ref (ax_ad (cx_C, X) 2)), some (.int l1), some (.int a.1), some (.int a.2)] [] s (b_X7_nextDayOfNews_4 l1 s a) := by
  unfold b_X7_nextDayOfNews_4
  refine ax_j (ax_iload_n hV dX7_nextDayOfNews_4 rfl) ?_
  refine ax_j (ax_aload_n hV dX7_nextDayOfNews_5 rfl) ?_
  refine ax_j (ax_gfi hV lf_X7_33 dX7_nextDayOfNews_6 rfl rfl) ?_
  refine ax_jif (ax_icmp_ge hV dX7_nextDayOfNews_9) ?_ ?_
  · refine ax_jf (lv' := [none, none, some (.int a.1), none]) [false, false, true, false] rfl ?_
    exact ax_jl (fun h => hO a.1 h)
  · refine ax_j (ax_iload_n hV dX7_nextDayOfNews_12 rfl) ?_
    refine ax_j (ax_aload_n hV dX7_nextDayOfNews_13 rfl) ?_
    refine ax_j (ax_gfr hV lf_X7_27 dX7_nextDayOfNews_14 rfl rfl) ?_
    refine ax_j (ax_iload_n hV dX7_nextDayOfNews_17 rfl) ?_
    refine ax_jb (ax_iald hV dX7_nextDayOfNews_18) (fun v18 => ?_)
    refine ax_j (ax_iload_n hV dX7_nextDayOfNews_19 rfl) ?_
    refine ax_jb (fun v ho => ax_cSi hV lk_X7_41 rfl dX7_nextDayOfNews_20 [.int a.1, .int v18, .int l1] [] (fun ad => [.int a.1, .int v18, .int l1]) rfl rfl rfl rfl v s (T_X7_nearer a.1 v18 l1 s v ho)) (fun q20 => ?_)
    refine ax_j (ax_istore_n hV [some (.ref (ax_ad (cx_C, X) 2)), some (.int l1), some (.int q20), some (.int a.2)] dX7_nextDayOfNews_23 rfl rfl) ?_
    refine ax_j (ax_iload_n hV dX7_nextDayOfNews_24 rfl) ?_
    refine ax_j (ax_aload_n hV dX7_nextDayOfNews_25 rfl) ?_
    refine ax_j (ax_gfr hV lf_X7_30 dX7_nextDayOfNews_26 rfl rfl) ?_
    refine ax_j (ax_iload_n hV dX7_nextDayOfNews_29 rfl) ?_
    refine ax_jb (ax_iald hV dX7_nextDayOfNews_30) (fun v30 => ?_)
    refine ax_j (ax_iload_n hV dX7_nextDayOfNews_31 rfl) ?_
    refine ax_jb (fun v ho => ax_cSi hV lk_X7_41 rfl dX7_nextDayOfNews_32 [.int q20, .int v30, .int l1] [] (fun ad => [.int q20, .int v30, .int l1]) rfl rfl rfl rfl v s (T_X7_nearer q20 v30 l1 s v ho)) (fun q32 => ?_)
    refine ax_j (ax_istore_n hV [some (.ref (ax_ad (cx_C, X) 2)), some (.int l1), some (.int q32), some (.int a.2)] dX7_nextDayOfNews_35 rfl rfl) ?_
    refine ax_j (ax_iinc hV (a.2 + 1) [some (.ref (ax_ad (cx_C, X) 2)), some (.int l1), some (.int q32), some (.int (a.2 + 1))] dX7_nextDayOfNews_36 rfl rfl rfl rfl) ?_
    refine ax_j (ax_goto hV dX7_nextDayOfNews_39) ?_
    exact ax_jl (fun h => hI (q32, (a.2 + 1)) h)
theorem T_X7_nextDayOfNews (p1 : Int32) (s : ax_S) (r : Int32) (h : f_X7_nextDayOfNews p1 s = some r) : ax_M cx_C mu_X7_nextDayOfNews (fun ad => [.ref (ad 2), .int p1]) s (some (.int r)) s := by
  refine ax_enter (by decide +kernel) 2 (fun ad => [some (.ref (ad 2)), some (.int p1), none, none]) (fun ad => rfl) (fun ad => Nat.le_of_ble_eq_true rfl) (fun X hV ho => ?_)
  refine ax_go (fun r : Int32 => (some (Value.int r), s)) (fun P hP => ?_) h ho
  unfold f_X7_nextDayOfNews
  refine ax_j (ax_iconst hV (-1 : Int32) dX7_nextDayOfNews_0 (by decide)) ?_
  refine ax_j (ax_istore_n hV [some (.ref (ax_ad (cx_C, X) 2)), some (.int p1), some (.int (-1 : Int32)), none] dX7_nextDayOfNews_1 rfl rfl) ?_
  refine ax_j (ax_iconst hV (0 : Int32) dX7_nextDayOfNews_2 (by decide)) ?_
  refine ax_j (ax_istore_n hV [some (.ref (ax_ad (cx_C, X) 2)), some (.int p1), some (.int (-1 : Int32)), some (.int (0 : Int32))] dX7_nextDayOfNews_3 rfl rfl) ?_
  refine ax_jlp ((-1 : Int32), (0 : Int32)) (fun x4 : Int32 × Int32 => [some (.ref (ax_ad (cx_C, X) 2)), some (.int p1), some (.int x4.1), some (.int x4.2)]) (fun x4 : Int32 × Int32 => s) (fun y4 : Int32 => [none, none, some (.int y4), none]) (fun y4 : Int32 => s) (fun P' h1 h2 w => B_X7_nextDayOfNews_4 X hV p1 s P' h1 h2 w) (fun e4 => ?_)
  refine ax_j (ax_iload_n hV dX7_nextDayOfNews_42 rfl) ?_
  exact ax_jl (fun h => ax_ir hV rfl dX7_nextDayOfNews_43 (hP e4 h))
theorem lk_X9_205 : ax_lkV RX9 205 mu_X7_nextDayOfNews RX7 1 := ax_lkV_of (ax_m3 43 rfl rfl) (ax_m3 44 rfl rfl) (ax_m3 45 rfl rfl) (ax_m1 3 rfl rfl) lc_X7_nextDayOfNews rfl ⟨by decide +kernel, by decide +kernel, by decide +kernel⟩
def mu_X8_isLost : ax_Mu := (yX8_isLost, cX8_isLost, 2, some .boolean, 0, 0)
theorem lc_X8_isLost : Cond.code mu_X8_isLost.1 mu_X8_isLost.2.1 mu_X8_isLost.2.2.1 mu_X8_isLost.2.2.2.1 ∈ ax_tb := (ax_m2 123 rfl rfl)
noncomputable def f_X8_isLost (p1 : Int32) (s : ax_S) : Option (Int32) := (ax_ai cx_C s 37 p1).bind (fun v5 => (if v5 = (-1 : Int32) then some ((1 : Int32)) else some ((0 : Int32))))
theorem T_X8_isLost (p1 : Int32) (s : ax_S) (r : Int32) (h : f_X8_isLost p1 s = some r) : ax_M cx_C mu_X8_isLost (fun ad => [.ref (ad 8), .int p1]) s (some (.int r)) s := by
  refine ax_enter (by decide +kernel) 0 (fun ad => [some (.ref (ad 8)), some (.int p1)]) (fun ad => rfl) (fun ad => Nat.le_of_ble_eq_true rfl) (fun X hV ho => ?_)
  refine ax_go (fun r : Int32 => (some (Value.int r), s)) (fun P hP => ?_) h ho
  unfold f_X8_isLost
  refine ax_j (ax_aload_n hV dX8_isLost_0 rfl) ?_
  refine ax_j (ax_gfr hV lf_X8_9 dX8_isLost_1 rfl rfl) ?_
  refine ax_j (ax_iload_n hV dX8_isLost_4 rfl) ?_
  refine ax_jb (ax_iald hV dX8_isLost_5) (fun v5 => ?_)
  refine ax_j (ax_iconst hV (-1 : Int32) dX8_isLost_6 (by decide)) ?_
  refine ax_jif (ax_icmp_ne hV dX8_isLost_7) ?_ ?_
  · refine ax_j (ax_iconst hV (1 : Int32) dX8_isLost_10 (by decide)) ?_
    refine ax_j (ax_goto hV dX8_isLost_11) ?_
    exact ax_jl (fun h => ax_zr hV rfl (by decide) dX8_isLost_15 (hP (1 : Int32) h))
  · refine ax_j (ax_iconst hV (0 : Int32) dX8_isLost_14 (by decide)) ?_
    exact ax_jl (fun h => ax_zr hV rfl (by decide) dX8_isLost_15 (hP (0 : Int32) h))
theorem lk_X8_21 : ax_lkV RX8 21 mu_X8_isLost RX8 1 := ax_lkV_of (ax_m4 108 rfl rfl) (ax_m2 121 rfl rfl) (ax_m2 122 rfl rfl) (ax_m1 9 rfl rfl) lc_X8_isLost rfl ⟨by decide +kernel, by decide +kernel, by decide +kernel⟩
theorem lk_X9_110 : ax_lkV RX9 110 mu_X8_isLost RX8 1 := ax_lkV_of (ax_m2 120 rfl rfl) (ax_m2 121 rfl rfl) (ax_m2 122 rfl rfl) (ax_m1 9 rfl rfl) lc_X8_isLost rfl ⟨by decide +kernel, by decide +kernel, by decide +kernel⟩
def mu_X8_renew : ax_Mu := (yX8_renew, cX8_renew, 5, none, 0, 0)
theorem lc_X8_renew : Cond.code mu_X8_renew.1 mu_X8_renew.2.1 mu_X8_renew.2.2.1 mu_X8_renew.2.2.2.1 ∈ ax_tb := (ax_m4 95 rfl rfl)
noncomputable def b_X8_renew_17 (l1 : Int32) (a : Int32 × ax_S) : Option ((Int32 × ax_S) ⊕ (ax_S)) := (if (40 : Int32) ≤ a.1 then some (.inr a.2) else (ax_si cx_C a.2 39 ((l1 * (40 : Int32)) + a.1) (0 : Int32)).bind (fun s36 => some (.inl ((a.1 + 1), s36))))
noncomputable def f_X8_renew (p1 : Int32) (p2 : Int32) (p3 : Int32) (s : ax_S) : Option (ax_S) := (ax_si cx_C s 37 p1 p2).bind (fun s6 => (ax_si cx_C s6 38 p1 p3).bind (fun s13 => (ax_lp (b_X8_renew_17 p1) ((0 : Int32), s13)).bind (fun e17 => some (e17))))
theorem B_X8_renew_17 (X : ax_G × ax_K × Option Value × ax_S) (hV : ax_ok (cx_C, X) mu_X8_renew) (l1 : Int32) (P : ((Int32 × ax_S) ⊕ (ax_S)) → Prop) (hI : ∀ a : Int32 × ax_S, P (.inl a) → ax_At (cx_C, X) 17 [some (.ref (ax_ad (cx_C, X) 8)), some (.int l1), none, none, some (.int a.1)] [] a.2) (hO : ∀ e : ax_S, P (.inr e) → ax_At (cx_C, X) 43 [none, none, none, none, none] [] e) (a : Int32 × ax_S) : ax_J (cx_C, X) P 17 [some (.ref (ax_ad (cx_C, X) 8)), some (.int l1), none, none, some (.int a.1)] [] a.2 (b_X8_renew_17 l1 a) := by
  unfold b_X8_renew_17
  refine ax_j (ax_iload hV dX8_renew_17 rfl) ?_
  refine ax_j (ax_bipush hV (40 : Int32) dX8_renew_19 (by decide)) ?_
  refine ax_jif (ax_icmp_ge hV dX8_renew_21) ?_ ?_
  · refine ax_jf (lv' := [none, none, none, none, none]) [false, false, false, false, false] rfl ?_
    exact ax_jl (fun h => hO a.2 h)
  · refine ax_j (ax_aload_n hV dX8_renew_24 rfl) ?_
    refine ax_j (ax_gfr hV lf_X8_18 dX8_renew_25 rfl rfl) ?_
    refine ax_j (ax_iload_n hV dX8_renew_28 rfl) ?_
    refine ax_j (ax_bipush hV (40 : Int32) dX8_renew_29 (by decide)) ?_
    refine ax_j (ax_imul hV dX8_renew_31) ?_
    refine ax_j (ax_iload hV dX8_renew_32 rfl) ?_
    refine ax_j (ax_iadd hV dX8_renew_34) ?_
    refine ax_j (ax_iconst hV (0 : Int32) dX8_renew_35 (by decide)) ?_
    refine ax_jb (ax_iast hV dX8_renew_36) (fun s36 => ?_)
    refine ax_j (ax_iinc hV (a.1 + 1) [some (.ref (ax_ad (cx_C, X) 8)), some (.int l1), none, none, some (.int (a.1 + 1))] dX8_renew_37 rfl rfl rfl rfl) ?_
    refine ax_j (ax_goto hV dX8_renew_40) ?_
    exact ax_jl (fun h => hI ((a.1 + 1), s36) h)
theorem T_X8_renew (p1 : Int32) (p2 : Int32) (p3 : Int32) (s : ax_S) (r : ax_S) (h : f_X8_renew p1 p2 p3 s = some r) : ax_M cx_C mu_X8_renew (fun ad => [.ref (ad 8), .int p1, .int p2, .int p3]) s none r := by
  refine ax_enter (by decide +kernel) 1 (fun ad => [some (.ref (ad 8)), some (.int p1), some (.int p2), some (.int p3), none]) (fun ad => rfl) (fun ad => Nat.le_of_ble_eq_true rfl) (fun X hV ho => ?_)
  refine ax_go (fun r : ax_S => ((none : Option Value), r)) (fun P hP => ?_) h ho
  unfold f_X8_renew
  refine ax_j (ax_aload_n hV dX8_renew_0 rfl) ?_
  refine ax_j (ax_gfr hV lf_X8_9 dX8_renew_1 rfl rfl) ?_
  refine ax_j (ax_iload_n hV dX8_renew_4 rfl) ?_
  refine ax_j (ax_iload_n hV dX8_renew_5 rfl) ?_
  refine ax_jb (ax_iast hV dX8_renew_6) (fun s6 => ?_)
  refine ax_j (ax_aload_n hV dX8_renew_7 rfl) ?_
  refine ax_j (ax_gfr hV lf_X8_15 dX8_renew_8 rfl rfl) ?_
  refine ax_j (ax_iload_n hV dX8_renew_11 rfl) ?_
  refine ax_j (ax_iload_n hV dX8_renew_12 rfl) ?_
  refine ax_jb (ax_iast hV dX8_renew_13) (fun s13 => ?_)
  refine ax_j (ax_iconst hV (0 : Int32) dX8_renew_14 (by decide)) ?_
  refine ax_j (ax_istore hV [some (.ref (ax_ad (cx_C, X) 8)), some (.int p1), some (.int p2), some (.int p3), some (.int (0 : Int32))] dX8_renew_15 rfl rfl) ?_
  refine ax_jf (lv' := [some (.ref (ax_ad (cx_C, X) 8)), some (.int p1), none, none, some (.int (0 : Int32))]) [true, true, false, false, true] rfl ?_
  refine ax_jlp ((0 : Int32), s13) (fun x17 : Int32 × ax_S => [some (.ref (ax_ad (cx_C, X) 8)), some (.int p1), none, none, some (.int x17.1)]) (fun x17 : Int32 × ax_S => x17.2) (fun y17 : ax_S => [none, none, none, none, none]) (fun y17 : ax_S => y17) (fun P' h1 h2 w => B_X8_renew_17 X hV p1 P' h1 h2 w) (fun e17 => ?_)
  exact ax_jl (fun h => ax_vr hV rfl dX8_renew_43 (hP e17 h))
theorem lk_X9_304 : ax_lkV RX9 304 mu_X8_renew RX8 3 := ax_lkV_of (ax_m4 92 rfl rfl) (ax_m4 93 rfl rfl) (ax_m4 94 rfl rfl) (ax_m1 9 rfl rfl) lc_X8_renew rfl ⟨by decide +kernel, by decide +kernel, by decide +kernel⟩
def mu_X8_hindrance : ax_Mu := (yX8_hindrance, cX8_hindrance, 4, some .int, 1, 21)
theorem lc_X8_hindrance : Cond.code mu_X8_hindrance.1 mu_X8_hindrance.2.1 mu_X8_hindrance.2.2.1 mu_X8_hindrance.2.2.2.1 ∈ ax_tb := (ax_m4 107 rfl rfl)
noncomputable def f_X8_hindrance (p1 : Int32) (p2 : Int32) (p3 : Int32) (s : ax_S) : Option (Int32) := (f_X8_isLost p1 s).bind (fun q2 => (if q2 = 0 then (ax_ai cx_C s 37 p1).bind (fun v15 => (if v15 = p2 then (if p3 < 0 then some ((2 : Int32)) else (ax_ai cx_C s 38 p1).bind (fun v32 => (if p3 < v32 then some ((0 : Int32)) else some ((2 : Int32))))) else some ((3 : Int32)))) else some ((1 : Int32))))
theorem T_X8_hindrance (p1 : Int32) (p2 : Int32) (p3 : Int32) (s : ax_S) (r : Int32) (h : f_X8_hindrance p1 p2 p3 s = some r) : ax_M cx_C mu_X8_hindrance (fun ad => [.ref (ad 8), .int p1, .int p2, .int p3]) s (some (.int r)) s := by
  refine ax_enter (by decide +kernel) 0 (fun ad => [some (.ref (ad 8)), some (.int p1), some (.int p2), some (.int p3)]) (fun ad => rfl) (fun ad => Nat.le_of_ble_eq_true rfl) (fun X hV ho => ?_)
  refine ax_go (fun r : Int32 => (some (Value.int r), s)) (fun P hP => ?_) h ho
  unfold f_X8_hindrance
  refine ax_j (ax_aload_n hV dX8_hindrance_0 rfl) ?_
  refine ax_j (ax_iload_n hV dX8_hindrance_1 rfl) ?_
  refine ax_jb (fun v ho => ax_cVi hV lk_X8_21 rfl dX8_hindrance_2 rfl rfl [.int p1] [] (fun ad => [.ref (ad 8), .int p1]) rfl rfl rfl rfl v s (T_X8_isLost p1 s v ho)) (fun q2 => ?_)
  refine ax_jif (ax_if_eq hV dX8_hindrance_5) ?_ ?_
  · refine ax_j (ax_aload_n hV dX8_hindrance_10 rfl) ?_
    refine ax_j (ax_gfr hV lf_X8_9 dX8_hindrance_11 rfl rfl) ?_
    refine ax_j (ax_iload_n hV dX8_hindrance_14 rfl) ?_
    refine ax_jb (ax_iald hV dX8_hindrance_15) (fun v15 => ?_)
    refine ax_j (ax_iload_n hV dX8_hindrance_16 rfl) ?_
    refine ax_jif (ax_icmp_eq hV dX8_hindrance_17) ?_ ?_
    · refine ax_j (ax_iload_n hV dX8_hindrance_22 rfl) ?_
      refine ax_jif (ax_if_lt hV dX8_hindrance_23) ?_ ?_
      · refine ax_j (ax_iconst hV (2 : Int32) dX8_hindrance_36 (by decide)) ?_
        refine ax_j (ax_goto hV dX8_hindrance_37) ?_
        exact ax_jl (fun h => ax_ir hV rfl dX8_hindrance_41 (hP (2 : Int32) h))
      · refine ax_j (ax_iload_n hV dX8_hindrance_26 rfl) ?_
        refine ax_j (ax_aload_n hV dX8_hindrance_27 rfl) ?_
        refine ax_j (ax_gfr hV lf_X8_15 dX8_hindrance_28 rfl rfl) ?_
        refine ax_j (ax_iload_n hV dX8_hindrance_31 rfl) ?_
        refine ax_jb (ax_iald hV dX8_hindrance_32) (fun v32 => ?_)
        refine ax_jif (ax_icmp_lt hV dX8_hindrance_33) ?_ ?_
        · refine ax_j (ax_iconst hV (0 : Int32) dX8_hindrance_40 (by decide)) ?_
          exact ax_jl (fun h => ax_ir hV rfl dX8_hindrance_41 (hP (0 : Int32) h))
        · refine ax_j (ax_iconst hV (2 : Int32) dX8_hindrance_36 (by decide)) ?_
          refine ax_j (ax_goto hV dX8_hindrance_37) ?_
          exact ax_jl (fun h => ax_ir hV rfl dX8_hindrance_41 (hP (2 : Int32) h))
    · refine ax_j (ax_iconst hV (3 : Int32) dX8_hindrance_20 (by decide)) ?_
      exact ax_jl (fun h => ax_ir hV rfl dX8_hindrance_21 (hP (3 : Int32) h))
  · refine ax_j (ax_iconst hV (1 : Int32) dX8_hindrance_8 (by decide)) ?_
    exact ax_jl (fun h => ax_ir hV rfl dX8_hindrance_9 (hP (1 : Int32) h))
theorem lk_X9_311 : ax_lkV RX9 311 mu_X8_hindrance RX8 3 := ax_lkV_of (ax_m4 104 rfl rfl) (ax_m4 105 rfl rfl) (ax_m4 106 rfl rfl) (ax_m1 9 rfl rfl) lc_X8_hindrance rfl ⟨by decide +kernel, by decide +kernel, by decide +kernel⟩
def mu_X8_has : ax_Mu := (yX8_has, cX8_has, 4, some .boolean, 0, 0)
theorem lc_X8_has : Cond.code mu_X8_has.1 mu_X8_has.2.1 mu_X8_has.2.2.1 mu_X8_has.2.2.2.1 ∈ ax_tb := (ax_m4 128 rfl rfl)
noncomputable def f_X8_has (p1 : Int32) (p2 : Int32) (p3 : Int32) (s : ax_S) : Option (Int32) := (if p2 < 0 then some ((0 : Int32)) else (if p3 < 0 then some ((0 : Int32)) else (ax_ai cx_C s 38 p1).bind (fun v14 => (if v14 < p3 then some ((0 : Int32)) else (ax_ai cx_C s 38 p1).bind (fun v24 => (if (v24 - p3) < p2 then some ((0 : Int32)) else some ((1 : Int32))))))))
theorem T_X8_has (p1 : Int32) (p2 : Int32) (p3 : Int32) (s : ax_S) (r : Int32) (h : f_X8_has p1 p2 p3 s = some r) : ax_M cx_C mu_X8_has (fun ad => [.ref (ad 8), .int p1, .int p2, .int p3]) s (some (.int r)) s := by
  refine ax_enter (by decide +kernel) 0 (fun ad => [some (.ref (ad 8)), some (.int p1), some (.int p2), some (.int p3)]) (fun ad => rfl) (fun ad => Nat.le_of_ble_eq_true rfl) (fun X hV ho => ?_)
  refine ax_go (fun r : Int32 => (some (Value.int r), s)) (fun P hP => ?_) h ho
  unfold f_X8_has
  refine ax_j (ax_iload_n hV dX8_has_0 rfl) ?_
  refine ax_jif (ax_if_lt hV dX8_has_1) ?_ ?_
  · refine ax_j (ax_iconst hV (0 : Int32) dX8_has_34 (by decide)) ?_
    exact ax_jl (fun h => ax_zr hV rfl (by decide) dX8_has_35 (hP (0 : Int32) h))
  · refine ax_j (ax_iload_n hV dX8_has_4 rfl) ?_
    refine ax_jif (ax_if_lt hV dX8_has_5) ?_ ?_
    · refine ax_j (ax_iconst hV (0 : Int32) dX8_has_34 (by decide)) ?_
      exact ax_jl (fun h => ax_zr hV rfl (by decide) dX8_has_35 (hP (0 : Int32) h))
    · refine ax_j (ax_iload_n hV dX8_has_8 rfl) ?_
      refine ax_j (ax_aload_n hV dX8_has_9 rfl) ?_
      refine ax_j (ax_gfr hV lf_X8_15 dX8_has_10 rfl rfl) ?_
      refine ax_j (ax_iload_n hV dX8_has_13 rfl) ?_
      refine ax_jb (ax_iald hV dX8_has_14) (fun v14 => ?_)
      refine ax_jif (ax_icmp_gt hV dX8_has_15) ?_ ?_
      · refine ax_j (ax_iconst hV (0 : Int32) dX8_has_34 (by decide)) ?_
        exact ax_jl (fun h => ax_zr hV rfl (by decide) dX8_has_35 (hP (0 : Int32) h))
      · refine ax_j (ax_iload_n hV dX8_has_18 rfl) ?_
        refine ax_j (ax_aload_n hV dX8_has_19 rfl) ?_
        refine ax_j (ax_gfr hV lf_X8_15 dX8_has_20 rfl rfl) ?_
        refine ax_j (ax_iload_n hV dX8_has_23 rfl) ?_
        refine ax_jb (ax_iald hV dX8_has_24) (fun v24 => ?_)
        refine ax_j (ax_iload_n hV dX8_has_25 rfl) ?_
        refine ax_j (ax_isub hV dX8_has_26) ?_
        refine ax_jif (ax_icmp_gt hV dX8_has_27) ?_ ?_
        · refine ax_j (ax_iconst hV (0 : Int32) dX8_has_34 (by decide)) ?_
          exact ax_jl (fun h => ax_zr hV rfl (by decide) dX8_has_35 (hP (0 : Int32) h))
        · refine ax_j (ax_iconst hV (1 : Int32) dX8_has_30 (by decide)) ?_
          refine ax_j (ax_goto hV dX8_has_31) ?_
          exact ax_jl (fun h => ax_zr hV rfl (by decide) dX8_has_35 (hP (1 : Int32) h))
theorem lk_X9_321 : ax_lkV RX9 321 mu_X8_has RX8 3 := ax_lkV_of (ax_m4 125 rfl rfl) (ax_m4 126 rfl rfl) (ax_m4 127 rfl rfl) (ax_m1 9 rfl rfl) lc_X8_has rfl ⟨by decide +kernel, by decide +kernel, by decide +kernel⟩
def mu_X8_item : ax_Mu := (yX8_item, cX8_item, 3, some .int, 0, 0)
theorem lc_X8_item : Cond.code mu_X8_item.1 mu_X8_item.2.1 mu_X8_item.2.2.1 mu_X8_item.2.2.2.1 ∈ ax_tb := (ax_m2 135 rfl rfl)
noncomputable def f_X8_item (p1 : Int32) (p2 : Int32) (s : ax_S) : Option (Int32) := (ax_ai cx_C s 39 ((p1 * (40 : Int32)) + p2)).bind (fun v10 => some (v10))
theorem T_X8_item (p1 : Int32) (p2 : Int32) (s : ax_S) (r : Int32) (h : f_X8_item p1 p2 s = some r) : ax_M cx_C mu_X8_item (fun ad => [.ref (ad 8), .int p1, .int p2]) s (some (.int r)) s := by
  refine ax_enter (by decide +kernel) 0 (fun ad => [some (.ref (ad 8)), some (.int p1), some (.int p2)]) (fun ad => rfl) (fun ad => Nat.le_of_ble_eq_true rfl) (fun X hV ho => ?_)
  refine ax_go (fun r : Int32 => (some (Value.int r), s)) (fun P hP => ?_) h ho
  unfold f_X8_item
  refine ax_j (ax_aload_n hV dX8_item_0 rfl) ?_
  refine ax_j (ax_gfr hV lf_X8_18 dX8_item_1 rfl rfl) ?_
  refine ax_j (ax_iload_n hV dX8_item_4 rfl) ?_
  refine ax_j (ax_bipush hV (40 : Int32) dX8_item_5 (by decide)) ?_
  refine ax_j (ax_imul hV dX8_item_7) ?_
  refine ax_j (ax_iload_n hV dX8_item_8 rfl) ?_
  refine ax_j (ax_iadd hV dX8_item_9) ?_
  refine ax_jb (ax_iald hV dX8_item_10) (fun v10 => ?_)
  exact ax_jl (fun h => ax_ir hV rfl dX8_item_11 (hP v10 h))
theorem lk_X9_318 : ax_lkV RX9 318 mu_X8_item RX8 2 := ax_lkV_of (ax_m2 132 rfl rfl) (ax_m2 133 rfl rfl) (ax_m2 134 rfl rfl) (ax_m1 9 rfl rfl) lc_X8_item rfl ⟨by decide +kernel, by decide +kernel, by decide +kernel⟩
def mu_X8_narrowed : ax_Mu := (yX8_narrowed, cX8_narrowed, 2, some .int, 0, 0)
theorem lc_X8_narrowed : Cond.code mu_X8_narrowed.1 mu_X8_narrowed.2.1 mu_X8_narrowed.2.2.1 mu_X8_narrowed.2.2.2.1 ∈ ax_tb := (ax_m4 115 rfl rfl)
noncomputable def f_X8_narrowed (p1 : Int32) (p2 : Int32) : Option (Int32) := (if p1 = 0 then some (p2.toInt8.toInt32) else (if p1 = (1 : Int32) then some (p2.toInt16.toInt32) else some (p2)))
theorem T_X8_narrowed (p1 : Int32) (p2 : Int32) (s : ax_S) (r : Int32) (h : f_X8_narrowed p1 p2 = some r) : ax_M cx_C mu_X8_narrowed (fun ad => [.int p1, .int p2]) s (some (.int r)) s := by
  refine ax_enter (by decide +kernel) 0 (fun ad => [some (.int p1), some (.int p2)]) (fun ad => rfl) (fun ad => Nat.le_of_ble_eq_true rfl) (fun X hV ho => ?_)
  refine ax_go (fun r : Int32 => (some (Value.int r), s)) (fun P hP => ?_) h ho
  unfold f_X8_narrowed
  refine ax_j (ax_iload_n hV dX8_narrowed_0 rfl) ?_
  refine ax_jif (ax_if_ne hV dX8_narrowed_1) ?_ ?_
  · refine ax_j (ax_iload_n hV dX8_narrowed_4 rfl) ?_
    refine ax_j (ax_i2b hV dX8_narrowed_5) ?_
    exact ax_jl (fun h => ax_ir hV rfl dX8_narrowed_6 (hP p2.toInt8.toInt32 h))
  · refine ax_j (ax_iload_n hV dX8_narrowed_7 rfl) ?_
    refine ax_j (ax_iconst hV (1 : Int32) dX8_narrowed_8 (by decide)) ?_
    refine ax_jif (ax_icmp_ne hV dX8_narrowed_9) ?_ ?_
    · refine ax_j (ax_iload_n hV dX8_narrowed_12 rfl) ?_
      refine ax_j (ax_i2s hV dX8_narrowed_13) ?_
      refine ax_j (ax_goto hV dX8_narrowed_14) ?_
      exact ax_jl (fun h => ax_ir hV rfl dX8_narrowed_18 (hP p2.toInt16.toInt32 h))
    · refine ax_j (ax_iload_n hV dX8_narrowed_17 rfl) ?_
      exact ax_jl (fun h => ax_ir hV rfl dX8_narrowed_18 (hP p2 h))
theorem lk_X8_25 : ax_lkS RX8 25 mu_X8_narrowed 2 := ax_lkS_of (ax_m4 113 rfl rfl) (ax_m4 114 rfl rfl) (ax_m1 9 rfl rfl) lc_X8_narrowed ⟨by decide +kernel, by decide +kernel, by decide +kernel⟩
def mu_X8_store : ax_Mu := (yX8_store, cX8_store, 4, none, 1, 21)
theorem lc_X8_store : Cond.code mu_X8_store.1 mu_X8_store.2.1 mu_X8_store.2.2.1 mu_X8_store.2.2.2.1 ∈ ax_tb := (ax_m4 112 rfl rfl)
noncomputable def f_X8_store (p1 : Int32) (p2 : Int32) (p3 : Int32) (s : ax_S) : Option (ax_S) := (ax_ai cx_C s 37 p1).bind (fun v15 => (f_X8_narrowed v15 p3).bind (fun q17 => (ax_si cx_C s 39 ((p1 * (40 : Int32)) + p2) q17).bind (fun s20 => some (s20))))
theorem T_X8_store (p1 : Int32) (p2 : Int32) (p3 : Int32) (s : ax_S) (r : ax_S) (h : f_X8_store p1 p2 p3 s = some r) : ax_M cx_C mu_X8_store (fun ad => [.ref (ad 8), .int p1, .int p2, .int p3]) s none r := by
  refine ax_enter (by decide +kernel) 0 (fun ad => [some (.ref (ad 8)), some (.int p1), some (.int p2), some (.int p3)]) (fun ad => rfl) (fun ad => Nat.le_of_ble_eq_true rfl) (fun X hV ho => ?_)
  refine ax_go (fun r : ax_S => ((none : Option Value), r)) (fun P hP => ?_) h ho
  unfold f_X8_store
  refine ax_j (ax_aload_n hV dX8_store_0 rfl) ?_
  refine ax_j (ax_gfr hV lf_X8_18 dX8_store_1 rfl rfl) ?_
  refine ax_j (ax_iload_n hV dX8_store_4 rfl) ?_
  refine ax_j (ax_bipush hV (40 : Int32) dX8_store_5 (by decide)) ?_
  refine ax_j (ax_imul hV dX8_store_7) ?_
  refine ax_j (ax_iload_n hV dX8_store_8 rfl) ?_
  refine ax_j (ax_iadd hV dX8_store_9) ?_
  refine ax_j (ax_aload_n hV dX8_store_10 rfl) ?_
  refine ax_j (ax_gfr hV lf_X8_9 dX8_store_11 rfl rfl) ?_
  refine ax_j (ax_iload_n hV dX8_store_14 rfl) ?_
  refine ax_jb (ax_iald hV dX8_store_15) (fun v15 => ?_)
  refine ax_j (ax_iload_n hV dX8_store_16 rfl) ?_
  refine ax_jb (fun v ho => ax_cSi hV lk_X8_25 rfl dX8_store_17 [.int v15, .int p3] [.int ((p1 * (40 : Int32)) + p2), .ref (ax_ad (cx_C, X) 39)] (fun ad => [.int v15, .int p3]) rfl rfl rfl rfl v s (T_X8_narrowed v15 p3 s v ho)) (fun q17 => ?_)
  refine ax_jb (ax_iast hV dX8_store_20) (fun s20 => ?_)
  exact ax_jl (fun h => ax_vr hV rfl dX8_store_21 (hP s20 h))
theorem lk_X9_314 : ax_lkV RX9 314 mu_X8_store RX8 3 := ax_lkV_of (ax_m4 109 rfl rfl) (ax_m4 110 rfl rfl) (ax_m4 111 rfl rfl) (ax_m1 9 rfl rfl) lc_X8_store rfl ⟨by decide +kernel, by decide +kernel, by decide +kernel⟩
def mu_X8_move : ax_Mu := (yX8_move, cX8_move, 6, none, 1, 18)
theorem lc_X8_move : Cond.code mu_X8_move.1 mu_X8_move.2.1 mu_X8_move.2.2.1 mu_X8_move.2.2.2.1 ∈ ax_tb := (ax_m4 132 rfl rfl)
noncomputable def f_X8_move (p1 : Int32) (p2 : Int32) (p3 : Int32) (p4 : Int32) (p5 : Int32) (s : ax_S) : Option (ax_S) := (ax_cp cx_C s 39 ((p1 * (40 : Int32)) + p2) 39 ((p3 * (40 : Int32)) + p4) p5).bind (fun s23 => some (s23))
theorem T_X8_move (p1 : Int32) (p2 : Int32) (p3 : Int32) (p4 : Int32) (p5 : Int32) (s : ax_S) (r : ax_S) (h : f_X8_move p1 p2 p3 p4 p5 s = some r) : ax_M cx_C mu_X8_move (fun ad => [.ref (ad 8), .int p1, .int p2, .int p3, .int p4, .int p5]) s none r := by
  refine ax_enter (by decide +kernel) 0 (fun ad => [some (.ref (ad 8)), some (.int p1), some (.int p2), some (.int p3), some (.int p4), some (.int p5)]) (fun ad => rfl) (fun ad => Nat.le_of_ble_eq_true rfl) (fun X hV ho => ?_)
  refine ax_go (fun r : ax_S => ((none : Option Value), r)) (fun P hP => ?_) h ho
  unfold f_X8_move
  refine ax_j (ax_aload_n hV dX8_move_0 rfl) ?_
  refine ax_j (ax_gfr hV lf_X8_18 dX8_move_1 rfl rfl) ?_
  refine ax_j (ax_iload_n hV dX8_move_4 rfl) ?_
  refine ax_j (ax_bipush hV (40 : Int32) dX8_move_5 (by decide)) ?_
  refine ax_j (ax_imul hV dX8_move_7) ?_
  refine ax_j (ax_iload_n hV dX8_move_8 rfl) ?_
  refine ax_j (ax_iadd hV dX8_move_9) ?_
  refine ax_j (ax_aload_n hV dX8_move_10 rfl) ?_
  refine ax_j (ax_gfr hV lf_X8_18 dX8_move_11 rfl rfl) ?_
  refine ax_j (ax_iload_n hV dX8_move_14 rfl) ?_
  refine ax_j (ax_bipush hV (40 : Int32) dX8_move_15 (by decide)) ?_
  refine ax_j (ax_imul hV dX8_move_17) ?_
  refine ax_j (ax_iload hV dX8_move_18 rfl) ?_
  refine ax_j (ax_iadd hV dX8_move_20) ?_
  refine ax_j (ax_iload hV dX8_move_21 rfl) ?_
  refine ax_jb (ax_copy hV lm_X8_29 rfl dX8_move_23) (fun s23 => ?_)
  exact ax_jl (fun h => ax_vr hV rfl dX8_move_26 (hP s23 h))
theorem lk_X9_324 : ax_lkV RX9 324 mu_X8_move RX8 5 := ax_lkV_of (ax_m4 129 rfl rfl) (ax_m4 130 rfl rfl) (ax_m4 131 rfl rfl) (ax_m1 9 rfl rfl) lc_X8_move rfl ⟨by decide +kernel, by decide +kernel, by decide +kernel⟩
def mu_X9_pass : ax_Mu := (yX9_pass, cX9_pass, 2, some .int, 0, 0)
theorem lc_X9_pass : Cond.code mu_X9_pass.1 mu_X9_pass.2.1 mu_X9_pass.2.2.1 mu_X9_pass.2.2.2.1 ∈ ax_tb := (ax_m2 67 rfl rfl)
noncomputable def f_X9_pass (p1 : Int32) (s : ax_S) : Option (Int32 × ax_S) := (if p1 < (1 : Int32) then some (((-2 : Int32), s)) else (if (100 : Int32) < p1 then some (((-2 : Int32), s)) else (if ((s.1 0 8) + p1) ≤ (399 : Int32) then some ((((ax_ui s 0 8 ((s.1 0 8) + p1)).1 0 8), (ax_ui s 0 8 ((s.1 0 8) + p1)))) else some (((-2 : Int32), s)))))
theorem T_X9_pass (p1 : Int32) (s : ax_S) (r : Int32 × ax_S) (h : f_X9_pass p1 s = some r) : ax_M cx_C mu_X9_pass (fun ad => [.ref (ad 0), .int p1]) s (some (.int r.1)) r.2 := by
  refine ax_enter (by decide +kernel) 0 (fun ad => [some (.ref (ad 0)), some (.int p1)]) (fun ad => rfl) (fun ad => Nat.le_of_ble_eq_true rfl) (fun X hV ho => ?_)
  refine ax_go (fun r : Int32 × ax_S => (some (Value.int r.1), r.2)) (fun P hP => ?_) h ho
  unfold f_X9_pass
  refine ax_j (ax_iload_n hV dX9_pass_0 rfl) ?_
  refine ax_j (ax_iconst hV (1 : Int32) dX9_pass_1 (by decide)) ?_
  refine ax_jif (ax_icmp_lt hV dX9_pass_2) ?_ ?_
  · refine ax_j (ax_bipush hV (-2 : Int32) dX9_pass_23 (by decide)) ?_
    exact ax_jl (fun h => ax_ir hV rfl dX9_pass_25 (hP ((-2 : Int32), s) h))
  · refine ax_j (ax_iload_n hV dX9_pass_5 rfl) ?_
    refine ax_j (ax_bipush hV (100 : Int32) dX9_pass_6 (by decide)) ?_
    refine ax_jif (ax_icmp_gt hV dX9_pass_8) ?_ ?_
    · refine ax_j (ax_bipush hV (-2 : Int32) dX9_pass_23 (by decide)) ?_
      exact ax_jl (fun h => ax_ir hV rfl dX9_pass_25 (hP ((-2 : Int32), s) h))
    · refine ax_j (ax_aload_n hV dX9_pass_11 rfl) ?_
      refine ax_j (ax_gfi hV lf_X9_61 dX9_pass_12 rfl rfl) ?_
      refine ax_j (ax_iload_n hV dX9_pass_15 rfl) ?_
      refine ax_j (ax_iadd hV dX9_pass_16) ?_
      refine ax_j (ax_sipush hV (399 : Int32) dX9_pass_17 (by decide)) ?_
      refine ax_jif (ax_icmp_le hV dX9_pass_20) ?_ ?_
      · refine ax_j (ax_aload_n hV dX9_pass_26 rfl) ?_
        refine ax_j (ax_dup hV dX9_pass_27 rfl) ?_
        refine ax_j (ax_gfi hV lf_X9_61 dX9_pass_28 rfl rfl) ?_
        refine ax_j (ax_iload_n hV dX9_pass_31 rfl) ?_
        refine ax_j (ax_iadd hV dX9_pass_32) ?_
        refine ax_j (ax_pfi hV lp_X9_61 dX9_pass_33 rfl rfl) ?_
        refine ax_j (ax_aload_n hV dX9_pass_36 rfl) ?_
        refine ax_j (ax_gfi hV lf_X9_61 dX9_pass_37 rfl rfl) ?_
        exact ax_jl (fun h => ax_ir hV rfl dX9_pass_40 (hP (((ax_ui s 0 8 ((s.1 0 8) + p1)).1 0 8), (ax_ui s 0 8 ((s.1 0 8) + p1))) h))
      · refine ax_j (ax_bipush hV (-2 : Int32) dX9_pass_23 (by decide)) ?_
        exact ax_jl (fun h => ax_ir hV rfl dX9_pass_25 (hP ((-2 : Int32), s) h))
def mu_X9_thing : ax_Mu := (yX9_thing, cX9_thing, 1, some .int, 0, 0)
theorem lc_X9_thing : Cond.code mu_X9_thing.1 mu_X9_thing.2.1 mu_X9_thing.2.2.1 mu_X9_thing.2.2.2.1 ∈ ax_tb := (ax_m2 71 rfl rfl)
noncomputable def f_X9_thing  (s : ax_S) : Option (Int32 × ax_S) := (if (s.1 0 10) < (12 : Int32) then some (((((ax_ui s 0 10 ((s.1 0 10) + (1 : Int32))).1 0 10) - (1 : Int32)), (ax_ui s 0 10 ((s.1 0 10) + (1 : Int32))))) else some (((-4 : Int32), s)))
theorem T_X9_thing  (s : ax_S) (r : Int32 × ax_S) (h : f_X9_thing s = some r) : ax_M cx_C mu_X9_thing (fun ad => [.ref (ad 0)]) s (some (.int r.1)) r.2 := by
  refine ax_enter (by decide +kernel) 0 (fun ad => [some (.ref (ad 0))]) (fun ad => rfl) (fun ad => Nat.le_of_ble_eq_true rfl) (fun X hV ho => ?_)
  refine ax_go (fun r : Int32 × ax_S => (some (Value.int r.1), r.2)) (fun P hP => ?_) h ho
  unfold f_X9_thing
  refine ax_j (ax_aload_n hV dX9_thing_0 rfl) ?_
  refine ax_j (ax_gfi hV lf_X9_68 dX9_thing_1 rfl rfl) ?_
  refine ax_j (ax_bipush hV (12 : Int32) dX9_thing_4 (by decide)) ?_
  refine ax_jif (ax_icmp_lt hV dX9_thing_6) ?_ ?_
  · refine ax_j (ax_aload_n hV dX9_thing_12 rfl) ?_
    refine ax_j (ax_dup hV dX9_thing_13 rfl) ?_
    refine ax_j (ax_gfi hV lf_X9_68 dX9_thing_14 rfl rfl) ?_
    refine ax_j (ax_iconst hV (1 : Int32) dX9_thing_17 (by decide)) ?_
    refine ax_j (ax_iadd hV dX9_thing_18) ?_
    refine ax_j (ax_pfi hV lp_X9_68 dX9_thing_19 rfl rfl) ?_
    refine ax_j (ax_aload_n hV dX9_thing_22 rfl) ?_
    refine ax_j (ax_gfi hV lf_X9_68 dX9_thing_23 rfl rfl) ?_
    refine ax_j (ax_iconst hV (1 : Int32) dX9_thing_26 (by decide)) ?_
    refine ax_j (ax_isub hV dX9_thing_27) ?_
    exact ax_jl (fun h => ax_ir hV rfl dX9_thing_28 (hP ((((ax_ui s 0 10 ((s.1 0 10) + (1 : Int32))).1 0 10) - (1 : Int32)), (ax_ui s 0 10 ((s.1 0 10) + (1 : Int32)))) h))
  · refine ax_j (ax_bipush hV (-4 : Int32) dX9_thing_9 (by decide)) ?_
    exact ax_jl (fun h => ax_ir hV rfl dX9_thing_11 (hP ((-4 : Int32), s) h))
def mu_X9_isRange : ax_Mu := (yX9_isRange, cX9_isRange, 3, some .boolean, 0, 0)
theorem lc_X9_isRange : Cond.code mu_X9_isRange.1 mu_X9_isRange.2.1 mu_X9_isRange.2.2.1 mu_X9_isRange.2.2.2.1 ∈ ax_tb := (ax_m2 78 rfl rfl)
noncomputable def f_X9_isRange (p1 : Int32) (p2 : Int32) (p3 : Int32) : Option (Int32) := (if p1 < (-p3) then some ((0 : Int32)) else (if p2 < p1 then some ((0 : Int32)) else (if p3 < p2 then some ((0 : Int32)) else some ((1 : Int32)))))
theorem T_X9_isRange (p1 : Int32) (p2 : Int32) (p3 : Int32) (s : ax_S) (r : Int32) (h : f_X9_isRange p1 p2 p3 = some r) : ax_M cx_C mu_X9_isRange (fun ad => [.int p1, .int p2, .int p3]) s (some (.int r)) s := by
  refine ax_enter (by decide +kernel) 0 (fun ad => [some (.int p1), some (.int p2), some (.int p3)]) (fun ad => rfl) (fun ad => Nat.le_of_ble_eq_true rfl) (fun X hV ho => ?_)
  refine ax_go (fun r : Int32 => (some (Value.int r), s)) (fun P hP => ?_) h ho
  unfold f_X9_isRange
  refine ax_j (ax_iload_n hV dX9_isRange_0 rfl) ?_
  refine ax_j (ax_ineg hV dX9_isRange_1) ?_
  refine ax_j (ax_iload_n hV dX9_isRange_2 rfl) ?_
  refine ax_jif (ax_icmp_gt hV dX9_isRange_3) ?_ ?_
  · refine ax_j (ax_iconst hV (0 : Int32) dX9_isRange_20 (by decide)) ?_
    exact ax_jl (fun h => ax_zr hV rfl (by decide) dX9_isRange_21 (hP (0 : Int32) h))
  · refine ax_j (ax_iload_n hV dX9_isRange_6 rfl) ?_
    refine ax_j (ax_iload_n hV dX9_isRange_7 rfl) ?_
    refine ax_jif (ax_icmp_gt hV dX9_isRange_8) ?_ ?_
    · refine ax_j (ax_iconst hV (0 : Int32) dX9_isRange_20 (by decide)) ?_
      exact ax_jl (fun h => ax_zr hV rfl (by decide) dX9_isRange_21 (hP (0 : Int32) h))
    · refine ax_j (ax_iload_n hV dX9_isRange_11 rfl) ?_
      refine ax_j (ax_iload_n hV dX9_isRange_12 rfl) ?_
      refine ax_jif (ax_icmp_gt hV dX9_isRange_13) ?_ ?_
      · refine ax_j (ax_iconst hV (0 : Int32) dX9_isRange_20 (by decide)) ?_
        exact ax_jl (fun h => ax_zr hV rfl (by decide) dX9_isRange_21 (hP (0 : Int32) h))
      · refine ax_j (ax_iconst hV (1 : Int32) dX9_isRange_16 (by decide)) ?_
        refine ax_j (ax_goto hV dX9_isRange_17) ?_
        exact ax_jl (fun h => ax_zr hV rfl (by decide) dX9_isRange_21 (hP (1 : Int32) h))
theorem lk_X9_74 : ax_lkS RX9 74 mu_X9_isRange 3 := ax_lkS_of (ax_m2 76 rfl rfl) (ax_m2 77 rfl rfl) (ax_m1 1 rfl rfl) lc_X9_isRange ⟨by decide +kernel, by decide +kernel, by decide +kernel⟩
def mu_X9_book : ax_Mu := (yX9_book, cX9_book, 3, some .int, 1, 22)
theorem lc_X9_book : Cond.code mu_X9_book.1 mu_X9_book.2.1 mu_X9_book.2.2.1 mu_X9_book.2.2.2.1 ∈ ax_tb := (ax_m2 75 rfl rfl)
noncomputable def f_X9_book (p1 : Int32) (p2 : Int32) (s : ax_S) : Option (Int32 × ax_S) := (f_X9_isRange p1 p2 (1000 : Int32)).bind (fun q5 => (if q5 = 0 then some (((-2 : Int32), s)) else (f_X0_open p1 p2 s).bind (fun q20 => some ((q20.1, q20.2)))))
theorem T_X9_book (p1 : Int32) (p2 : Int32) (s : ax_S) (r : Int32 × ax_S) (h : f_X9_book p1 p2 s = some r) : ax_M cx_C mu_X9_book (fun ad => [.ref (ad 0), .int p1, .int p2]) s (some (.int r.1)) r.2 := by
  refine ax_enter (by decide +kernel) 0 (fun ad => [some (.ref (ad 0)), some (.int p1), some (.int p2)]) (fun ad => rfl) (fun ad => Nat.le_of_ble_eq_true rfl) (fun X hV ho => ?_)
  refine ax_go (fun r : Int32 × ax_S => (some (Value.int r.1), r.2)) (fun P hP => ?_) h ho
  unfold f_X9_book
  refine ax_j (ax_iload_n hV dX9_book_0 rfl) ?_
  refine ax_j (ax_iload_n hV dX9_book_1 rfl) ?_
  refine ax_j (ax_sipush hV (1000 : Int32) dX9_book_2 (by decide)) ?_
  refine ax_jb (fun v ho => ax_cSi hV lk_X9_74 rfl dX9_book_5 [.int p1, .int p2, .int (1000 : Int32)] [] (fun ad => [.int p1, .int p2, .int (1000 : Int32)]) rfl rfl rfl rfl v s (T_X9_isRange p1 p2 (1000 : Int32) s v ho)) (fun q5 => ?_)
  refine ax_jif (ax_if_ne hV dX9_book_8) ?_ ?_
  · refine ax_j (ax_bipush hV (-2 : Int32) dX9_book_11 (by decide)) ?_
    exact ax_jl (fun h => ax_ir hV rfl dX9_book_13 (hP ((-2 : Int32), s) h))
  · refine ax_j (ax_aload_n hV dX9_book_14 rfl) ?_
    refine ax_j (ax_gfr hV lf_X9_20 dX9_book_15 rfl rfl) ?_
    refine ax_j (ax_iload_n hV dX9_book_18 rfl) ?_
    refine ax_j (ax_iload_n hV dX9_book_19 rfl) ?_
    refine ax_jb (fun v ho => ax_cVi hV lk_X9_78 rfl dX9_book_20 rfl rfl [.int p1, .int p2] [] (fun ad => [.ref (ad 3), .int p1, .int p2]) rfl rfl rfl rfl v.1 v.2 (T_X0_open p1 p2 s v ho)) (fun q20 => ?_)
    exact ax_jl (fun h => ax_ir hV rfl dX9_book_23 (hP (q20.1, q20.2) h))
def mu_X9_isBook : ax_Mu := (yX9_isBook, cX9_isBook, 2, some .boolean, 0, 0)
theorem lc_X9_isBook : Cond.code mu_X9_isBook.1 mu_X9_isBook.2.1 mu_X9_isBook.2.2.1 mu_X9_isBook.2.2.2.1 ∈ ax_tb := (ax_m2 90 rfl rfl)
noncomputable def f_X9_isBook (p1 : Int32) (s : ax_S) : Option (Int32) := (if p1 < 0 then some ((0 : Int32)) else (if (s.1 3 3) ≤ p1 then some ((0 : Int32)) else some ((1 : Int32))))
theorem T_X9_isBook (p1 : Int32) (s : ax_S) (r : Int32) (h : f_X9_isBook p1 s = some r) : ax_M cx_C mu_X9_isBook (fun ad => [.ref (ad 0), .int p1]) s (some (.int r)) s := by
  refine ax_enter (by decide +kernel) 0 (fun ad => [some (.ref (ad 0)), some (.int p1)]) (fun ad => rfl) (fun ad => Nat.le_of_ble_eq_true rfl) (fun X hV ho => ?_)
  refine ax_go (fun r : Int32 => (some (Value.int r), s)) (fun P hP => ?_) h ho
  unfold f_X9_isBook
  refine ax_j (ax_iload_n hV dX9_isBook_0 rfl) ?_
  refine ax_jif (ax_if_lt hV dX9_isBook_1) ?_ ?_
  · refine ax_j (ax_iconst hV (0 : Int32) dX9_isBook_19 (by decide)) ?_
    exact ax_jl (fun h => ax_zr hV rfl (by decide) dX9_isBook_20 (hP (0 : Int32) h))
  · refine ax_j (ax_iload_n hV dX9_isBook_4 rfl) ?_
    refine ax_j (ax_aload_n hV dX9_isBook_5 rfl) ?_
    refine ax_j (ax_gfr hV lf_X9_20 dX9_isBook_6 rfl rfl) ?_
    refine ax_j (ax_gfi hV lf_X9_333 dX9_isBook_9 rfl rfl) ?_
    refine ax_jif (ax_icmp_ge hV dX9_isBook_12) ?_ ?_
    · refine ax_j (ax_iconst hV (0 : Int32) dX9_isBook_19 (by decide)) ?_
      exact ax_jl (fun h => ax_zr hV rfl (by decide) dX9_isBook_20 (hP (0 : Int32) h))
    · refine ax_j (ax_iconst hV (1 : Int32) dX9_isBook_15 (by decide)) ?_
      refine ax_j (ax_goto hV dX9_isBook_16) ?_
      exact ax_jl (fun h => ax_zr hV rfl (by decide) dX9_isBook_20 (hP (1 : Int32) h))
theorem lk_X9_84 : ax_lkV RX9 84 mu_X9_isBook RX9 1 := ax_lkV_of (ax_m2 87 rfl rfl) (ax_m2 89 rfl rfl) (ax_mp1 0 rfl rfl rfl) (ax_m1 1 rfl rfl) lc_X9_isBook rfl ⟨by decide +kernel, by decide +kernel, by decide +kernel⟩
def mu_X9_trust : ax_Mu := (yX9_trust, cX9_trust, 4, some .int, 1, 21)
theorem lc_X9_trust : Cond.code mu_X9_trust.1 mu_X9_trust.2.1 mu_X9_trust.2.2.1 mu_X9_trust.2.2.2.1 ∈ ax_tb := (ax_m2 86 rfl rfl)
noncomputable def f_X9_trust (p1 : Int32) (p2 : Int32) (s : ax_S) : Option (Int32 × ax_S) := (f_X9_isBook p1 s).bind (fun q2 => (if q2 = 0 then some (((-2 : Int32), s)) else (if p2 < (1 : Int32) then some (((-2 : Int32), s)) else (if p2 ≤ (9 : Int32) then (ax_ai cx_C s 28 p1).bind (fun v30 => (ax_si cx_C s 28 p1 p2).bind (fun s41 => some ((v30, s41)))) else some (((-2 : Int32), s))))))
theorem T_X9_trust (p1 : Int32) (p2 : Int32) (s : ax_S) (r : Int32 × ax_S) (h : f_X9_trust p1 p2 s = some r) : ax_M cx_C mu_X9_trust (fun ad => [.ref (ad 0), .int p1, .int p2]) s (some (.int r.1)) r.2 := by
  refine ax_enter (by decide +kernel) 1 (fun ad => [some (.ref (ad 0)), some (.int p1), some (.int p2), none]) (fun ad => rfl) (fun ad => Nat.le_of_ble_eq_true rfl) (fun X hV ho => ?_)
  refine ax_go (fun r : Int32 × ax_S => (some (Value.int r.1), r.2)) (fun P hP => ?_) h ho
  unfold f_X9_trust
  refine ax_j (ax_aload_n hV dX9_trust_0 rfl) ?_
  refine ax_j (ax_iload_n hV dX9_trust_1 rfl) ?_
  refine ax_jb (fun v ho => ax_cVi hV lk_X9_84 rfl dX9_trust_2 rfl rfl [.int p1] [] (fun ad => [.ref (ad 0), .int p1]) rfl rfl rfl rfl v s (T_X9_isBook p1 s v ho)) (fun q2 => ?_)
  refine ax_jif (ax_if_eq hV dX9_trust_5) ?_ ?_
  · refine ax_j (ax_bipush hV (-2 : Int32) dX9_trust_19 (by decide)) ?_
    exact ax_jl (fun h => ax_ir hV rfl dX9_trust_21 (hP ((-2 : Int32), s) h))
  · refine ax_j (ax_iload_n hV dX9_trust_8 rfl) ?_
    refine ax_j (ax_iconst hV (1 : Int32) dX9_trust_9 (by decide)) ?_
    refine ax_jif (ax_icmp_lt hV dX9_trust_10) ?_ ?_
    · refine ax_j (ax_bipush hV (-2 : Int32) dX9_trust_19 (by decide)) ?_
      exact ax_jl (fun h => ax_ir hV rfl dX9_trust_21 (hP ((-2 : Int32), s) h))
    · refine ax_j (ax_iload_n hV dX9_trust_13 rfl) ?_
      refine ax_j (ax_bipush hV (9 : Int32) dX9_trust_14 (by decide)) ?_
      refine ax_jif (ax_icmp_le hV dX9_trust_16) ?_ ?_
      · refine ax_j (ax_aload_n hV dX9_trust_22 rfl) ?_
        refine ax_j (ax_gfr hV lf_X9_20 dX9_trust_23 rfl rfl) ?_
        refine ax_j (ax_gfr hV lf_X9_88 dX9_trust_26 rfl rfl) ?_
        refine ax_j (ax_iload_n hV dX9_trust_29 rfl) ?_
        refine ax_jb (ax_iald hV dX9_trust_30) (fun v30 => ?_)
        refine ax_j (ax_istore_n hV [some (.ref (ax_ad (cx_C, X) 0)), some (.int p1), some (.int p2), some (.int v30)] dX9_trust_31 rfl rfl) ?_
        refine ax_j (ax_aload_n hV dX9_trust_32 rfl) ?_
        refine ax_j (ax_gfr hV lf_X9_20 dX9_trust_33 rfl rfl) ?_
        refine ax_j (ax_gfr hV lf_X9_88 dX9_trust_36 rfl rfl) ?_
        refine ax_j (ax_iload_n hV dX9_trust_39 rfl) ?_
        refine ax_j (ax_iload_n hV dX9_trust_40 rfl) ?_
        refine ax_jb (ax_iast hV dX9_trust_41) (fun s41 => ?_)
        refine ax_j (ax_iload_n hV dX9_trust_42 rfl) ?_
        exact ax_jl (fun h => ax_ir hV rfl dX9_trust_43 (hP (v30, s41) h))
      · refine ax_j (ax_bipush hV (-2 : Int32) dX9_trust_19 (by decide)) ?_
        exact ax_jl (fun h => ax_ir hV rfl dX9_trust_21 (hP ((-2 : Int32), s) h))
def mu_X9_isThing : ax_Mu := (yX9_isThing, cX9_isThing, 2, some .boolean, 0, 0)
theorem lc_X9_isThing : Cond.code mu_X9_isThing.1 mu_X9_isThing.2.1 mu_X9_isThing.2.2.1 mu_X9_isThing.2.2.2.1 ∈ ax_tb := (ax_m2 98 rfl rfl)
noncomputable def f_X9_isThing (p1 : Int32) (s : ax_S) : Option (Int32) := (if p1 < 0 then some ((0 : Int32)) else (if (s.1 0 10) ≤ p1 then some ((0 : Int32)) else some ((1 : Int32))))
theorem T_X9_isThing (p1 : Int32) (s : ax_S) (r : Int32) (h : f_X9_isThing p1 s = some r) : ax_M cx_C mu_X9_isThing (fun ad => [.ref (ad 0), .int p1]) s (some (.int r)) s := by
  refine ax_enter (by decide +kernel) 0 (fun ad => [some (.ref (ad 0)), some (.int p1)]) (fun ad => rfl) (fun ad => Nat.le_of_ble_eq_true rfl) (fun X hV ho => ?_)
  refine ax_go (fun r : Int32 => (some (Value.int r), s)) (fun P hP => ?_) h ho
  unfold f_X9_isThing
  refine ax_j (ax_iload_n hV dX9_isThing_0 rfl) ?_
  refine ax_jif (ax_if_lt hV dX9_isThing_1) ?_ ?_
  · refine ax_j (ax_iconst hV (0 : Int32) dX9_isThing_16 (by decide)) ?_
    exact ax_jl (fun h => ax_zr hV rfl (by decide) dX9_isThing_17 (hP (0 : Int32) h))
  · refine ax_j (ax_iload_n hV dX9_isThing_4 rfl) ?_
    refine ax_j (ax_aload_n hV dX9_isThing_5 rfl) ?_
    refine ax_j (ax_gfi hV lf_X9_68 dX9_isThing_6 rfl rfl) ?_
    refine ax_jif (ax_icmp_ge hV dX9_isThing_9) ?_ ?_
    · refine ax_j (ax_iconst hV (0 : Int32) dX9_isThing_16 (by decide)) ?_
      exact ax_jl (fun h => ax_zr hV rfl (by decide) dX9_isThing_17 (hP (0 : Int32) h))
    · refine ax_j (ax_iconst hV (1 : Int32) dX9_isThing_12 (by decide)) ?_
      refine ax_j (ax_goto hV dX9_isThing_13) ?_
      exact ax_jl (fun h => ax_zr hV rfl (by decide) dX9_isThing_17 (hP (1 : Int32) h))
theorem lk_X9_92 : ax_lkV RX9 92 mu_X9_isThing RX9 1 := ax_lkV_of (ax_m2 95 rfl rfl) (ax_m2 97 rfl rfl) (ax_mp1 1 rfl rfl rfl) (ax_m1 1 rfl rfl) lc_X9_isThing rfl ⟨by decide +kernel, by decide +kernel, by decide +kernel⟩
def mu_X9_on : ax_Mu := (yX9_on, cX9_on, 5, some .int, 1, 26)
theorem lc_X9_on : Cond.code mu_X9_on.1 mu_X9_on.2.1 mu_X9_on.2.2.1 mu_X9_on.2.2.2.1 ∈ ax_tb := (ax_m2 94 rfl rfl)
noncomputable def f_X9_on (p1 : Int32) (p2 : Int32) (p3 : Int32) (p4 : Int32) (s : ax_S) : Option (Int32 × ax_S) := (f_X9_isBook p1 s).bind (fun q2 => (if q2 = 0 then some (((-2 : Int32), s)) else (f_X9_isThing p2 s).bind (fun q10 => (if q10 = 0 then some (((-2 : Int32), s)) else (f_X9_isRange p3 p4 (200000 : Int32)).bind (fun q21 => (if q21 = 0 then some (((-2 : Int32), s)) else (f_X7_tell p1 p2 (-1 : Int32) p3 p4 (s.1 0 8) s).bind (fun q44 => some ((q44.1, q44.2)))))))))
theorem T_X9_on (p1 : Int32) (p2 : Int32) (p3 : Int32) (p4 : Int32) (s : ax_S) (r : Int32 × ax_S) (h : f_X9_on p1 p2 p3 p4 s = some r) : ax_M cx_C mu_X9_on (fun ad => [.ref (ad 0), .int p1, .int p2, .int p3, .int p4]) s (some (.int r.1)) r.2 := by
  refine ax_enter (by decide +kernel) 0 (fun ad => [some (.ref (ad 0)), some (.int p1), some (.int p2), some (.int p3), some (.int p4)]) (fun ad => rfl) (fun ad => Nat.le_of_ble_eq_true rfl) (fun X hV ho => ?_)
  refine ax_go (fun r : Int32 × ax_S => (some (Value.int r.1), r.2)) (fun P hP => ?_) h ho
  unfold f_X9_on
  refine ax_j (ax_aload_n hV dX9_on_0 rfl) ?_
  refine ax_j (ax_iload_n hV dX9_on_1 rfl) ?_
  refine ax_jb (fun v ho => ax_cVi hV lk_X9_84 rfl dX9_on_2 rfl rfl [.int p1] [] (fun ad => [.ref (ad 0), .int p1]) rfl rfl rfl rfl v s (T_X9_isBook p1 s v ho)) (fun q2 => ?_)
  refine ax_jif (ax_if_eq hV dX9_on_5) ?_ ?_
  · refine ax_j (ax_bipush hV (-2 : Int32) dX9_on_27 (by decide)) ?_
    exact ax_jl (fun h => ax_ir hV rfl dX9_on_29 (hP ((-2 : Int32), s) h))
  · refine ax_j (ax_aload_n hV dX9_on_8 rfl) ?_
    refine ax_j (ax_iload_n hV dX9_on_9 rfl) ?_
    refine ax_jb (fun v ho => ax_cVi hV lk_X9_92 rfl dX9_on_10 rfl rfl [.int p2] [] (fun ad => [.ref (ad 0), .int p2]) rfl rfl rfl rfl v s (T_X9_isThing p2 s v ho)) (fun q10 => ?_)
    refine ax_jif (ax_if_eq hV dX9_on_13) ?_ ?_
    · refine ax_j (ax_bipush hV (-2 : Int32) dX9_on_27 (by decide)) ?_
      exact ax_jl (fun h => ax_ir hV rfl dX9_on_29 (hP ((-2 : Int32), s) h))
    · refine ax_j (ax_iload_n hV dX9_on_16 rfl) ?_
      refine ax_j (ax_iload hV dX9_on_17 rfl) ?_
      refine ax_j (ax_ldc hV kc_X9_95 dX9_on_19) ?_
      refine ax_jb (fun v ho => ax_cSi hV lk_X9_74 rfl dX9_on_21 [.int p3, .int p4, .int (200000 : Int32)] [] (fun ad => [.int p3, .int p4, .int (200000 : Int32)]) rfl rfl rfl rfl v s (T_X9_isRange p3 p4 (200000 : Int32) s v ho)) (fun q21 => ?_)
      refine ax_jif (ax_if_ne hV dX9_on_24) ?_ ?_
      · refine ax_j (ax_bipush hV (-2 : Int32) dX9_on_27 (by decide)) ?_
        exact ax_jl (fun h => ax_ir hV rfl dX9_on_29 (hP ((-2 : Int32), s) h))
      · refine ax_j (ax_aload_n hV dX9_on_30 rfl) ?_
        refine ax_j (ax_gfr hV lf_X9_25 dX9_on_31 rfl rfl) ?_
        refine ax_j (ax_iload_n hV dX9_on_34 rfl) ?_
        refine ax_j (ax_iload_n hV dX9_on_35 rfl) ?_
        refine ax_j (ax_iconst hV (-1 : Int32) dX9_on_36 (by decide)) ?_
        refine ax_j (ax_iload_n hV dX9_on_37 rfl) ?_
        refine ax_j (ax_iload hV dX9_on_38 rfl) ?_
        refine ax_j (ax_aload_n hV dX9_on_40 rfl) ?_
        refine ax_j (ax_gfi hV lf_X9_61 dX9_on_41 rfl rfl) ?_
        refine ax_jb (fun v ho => ax_cVi hV lk_X9_96 rfl dX9_on_44 rfl rfl [.int p1, .int p2, .int (-1 : Int32), .int p3, .int p4, .int (s.1 0 8)] [] (fun ad => [.ref (ad 2), .int p1, .int p2, .int (-1 : Int32), .int p3, .int p4, .int (s.1 0 8)]) rfl rfl rfl rfl v.1 v.2 (T_X7_tell p1 p2 (-1 : Int32) p3 p4 (s.1 0 8) s v ho)) (fun q44 => ?_)
        exact ax_jl (fun h => ax_ir hV rfl dX9_on_47 (hP (q44.1, q44.2) h))
theorem lk_X9_364 : ax_lkV RX9 364 mu_X9_on RX9 4 := ax_lkV_of (ax_m2 136 rfl rfl) (ax_m2 92 rfl rfl) (ax_m2 93 rfl rfl) (ax_m1 1 rfl rfl) lc_X9_on rfl ⟨by decide +kernel, by decide +kernel, by decide +kernel⟩
def mu_X9_areTwoThings : ax_Mu := (yX9_areTwoThings, cX9_areTwoThings, 3, some .boolean, 1, 21)
theorem lc_X9_areTwoThings : Cond.code mu_X9_areTwoThings.1 mu_X9_areTwoThings.2.1 mu_X9_areTwoThings.2.2.1 mu_X9_areTwoThings.2.2.2.1 ∈ ax_tb := (ax_m2 111 rfl rfl)
noncomputable def f_X9_areTwoThings (p1 : Int32) (p2 : Int32) (s : ax_S) : Option (Int32) := (f_X9_isThing p1 s).bind (fun q2 => (if q2 = 0 then some ((0 : Int32)) else (f_X9_isThing p2 s).bind (fun q10 => (if q10 = 0 then some ((0 : Int32)) else (if p1 = p2 then some ((0 : Int32)) else some ((1 : Int32)))))))
theorem T_X9_areTwoThings (p1 : Int32) (p2 : Int32) (s : ax_S) (r : Int32) (h : f_X9_areTwoThings p1 p2 s = some r) : ax_M cx_C mu_X9_areTwoThings (fun ad => [.ref (ad 0), .int p1, .int p2]) s (some (.int r)) s := by
  refine ax_enter (by decide +kernel) 0 (fun ad => [some (.ref (ad 0)), some (.int p1), some (.int p2)]) (fun ad => rfl) (fun ad => Nat.le_of_ble_eq_true rfl) (fun X hV ho => ?_)
  refine ax_go (fun r : Int32 => (some (Value.int r), s)) (fun P hP => ?_) h ho
  unfold f_X9_areTwoThings
  refine ax_j (ax_aload_n hV dX9_areTwoThings_0 rfl) ?_
  refine ax_j (ax_iload_n hV dX9_areTwoThings_1 rfl) ?_
  refine ax_jb (fun v ho => ax_cVi hV lk_X9_92 rfl dX9_areTwoThings_2 rfl rfl [.int p1] [] (fun ad => [.ref (ad 0), .int p1]) rfl rfl rfl rfl v s (T_X9_isThing p1 s v ho)) (fun q2 => ?_)
  refine ax_jif (ax_if_eq hV dX9_areTwoThings_5) ?_ ?_
  · refine ax_j (ax_iconst hV (0 : Int32) dX9_areTwoThings_25 (by decide)) ?_
    exact ax_jl (fun h => ax_zr hV rfl (by decide) dX9_areTwoThings_26 (hP (0 : Int32) h))
  · refine ax_j (ax_aload_n hV dX9_areTwoThings_8 rfl) ?_
    refine ax_j (ax_iload_n hV dX9_areTwoThings_9 rfl) ?_
    refine ax_jb (fun v ho => ax_cVi hV lk_X9_92 rfl dX9_areTwoThings_10 rfl rfl [.int p2] [] (fun ad => [.ref (ad 0), .int p2]) rfl rfl rfl rfl v s (T_X9_isThing p2 s v ho)) (fun q10 => ?_)
    refine ax_jif (ax_if_eq hV dX9_areTwoThings_13) ?_ ?_
    · refine ax_j (ax_iconst hV (0 : Int32) dX9_areTwoThings_25 (by decide)) ?_
      exact ax_jl (fun h => ax_zr hV rfl (by decide) dX9_areTwoThings_26 (hP (0 : Int32) h))
    · refine ax_j (ax_iload_n hV dX9_areTwoThings_16 rfl) ?_
      refine ax_j (ax_iload_n hV dX9_areTwoThings_17 rfl) ?_
      refine ax_jif (ax_icmp_eq hV dX9_areTwoThings_18) ?_ ?_
      · refine ax_j (ax_iconst hV (0 : Int32) dX9_areTwoThings_25 (by decide)) ?_
        exact ax_jl (fun h => ax_zr hV rfl (by decide) dX9_areTwoThings_26 (hP (0 : Int32) h))
      · refine ax_j (ax_iconst hV (1 : Int32) dX9_areTwoThings_21 (by decide)) ?_
        refine ax_j (ax_goto hV dX9_areTwoThings_22) ?_
        exact ax_jl (fun h => ax_zr hV rfl (by decide) dX9_areTwoThings_26 (hP (1 : Int32) h))
theorem lk_X9_102 : ax_lkV RX9 102 mu_X9_areTwoThings RX9 2 := ax_lkV_of (ax_m2 108 rfl rfl) (ax_m2 110 rfl rfl) (ax_mp1 2 rfl rfl rfl) (ax_m1 1 rfl rfl) lc_X9_areTwoThings rfl ⟨by decide +kernel, by decide +kernel, by decide +kernel⟩
def mu_X9_apart : ax_Mu := (yX9_apart, cX9_apart, 6, some .int, 2, 43)
theorem lc_X9_apart : Cond.code mu_X9_apart.1 mu_X9_apart.2.1 mu_X9_apart.2.2.1 mu_X9_apart.2.2.2.1 ∈ ax_tb := (ax_m2 107 rfl rfl)
noncomputable def f_X9_apart (p1 : Int32) (p2 : Int32) (p3 : Int32) (p4 : Int32) (p5 : Int32) (s : ax_S) : Option (Int32 × ax_S) := (f_X9_isBook p1 s).bind (fun q2 => (if q2 = 0 then some (((-2 : Int32), s)) else (f_X9_areTwoThings p2 p3 s).bind (fun q11 => (if q11 = 0 then some (((-2 : Int32), s)) else (f_X9_isRange p4 p5 (100000 : Int32)).bind (fun q23 => (if q23 = 0 then some (((-2 : Int32), s)) else (f_X7_tell p1 p2 p3 p4 p5 (s.1 0 8) s).bind (fun q47 => some ((q47.1, q47.2)))))))))
theorem T_X9_apart (p1 : Int32) (p2 : Int32) (p3 : Int32) (p4 : Int32) (p5 : Int32) (s : ax_S) (r : Int32 × ax_S) (h : f_X9_apart p1 p2 p3 p4 p5 s = some r) : ax_M cx_C mu_X9_apart (fun ad => [.ref (ad 0), .int p1, .int p2, .int p3, .int p4, .int p5]) s (some (.int r.1)) r.2 := by
  refine ax_enter (by decide +kernel) 0 (fun ad => [some (.ref (ad 0)), some (.int p1), some (.int p2), some (.int p3), some (.int p4), some (.int p5)]) (fun ad => rfl) (fun ad => Nat.le_of_ble_eq_true rfl) (fun X hV ho => ?_)
  refine ax_go (fun r : Int32 × ax_S => (some (Value.int r.1), r.2)) (fun P hP => ?_) h ho
  unfold f_X9_apart
  refine ax_j (ax_aload_n hV dX9_apart_0 rfl) ?_
  refine ax_j (ax_iload_n hV dX9_apart_1 rfl) ?_
  refine ax_jb (fun v ho => ax_cVi hV lk_X9_84 rfl dX9_apart_2 rfl rfl [.int p1] [] (fun ad => [.ref (ad 0), .int p1]) rfl rfl rfl rfl v s (T_X9_isBook p1 s v ho)) (fun q2 => ?_)
  refine ax_jif (ax_if_eq hV dX9_apart_5) ?_ ?_
  · refine ax_j (ax_bipush hV (-2 : Int32) dX9_apart_29 (by decide)) ?_
    exact ax_jl (fun h => ax_ir hV rfl dX9_apart_31 (hP ((-2 : Int32), s) h))
  · refine ax_j (ax_aload_n hV dX9_apart_8 rfl) ?_
    refine ax_j (ax_iload_n hV dX9_apart_9 rfl) ?_
    refine ax_j (ax_iload_n hV dX9_apart_10 rfl) ?_
    refine ax_jb (fun v ho => ax_cVi hV lk_X9_102 rfl dX9_apart_11 rfl rfl [.int p2, .int p3] [] (fun ad => [.ref (ad 0), .int p2, .int p3]) rfl rfl rfl rfl v s (T_X9_areTwoThings p2 p3 s v ho)) (fun q11 => ?_)
    refine ax_jif (ax_if_eq hV dX9_apart_14) ?_ ?_
    · refine ax_j (ax_bipush hV (-2 : Int32) dX9_apart_29 (by decide)) ?_
      exact ax_jl (fun h => ax_ir hV rfl dX9_apart_31 (hP ((-2 : Int32), s) h))
    · refine ax_j (ax_iload hV dX9_apart_17 rfl) ?_
      refine ax_j (ax_iload hV dX9_apart_19 rfl) ?_
      refine ax_j (ax_ldc hV kc_X9_106 dX9_apart_21) ?_
      refine ax_jb (fun v ho => ax_cSi hV lk_X9_74 rfl dX9_apart_23 [.int p4, .int p5, .int (100000 : Int32)] [] (fun ad => [.int p4, .int p5, .int (100000 : Int32)]) rfl rfl rfl rfl v s (T_X9_isRange p4 p5 (100000 : Int32) s v ho)) (fun q23 => ?_)
      refine ax_jif (ax_if_ne hV dX9_apart_26) ?_ ?_
      · refine ax_j (ax_bipush hV (-2 : Int32) dX9_apart_29 (by decide)) ?_
        exact ax_jl (fun h => ax_ir hV rfl dX9_apart_31 (hP ((-2 : Int32), s) h))
      · refine ax_j (ax_aload_n hV dX9_apart_32 rfl) ?_
        refine ax_j (ax_gfr hV lf_X9_25 dX9_apart_33 rfl rfl) ?_
        refine ax_j (ax_iload_n hV dX9_apart_36 rfl) ?_
        refine ax_j (ax_iload_n hV dX9_apart_37 rfl) ?_
        refine ax_j (ax_iload_n hV dX9_apart_38 rfl) ?_
        refine ax_j (ax_iload hV dX9_apart_39 rfl) ?_
        refine ax_j (ax_iload hV dX9_apart_41 rfl) ?_
        refine ax_j (ax_aload_n hV dX9_apart_43 rfl) ?_
        refine ax_j (ax_gfi hV lf_X9_61 dX9_apart_44 rfl rfl) ?_
        refine ax_jb (fun v ho => ax_cVi hV lk_X9_96 rfl dX9_apart_47 rfl rfl [.int p1, .int p2, .int p3, .int p4, .int p5, .int (s.1 0 8)] [] (fun ad => [.ref (ad 2), .int p1, .int p2, .int p3, .int p4, .int p5, .int (s.1 0 8)]) rfl rfl rfl rfl v.1 v.2 (T_X7_tell p1 p2 p3 p4 p5 (s.1 0 8) s v ho)) (fun q47 => ?_)
        exact ax_jl (fun h => ax_ir hV rfl dX9_apart_50 (hP (q47.1, q47.2) h))
theorem lk_X9_367 : ax_lkV RX9 367 mu_X9_apart RX9 5 := ax_lkV_of (ax_m2 137 rfl rfl) (ax_m2 105 rfl rfl) (ax_m2 106 rfl rfl) (ax_m1 1 rfl rfl) lc_X9_apart rfl ⟨by decide +kernel, by decide +kernel, by decide +kernel⟩
def mu_X9_isSheet : ax_Mu := (yX9_isSheet, cX9_isSheet, 1, some .boolean, 0, 0)
theorem lc_X9_isSheet : Cond.code mu_X9_isSheet.1 mu_X9_isSheet.2.1 mu_X9_isSheet.2.2.1 mu_X9_isSheet.2.2.2.1 ∈ ax_tb := (ax_m2 119 rfl rfl)
noncomputable def f_X9_isSheet (p1 : Int32) : Option (Int32) := (if p1 < 0 then some ((0 : Int32)) else (if (4 : Int32) ≤ p1 then some ((0 : Int32)) else some ((1 : Int32))))
theorem T_X9_isSheet (p1 : Int32) (s : ax_S) (r : Int32) (h : f_X9_isSheet p1 = some r) : ax_M cx_C mu_X9_isSheet (fun ad => [.int p1]) s (some (.int r)) s := by
  refine ax_enter (by decide +kernel) 0 (fun ad => [some (.int p1)]) (fun ad => rfl) (fun ad => Nat.le_of_ble_eq_true rfl) (fun X hV ho => ?_)
  refine ax_go (fun r : Int32 => (some (Value.int r), s)) (fun P hP => ?_) h ho
  unfold f_X9_isSheet
  refine ax_j (ax_iload_n hV dX9_isSheet_0 rfl) ?_
  refine ax_jif (ax_if_lt hV dX9_isSheet_1) ?_ ?_
  · refine ax_j (ax_iconst hV (0 : Int32) dX9_isSheet_13 (by decide)) ?_
    exact ax_jl (fun h => ax_zr hV rfl (by decide) dX9_isSheet_14 (hP (0 : Int32) h))
  · refine ax_j (ax_iload_n hV dX9_isSheet_4 rfl) ?_
    refine ax_j (ax_iconst hV (4 : Int32) dX9_isSheet_5 (by decide)) ?_
    refine ax_jif (ax_icmp_ge hV dX9_isSheet_6) ?_ ?_
    · refine ax_j (ax_iconst hV (0 : Int32) dX9_isSheet_13 (by decide)) ?_
      exact ax_jl (fun h => ax_zr hV rfl (by decide) dX9_isSheet_14 (hP (0 : Int32) h))
    · refine ax_j (ax_iconst hV (1 : Int32) dX9_isSheet_9 (by decide)) ?_
      refine ax_j (ax_goto hV dX9_isSheet_10) ?_
      exact ax_jl (fun h => ax_zr hV rfl (by decide) dX9_isSheet_14 (hP (1 : Int32) h))
theorem lk_X9_107 : ax_lkS RX9 107 mu_X9_isSheet 1 := ax_lkS_of (ax_m2 117 rfl rfl) (ax_m2 118 rfl rfl) (ax_m1 1 rfl rfl) lc_X9_isSheet ⟨by decide +kernel, by decide +kernel, by decide +kernel⟩
def mu_X9_found : ax_Mu := (yX9_found, cX9_found, 2, some .int, 0, 0)
theorem lc_X9_found : Cond.code mu_X9_found.1 mu_X9_found.2.1 mu_X9_found.2.2.1 mu_X9_found.2.2.2.1 ∈ ax_tb := (ax_m2 127 rfl rfl)
noncomputable def f_X9_found (p1 : Int32) (s : ax_S) : Option (Int32 × ax_S) := some ((((-10 : Int32) - p1), (ax_ui s 0 11 p1)))
theorem T_X9_found (p1 : Int32) (s : ax_S) (r : Int32 × ax_S) (h : f_X9_found p1 s = some r) : ax_M cx_C mu_X9_found (fun ad => [.ref (ad 0), .int p1]) s (some (.int r.1)) r.2 := by
  refine ax_enter (by decide +kernel) 0 (fun ad => [some (.ref (ad 0)), some (.int p1)]) (fun ad => rfl) (fun ad => Nat.le_of_ble_eq_true rfl) (fun X hV ho => ?_)
  refine ax_go (fun r : Int32 × ax_S => (some (Value.int r.1), r.2)) (fun P hP => ?_) h ho
  unfold f_X9_found
  refine ax_j (ax_aload_n hV dX9_found_0 rfl) ?_
  refine ax_j (ax_iload_n hV dX9_found_1 rfl) ?_
  refine ax_j (ax_pfi hV lp_X9_71 dX9_found_2 rfl rfl) ?_
  refine ax_j (ax_bipush hV (-10 : Int32) dX9_found_5 (by decide)) ?_
  refine ax_j (ax_iload_n hV dX9_found_7 rfl) ?_
  refine ax_j (ax_isub hV dX9_found_8) ?_
  exact ax_jl (fun h => ax_ir hV rfl dX9_found_9 (hP (((-10 : Int32) - p1), (ax_ui s 0 11 p1)) h))
theorem lk_X9_113 : ax_lkV RX9 113 mu_X9_found RX9 1 := ax_lkV_of (ax_m2 124 rfl rfl) (ax_m2 126 rfl rfl) (ax_mp1 3 rfl rfl rfl) (ax_m1 1 rfl rfl) lc_X9_found rfl ⟨by decide +kernel, by decide +kernel, by decide +kernel⟩
def mu_X9_tellFromSheet : ax_Mu := (yX9_tellFromSheet, cX9_tellFromSheet, 8, some .int, 3, 68)
theorem lc_X9_tellFromSheet : Cond.code mu_X9_tellFromSheet.1 mu_X9_tellFromSheet.2.1 mu_X9_tellFromSheet.2.2.1 mu_X9_tellFromSheet.2.2.2.1 ∈ ax_tb := (ax_m2 131 rfl rfl)
noncomputable def f_X9_tellFromSheet (p1 : Int32) (p2 : Int32) (s : ax_S) : Option (Int32 × ax_S) := (f_X8_item p1 p2 s).bind (fun q6 => (f_X8_item p1 (p2 + (1 : Int32)) s).bind (fun q18 => (f_X8_item p1 (p2 + (2 : Int32)) s).bind (fun q31 => (f_X8_item p1 (p2 + (3 : Int32)) s).bind (fun q44 => (f_X8_item p1 (p2 + (4 : Int32)) s).bind (fun q57 => (if q31 = (-1 : Int32) then (f_X9_on q6 q18 q44 q57 s).bind (fun q76 => some ((q76.1, q76.2))) else (f_X9_apart q6 q18 q31 q44 q57 s).bind (fun q92 => some ((q92.1, q92.2)))))))))
theorem T_X9_tellFromSheet (p1 : Int32) (p2 : Int32) (s : ax_S) (r : Int32 × ax_S) (h : f_X9_tellFromSheet p1 p2 s = some r) : ax_M cx_C mu_X9_tellFromSheet (fun ad => [.ref (ad 0), .int p1, .int p2]) s (some (.int r.1)) r.2 := by
  refine ax_enter (by decide +kernel) 5 (fun ad => [some (.ref (ad 0)), some (.int p1), some (.int p2), none, none, none, none, none]) (fun ad => rfl) (fun ad => Nat.le_of_ble_eq_true rfl) (fun X hV ho => ?_)
  refine ax_go (fun r : Int32 × ax_S => (some (Value.int r.1), r.2)) (fun P hP => ?_) h ho
  unfold f_X9_tellFromSheet
  refine ax_j (ax_aload_n hV dX9_tellFromSheet_0 rfl) ?_
  refine ax_j (ax_gfr hV lf_X9_57 dX9_tellFromSheet_1 rfl rfl) ?_
  refine ax_j (ax_iload_n hV dX9_tellFromSheet_4 rfl) ?_
  refine ax_j (ax_iload_n hV dX9_tellFromSheet_5 rfl) ?_
  refine ax_jb (fun v ho => ax_cVi hV lk_X9_318 rfl dX9_tellFromSheet_6 rfl rfl [.int p1, .int p2] [] (fun ad => [.ref (ad 8), .int p1, .int p2]) rfl rfl rfl rfl v s (T_X8_item p1 p2 s v ho)) (fun q6 => ?_)
  refine ax_j (ax_istore_n hV [some (.ref (ax_ad (cx_C, X) 0)), some (.int p1), some (.int p2), some (.int q6), none, none, none, none] dX9_tellFromSheet_9 rfl rfl) ?_
  refine ax_j (ax_aload_n hV dX9_tellFromSheet_10 rfl) ?_
  refine ax_j (ax_gfr hV lf_X9_57 dX9_tellFromSheet_11 rfl rfl) ?_
  refine ax_j (ax_iload_n hV dX9_tellFromSheet_14 rfl) ?_
  refine ax_j (ax_iload_n hV dX9_tellFromSheet_15 rfl) ?_
  refine ax_j (ax_iconst hV (1 : Int32) dX9_tellFromSheet_16 (by decide)) ?_
  refine ax_j (ax_iadd hV dX9_tellFromSheet_17) ?_
  refine ax_jb (fun v ho => ax_cVi hV lk_X9_318 rfl dX9_tellFromSheet_18 rfl rfl [.int p1, .int (p2 + (1 : Int32))] [] (fun ad => [.ref (ad 8), .int p1, .int (p2 + (1 : Int32))]) rfl rfl rfl rfl v s (T_X8_item p1 (p2 + (1 : Int32)) s v ho)) (fun q18 => ?_)
  refine ax_j (ax_istore hV [some (.ref (ax_ad (cx_C, X) 0)), some (.int p1), some (.int p2), some (.int q6), some (.int q18), none, none, none] dX9_tellFromSheet_21 rfl rfl) ?_
  refine ax_j (ax_aload_n hV dX9_tellFromSheet_23 rfl) ?_
  refine ax_j (ax_gfr hV lf_X9_57 dX9_tellFromSheet_24 rfl rfl) ?_
  refine ax_j (ax_iload_n hV dX9_tellFromSheet_27 rfl) ?_
  refine ax_j (ax_iload_n hV dX9_tellFromSheet_28 rfl) ?_
  refine ax_j (ax_iconst hV (2 : Int32) dX9_tellFromSheet_29 (by decide)) ?_
  refine ax_j (ax_iadd hV dX9_tellFromSheet_30) ?_
  refine ax_jb (fun v ho => ax_cVi hV lk_X9_318 rfl dX9_tellFromSheet_31 rfl rfl [.int p1, .int (p2 + (2 : Int32))] [] (fun ad => [.ref (ad 8), .int p1, .int (p2 + (2 : Int32))]) rfl rfl rfl rfl v s (T_X8_item p1 (p2 + (2 : Int32)) s v ho)) (fun q31 => ?_)
  refine ax_j (ax_istore hV [some (.ref (ax_ad (cx_C, X) 0)), some (.int p1), some (.int p2), some (.int q6), some (.int q18), some (.int q31), none, none] dX9_tellFromSheet_34 rfl rfl) ?_
  refine ax_j (ax_aload_n hV dX9_tellFromSheet_36 rfl) ?_
  refine ax_j (ax_gfr hV lf_X9_57 dX9_tellFromSheet_37 rfl rfl) ?_
  refine ax_j (ax_iload_n hV dX9_tellFromSheet_40 rfl) ?_
  refine ax_j (ax_iload_n hV dX9_tellFromSheet_41 rfl) ?_
  refine ax_j (ax_iconst hV (3 : Int32) dX9_tellFromSheet_42 (by decide)) ?_
  refine ax_j (ax_iadd hV dX9_tellFromSheet_43) ?_
  refine ax_jb (fun v ho => ax_cVi hV lk_X9_318 rfl dX9_tellFromSheet_44 rfl rfl [.int p1, .int (p2 + (3 : Int32))] [] (fun ad => [.ref (ad 8), .int p1, .int (p2 + (3 : Int32))]) rfl rfl rfl rfl v s (T_X8_item p1 (p2 + (3 : Int32)) s v ho)) (fun q44 => ?_)
  refine ax_j (ax_istore hV [some (.ref (ax_ad (cx_C, X) 0)), some (.int p1), some (.int p2), some (.int q6), some (.int q18), some (.int q31), some (.int q44), none] dX9_tellFromSheet_47 rfl rfl) ?_
  refine ax_j (ax_aload_n hV dX9_tellFromSheet_49 rfl) ?_
  refine ax_j (ax_gfr hV lf_X9_57 dX9_tellFromSheet_50 rfl rfl) ?_
  refine ax_j (ax_iload_n hV dX9_tellFromSheet_53 rfl) ?_
  refine ax_j (ax_iload_n hV dX9_tellFromSheet_54 rfl) ?_
  refine ax_j (ax_iconst hV (4 : Int32) dX9_tellFromSheet_55 (by decide)) ?_
  refine ax_j (ax_iadd hV dX9_tellFromSheet_56) ?_
  refine ax_jb (fun v ho => ax_cVi hV lk_X9_318 rfl dX9_tellFromSheet_57 rfl rfl [.int p1, .int (p2 + (4 : Int32))] [] (fun ad => [.ref (ad 8), .int p1, .int (p2 + (4 : Int32))]) rfl rfl rfl rfl v s (T_X8_item p1 (p2 + (4 : Int32)) s v ho)) (fun q57 => ?_)
  refine ax_j (ax_istore hV [some (.ref (ax_ad (cx_C, X) 0)), some (.int p1), some (.int p2), some (.int q6), some (.int q18), some (.int q31), some (.int q44), some (.int q57)] dX9_tellFromSheet_60 rfl rfl) ?_
  refine ax_j (ax_iload hV dX9_tellFromSheet_62 rfl) ?_
  refine ax_j (ax_iconst hV (-1 : Int32) dX9_tellFromSheet_64 (by decide)) ?_
  refine ax_jif (ax_icmp_ne hV dX9_tellFromSheet_65) ?_ ?_
  · refine ax_j (ax_aload_n hV dX9_tellFromSheet_68 rfl) ?_
    refine ax_j (ax_iload_n hV dX9_tellFromSheet_69 rfl) ?_
    refine ax_j (ax_iload hV dX9_tellFromSheet_70 rfl) ?_
    refine ax_j (ax_iload hV dX9_tellFromSheet_72 rfl) ?_
    refine ax_j (ax_iload hV dX9_tellFromSheet_74 rfl) ?_
    refine ax_jb (fun v ho => ax_cVi hV lk_X9_364 rfl dX9_tellFromSheet_76 rfl rfl [.int q6, .int q18, .int q44, .int q57] [] (fun ad => [.ref (ad 0), .int q6, .int q18, .int q44, .int q57]) rfl rfl rfl rfl v.1 v.2 (T_X9_on q6 q18 q44 q57 s v ho)) (fun q76 => ?_)
    refine ax_j (ax_goto hV dX9_tellFromSheet_79) ?_
    exact ax_jl (fun h => ax_ir hV rfl dX9_tellFromSheet_95 (hP (q76.1, q76.2) h))
  · refine ax_j (ax_aload_n hV dX9_tellFromSheet_82 rfl) ?_
    refine ax_j (ax_iload_n hV dX9_tellFromSheet_83 rfl) ?_
    refine ax_j (ax_iload hV dX9_tellFromSheet_84 rfl) ?_
    refine ax_j (ax_iload hV dX9_tellFromSheet_86 rfl) ?_
    refine ax_j (ax_iload hV dX9_tellFromSheet_88 rfl) ?_
    refine ax_j (ax_iload hV dX9_tellFromSheet_90 rfl) ?_
    refine ax_jb (fun v ho => ax_cVi hV lk_X9_367 rfl dX9_tellFromSheet_92 rfl rfl [.int q6, .int q18, .int q31, .int q44, .int q57] [] (fun ad => [.ref (ad 0), .int q6, .int q18, .int q31, .int q44, .int q57]) rfl rfl rfl rfl v.1 v.2 (T_X9_apart q6 q18 q31 q44 q57 s v ho)) (fun q92 => ?_)
    exact ax_jl (fun h => ax_ir hV rfl dX9_tellFromSheet_95 (hP (q92.1, q92.2) h))
theorem lk_X9_120 : ax_lkV RX9 120 mu_X9_tellFromSheet RX9 2 := ax_lkV_of (ax_m2 128 rfl rfl) (ax_m2 130 rfl rfl) (ax_mp1 4 rfl rfl rfl) (ax_m1 1 rfl rfl) lc_X9_tellFromSheet rfl ⟨by decide +kernel, by decide +kernel, by decide +kernel⟩
def mu_X9_read : ax_Mu := (yX9_read, cX9_read, 4, some .int, 4, 95)
theorem lc_X9_read : Cond.code mu_X9_read.1 mu_X9_read.2.1 mu_X9_read.2.2.1 mu_X9_read.2.2.2.1 ∈ ax_tb := (ax_m2 116 rfl rfl)
noncomputable def b_X9_read_41 (l1 : Int32) (l2 : Int32) (a : Int32 × ax_S) : Option ((Int32 × ax_S) ⊕ ((ax_S) ⊕ (Int32 × ax_S))) := (if l2 ≤ a.1 then some (.inr (.inl a.2)) else (f_X9_tellFromSheet l1 (a.1 * (5 : Int32)) a.2).bind (fun q51 => (if 0 ≤ q51.1 then some (.inl ((a.1 + 1), q51.2)) else some (.inr (.inr (a.1, q51.2))))))
noncomputable def f_X9_read (p1 : Int32) (s : ax_S) : Option (Int32 × ax_S) := (f_X9_isSheet p1).bind (fun q1 => (if q1 = 0 then some (((-2 : Int32), s)) else (f_X8_isLost p1 s).bind (fun q15 => (if q15 = 0 then (ax_ai cx_C s 38 p1).bind (fun v35 => (ax_idiv v35 (5 : Int32)).bind (fun v37 => (ax_lp (b_X9_read_41 p1 v37) ((0 : Int32), s)).bind (Sum.elim (fun e41 => some ((v37, e41))) (fun r => some (r))))) else (f_X9_found (1 : Int32) s).bind (fun q23 => some ((q23.1, q23.2)))))))
theorem B_X9_read_41 (X : ax_G × ax_K × Option Value × ax_S) (hV : ax_ok (cx_C, X) mu_X9_read) (l1 : Int32) (l2 : Int32) (P : ((Int32 × ax_S) ⊕ ((ax_S) ⊕ (Int32 × ax_S))) → Prop) (hI : ∀ a : Int32 × ax_S, P (.inl a) → ax_At (cx_C, X) 41 [some (.ref (ax_ad (cx_C, X) 0)), some (.int l1), some (.int l2), some (.int a.1)] [] a.2) (hO : ∀ e : ax_S, P (.inr (.inl e)) → ax_At (cx_C, X) 65 [none, none, some (.int l2), none] [] e) (hR : ∀ r : Int32 × ax_S, P (.inr (.inr r)) → X.2.2 = (fun r : Int32 × ax_S => (some (Value.int r.1), r.2)) r) (a : Int32 × ax_S) : ax_J (cx_C, X) P 41 [some (.ref (ax_ad (cx_C, X) 0)), some (.int l1), some (.int l2), some (.int a.1)] [] a.2 (b_X9_read_41 l1 l2 a) := by
  unfold b_X9_read_41
  refine ax_j (ax_iload_n hV dX9_read_41 rfl) ?_
  refine ax_j (ax_iload_n hV dX9_read_42 rfl) ?_
  refine ax_jif (ax_icmp_ge hV dX9_read_43) ?_ ?_
  · refine ax_jf (lv' := [none, none, some (.int l2), none]) [false, false, true, false] rfl ?_
    exact ax_jl (fun h => hO a.2 h)
  · refine ax_j (ax_aload_n hV dX9_read_46 rfl) ?_
    refine ax_j (ax_iload_n hV dX9_read_47 rfl) ?_
    refine ax_j (ax_iload_n hV dX9_read_48 rfl) ?_
    refine ax_j (ax_iconst hV (5 : Int32) dX9_read_49 (by decide)) ?_
    refine ax_j (ax_imul hV dX9_read_50) ?_
    refine ax_jb (fun v ho => ax_cVi hV lk_X9_120 rfl dX9_read_51 rfl rfl [.int l1, .int (a.1 * (5 : Int32))] [] (fun ad => [.ref (ad 0), .int l1, .int (a.1 * (5 : Int32))]) rfl rfl rfl rfl v.1 v.2 (T_X9_tellFromSheet l1 (a.1 * (5 : Int32)) a.2 v ho)) (fun q51 => ?_)
    refine ax_jif (ax_if_ge hV dX9_read_54) ?_ ?_
    · refine ax_j (ax_iinc hV (a.1 + 1) [some (.ref (ax_ad (cx_C, X) 0)), some (.int l1), some (.int l2), some (.int (a.1 + 1))] dX9_read_59 rfl rfl rfl rfl) ?_
      refine ax_j (ax_goto hV dX9_read_62) ?_
      exact ax_jl (fun h => hI ((a.1 + 1), q51.2) h)
    · refine ax_j (ax_iload_n hV dX9_read_57 rfl) ?_
      exact ax_jl (fun h => ax_ir hV rfl dX9_read_58 (hR (a.1, q51.2) h))
theorem T_X9_read (p1 : Int32) (s : ax_S) (r : Int32 × ax_S) (h : f_X9_read p1 s = some r) : ax_M cx_C mu_X9_read (fun ad => [.ref (ad 0), .int p1]) s (some (.int r.1)) r.2 := by
  refine ax_enter (by decide +kernel) 2 (fun ad => [some (.ref (ad 0)), some (.int p1), none, none]) (fun ad => rfl) (fun ad => Nat.le_of_ble_eq_true rfl) (fun X hV ho => ?_)
  refine ax_go (fun r : Int32 × ax_S => (some (Value.int r.1), r.2)) (fun P hP => ?_) h ho
  unfold f_X9_read
  refine ax_j (ax_iload_n hV dX9_read_0 rfl) ?_
  refine ax_jb (fun v ho => ax_cSi hV lk_X9_107 rfl dX9_read_1 [.int p1] [] (fun ad => [.int p1]) rfl rfl rfl rfl v s (T_X9_isSheet p1 s v ho)) (fun q1 => ?_)
  refine ax_jif (ax_if_ne hV dX9_read_4) ?_ ?_
  · refine ax_j (ax_bipush hV (-2 : Int32) dX9_read_7 (by decide)) ?_
    exact ax_jl (fun h => ax_ir hV rfl dX9_read_9 (hP ((-2 : Int32), s) h))
  · refine ax_j (ax_aload_n hV dX9_read_10 rfl) ?_
    refine ax_j (ax_gfr hV lf_X9_57 dX9_read_11 rfl rfl) ?_
    refine ax_j (ax_iload_n hV dX9_read_14 rfl) ?_
    refine ax_jb (fun v ho => ax_cVi hV lk_X9_110 rfl dX9_read_15 rfl rfl [.int p1] [] (fun ad => [.ref (ad 8), .int p1]) rfl rfl rfl rfl v s (T_X8_isLost p1 s v ho)) (fun q15 => ?_)
    refine ax_jif (ax_if_eq hV dX9_read_18) ?_ ?_
    · refine ax_j (ax_aload_n hV dX9_read_27 rfl) ?_
      refine ax_j (ax_gfr hV lf_X9_57 dX9_read_28 rfl rfl) ?_
      refine ax_j (ax_gfr hV lf_X9_117 dX9_read_31 rfl rfl) ?_
      refine ax_j (ax_iload_n hV dX9_read_34 rfl) ?_
      refine ax_jb (ax_iald hV dX9_read_35) (fun v35 => ?_)
      refine ax_j (ax_iconst hV (5 : Int32) dX9_read_36 (by decide)) ?_
      refine ax_jb (ax_idiv_ hV dX9_read_37) (fun v37 => ?_)
      refine ax_j (ax_istore_n hV [some (.ref (ax_ad (cx_C, X) 0)), some (.int p1), some (.int v37), none] dX9_read_38 rfl rfl) ?_
      refine ax_j (ax_iconst hV (0 : Int32) dX9_read_39 (by decide)) ?_
      refine ax_j (ax_istore_n hV [some (.ref (ax_ad (cx_C, X) 0)), some (.int p1), some (.int v37), some (.int (0 : Int32))] dX9_read_40 rfl rfl) ?_
      refine ax_jlr ((0 : Int32), s) (fun x41 : Int32 × ax_S => [some (.ref (ax_ad (cx_C, X) 0)), some (.int p1), some (.int v37), some (.int x41.1)]) (fun x41 : Int32 × ax_S => x41.2) (fun y41 : ax_S => [none, none, some (.int v37), none]) (fun y41 : ax_S => y41) (fun P' h1 h2 h3 w => B_X9_read_41 X hV p1 v37 P' h1 h2 (fun r h => hP r (h3 r h)) w) (fun e41 => ?_)
      refine ax_j (ax_iload_n hV dX9_read_65 rfl) ?_
      exact ax_jl (fun h => ax_ir hV rfl dX9_read_66 (hP (v37, e41) h))
    · refine ax_j (ax_aload_n hV dX9_read_21 rfl) ?_
      refine ax_j (ax_iconst hV (1 : Int32) dX9_read_22 (by decide)) ?_
      refine ax_jb (fun v ho => ax_cVi hV lk_X9_113 rfl dX9_read_23 rfl rfl [.int (1 : Int32)] [] (fun ad => [.ref (ad 0), .int (1 : Int32)]) rfl rfl rfl rfl v.1 v.2 (T_X9_found (1 : Int32) s v ho)) (fun q23 => ?_)
      exact ax_jl (fun h => ax_ir hV rfl dX9_read_26 (hP (q23.1, q23.2) h))
def mu_X9_isRow : ax_Mu := (yX9_isRow, cX9_isRow, 2, some .boolean, 0, 0)
theorem lc_X9_isRow : Cond.code mu_X9_isRow.1 mu_X9_isRow.2.1 mu_X9_isRow.2.2.1 mu_X9_isRow.2.2.2.1 ∈ ax_tb := (ax_m2 145 rfl rfl)
noncomputable def f_X9_isRow (p1 : Int32) (s : ax_S) : Option (Int32) := (if p1 < 0 then some ((0 : Int32)) else (if (s.1 2 7) ≤ p1 then some ((0 : Int32)) else some ((1 : Int32))))
theorem T_X9_isRow (p1 : Int32) (s : ax_S) (r : Int32) (h : f_X9_isRow p1 s = some r) : ax_M cx_C mu_X9_isRow (fun ad => [.ref (ad 0), .int p1]) s (some (.int r)) s := by
  refine ax_enter (by decide +kernel) 0 (fun ad => [some (.ref (ad 0)), some (.int p1)]) (fun ad => rfl) (fun ad => Nat.le_of_ble_eq_true rfl) (fun X hV ho => ?_)
  refine ax_go (fun r : Int32 => (some (Value.int r), s)) (fun P hP => ?_) h ho
  unfold f_X9_isRow
  refine ax_j (ax_iload_n hV dX9_isRow_0 rfl) ?_
  refine ax_jif (ax_if_lt hV dX9_isRow_1) ?_ ?_
  · refine ax_j (ax_iconst hV (0 : Int32) dX9_isRow_19 (by decide)) ?_
    exact ax_jl (fun h => ax_zr hV rfl (by decide) dX9_isRow_20 (hP (0 : Int32) h))
  · refine ax_j (ax_iload_n hV dX9_isRow_4 rfl) ?_
    refine ax_j (ax_aload_n hV dX9_isRow_5 rfl) ?_
    refine ax_j (ax_gfr hV lf_X9_25 dX9_isRow_6 rfl rfl) ?_
    refine ax_j (ax_gfi hV lf_X9_159 dX9_isRow_9 rfl rfl) ?_
    refine ax_jif (ax_icmp_ge hV dX9_isRow_12) ?_ ?_
    · refine ax_j (ax_iconst hV (0 : Int32) dX9_isRow_19 (by decide)) ?_
      exact ax_jl (fun h => ax_zr hV rfl (by decide) dX9_isRow_20 (hP (0 : Int32) h))
    · refine ax_j (ax_iconst hV (1 : Int32) dX9_isRow_15 (by decide)) ?_
      refine ax_j (ax_goto hV dX9_isRow_16) ?_
      exact ax_jl (fun h => ax_zr hV rfl (by decide) dX9_isRow_20 (hP (1 : Int32) h))
theorem lk_X9_123 : ax_lkV RX9 123 mu_X9_isRow RX9 1 := ax_lkV_of (ax_m2 142 rfl rfl) (ax_m2 144 rfl rfl) (ax_mp1 5 rfl rfl rfl) (ax_m1 1 rfl rfl) lc_X9_isRow rfl ⟨by decide +kernel, by decide +kernel, by decide +kernel⟩

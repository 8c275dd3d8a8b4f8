def mu_X10_ones : ax_Mu := (yX10_ones, cX10_ones, 3, some .int, 0, 0)
theorem lc_X10_ones : Cond.code mu_X10_ones.1 mu_X10_ones.2.1 mu_X10_ones.2.2.1 mu_X10_ones.2.2.2.1 ∈ ax_tb := (ax_m6 18 rfl rfl)
noncomputable def b_X10_ones_4 (l0 : Int32) (a : Int32 × Int32) : Option ((Int32 × Int32) ⊕ (Int32)) := (if (12 : Int32) ≤ a.2 then some (.inr a.1) else some (.inl ((a.1 + ((l0 >>> (a.2 &&& 31)) &&& (1 : Int32))), (a.2 + 1))))
noncomputable def f_X10_ones (p1 : Int32) : Option (Int32) := (ax_lp (b_X10_ones_4 p1) ((0 : Int32), (0 : Int32))).bind (fun e4 => some (e4))
theorem B_X10_ones_4 (X : ax_G × ax_K × Option Value × ax_S) (hV : ax_ok (cx_R, X) mu_X10_ones) (l0 : Int32) (s : ax_S) (P : ((Int32 × Int32) ⊕ (Int32)) → Prop) (hI : ∀ a : Int32 × Int32, P (.inl a) → ax_At (cx_R, X) 4 [some (.int l0), some (.int a.1), some (.int a.2)] [] s) (hO : ∀ e : Int32, P (.inr e) → ax_At (cx_R, X) 24 [none, some (.int e), none] [] s) (a : Int32 × Int32) : ax_J (cx_R, X) P 4 [some (.int l0), some (.int a.1), some (.int a.2)] [] s (b_X10_ones_4 l0 a) := by
  unfold b_X10_ones_4
  refine ax_j (ax_iload_n hV dX10_ones_4 rfl) ?_
  refine ax_j (ax_bipush hV (12 : Int32) dX10_ones_5 (by decide)) ?_
  refine ax_jif (ax_icmp_ge hV dX10_ones_7) ?_ ?_
  · refine ax_jf (lv' := [none, some (.int a.1), none]) [false, true, false] rfl ?_
    exact ax_jl (fun h => hO a.1 h)
  · refine ax_j (ax_iload_n hV dX10_ones_10 rfl) ?_
    refine ax_j (ax_iload_n hV dX10_ones_11 rfl) ?_
    refine ax_j (ax_iload_n hV dX10_ones_12 rfl) ?_
    refine ax_j (ax_ishr hV dX10_ones_13) ?_
    refine ax_j (ax_iconst hV (1 : Int32) dX10_ones_14 (by decide)) ?_
    refine ax_j (ax_iand hV dX10_ones_15) ?_
    refine ax_j (ax_iadd hV dX10_ones_16) ?_
    refine ax_j (ax_istore_n hV [some (.int l0), some (.int (a.1 + ((l0 >>> (a.2 &&& 31)) &&& (1 : Int32)))), some (.int a.2)] dX10_ones_17 rfl rfl) ?_
    refine ax_j (ax_iinc hV (a.2 + 1) [some (.int l0), some (.int (a.1 + ((l0 >>> (a.2 &&& 31)) &&& (1 : Int32)))), some (.int (a.2 + 1))] dX10_ones_18 rfl rfl rfl rfl) ?_
    refine ax_j (ax_goto hV dX10_ones_21) ?_
    exact ax_jl (fun h => hI ((a.1 + ((l0 >>> (a.2 &&& 31)) &&& (1 : Int32))), (a.2 + 1)) h)
theorem T_X10_ones (p1 : Int32) (s : ax_S) (r : Int32) (h : f_X10_ones p1 = some r) : ax_M cx_R mu_X10_ones (fun ad => [.int p1]) s (some (.int r)) s := by
  refine ax_enter (by decide +kernel) 2 (fun ad => [some (.int p1), none, none]) (fun ad => rfl) (fun ad => Nat.le_of_ble_eq_true rfl) (fun X hV ho => ?_)
  refine ax_go (fun r : Int32 => (some (Value.int r), s)) (fun P hP => ?_) h ho
  unfold f_X10_ones
  refine ax_j (ax_iconst hV (0 : Int32) dX10_ones_0 (by decide)) ?_
  refine ax_j (ax_istore_n hV [some (.int p1), some (.int (0 : Int32)), none] dX10_ones_1 rfl rfl) ?_
  refine ax_j (ax_iconst hV (0 : Int32) dX10_ones_2 (by decide)) ?_
  refine ax_j (ax_istore_n hV [some (.int p1), some (.int (0 : Int32)), some (.int (0 : Int32))] dX10_ones_3 rfl rfl) ?_
  refine ax_jlp ((0 : Int32), (0 : Int32)) (fun x4 : Int32 × Int32 => [some (.int p1), some (.int x4.1), some (.int x4.2)]) (fun x4 : Int32 × Int32 => s) (fun y4 : Int32 => [none, some (.int y4), none]) (fun y4 : Int32 => s) (fun P' h1 h2 w => B_X10_ones_4 X hV p1 s P' h1 h2 w) (fun e4 => ?_)
  refine ax_j (ax_iload_n hV dX10_ones_24 rfl) ?_
  exact ax_jl (fun h => ax_ir hV rfl dX10_ones_25 (hP e4 h))
theorem lk_X10_222 : ax_lkS RX10 222 mu_X10_ones 1 := ax_lkS_of (ax_m6 16 rfl rfl) (ax_m6 17 rfl rfl) (ax_m1 10 rfl rfl) lc_X10_ones ⟨by decide +kernel, by decide +kernel, by decide +kernel⟩
def mu_X10_trustOfSet : ax_Mu := (yX10_trustOfSet, cX10_trustOfSet, 4, some .int, 0, 0)
theorem lc_X10_trustOfSet : Cond.code mu_X10_trustOfSet.1 mu_X10_trustOfSet.2.1 mu_X10_trustOfSet.2.2.1 mu_X10_trustOfSet.2.2.2.1 ∈ ax_tb := (ax_m6 26 rfl rfl)
noncomputable def b_X10_trustOfSet_4 (l1 : Int32) (s : ax_S) (a : Int32 × Int32) : Option ((Int32 × Int32) ⊕ (Int32)) := (if (s.1 0 25) ≤ a.2 then some (.inr a.1) else (if ((l1 >>> (a.2 &&& 31)) &&& (1 : Int32)) = (1 : Int32) then (ax_ai cx_R s 17 a.2).bind (fun v35 => (ax_ai cx_R s 4 v35).bind (fun v36 => (ax_ai cx_R s 3 v36).bind (fun v37 => some (.inl ((a.1 + v37), (a.2 + 1)))))) else some (.inl ((a.1 + (0 : Int32)), (a.2 + 1)))))
noncomputable def f_X10_trustOfSet (p1 : Int32) (s : ax_S) : Option (Int32) := (ax_lp (b_X10_trustOfSet_4 p1 s) ((0 : Int32), (0 : Int32))).bind (fun e4 => some (e4))
theorem B_X10_trustOfSet_4 (X : ax_G × ax_K × Option Value × ax_S) (hV : ax_ok (cx_R, X) mu_X10_trustOfSet) (l1 : Int32) (s : ax_S) (P : ((Int32 × Int32) ⊕ (Int32)) → Prop) (hI : ∀ a : Int32 × Int32, P (.inl a) → ax_At (cx_R, X) 4 [some (.ref (ax_ad (cx_R, X) 0)), some (.int l1), some (.int a.1), some (.int a.2)] [] s) (hO : ∀ e : Int32, P (.inr e) → ax_At (cx_R, X) 50 [none, none, some (.int e), none] [] s) (a : Int32 × Int32) : ax_J (cx_R, X) P 4 [some (.ref (ax_ad (cx_R, X) 0)), some (.int l1), some (.int a.1), some (.int a.2)] [] s (b_X10_trustOfSet_4 l1 s a) := by
  unfold b_X10_trustOfSet_4
  refine ax_j (ax_iload_n hV dX10_trustOfSet_4 rfl) ?_
  refine ax_j (ax_aload_n hV dX10_trustOfSet_5 rfl) ?_
  refine ax_j (ax_gfi hV lf_X10_215 dX10_trustOfSet_6 rfl rfl) ?_
  refine ax_jif (ax_icmp_ge hV dX10_trustOfSet_9) ?_ ?_
  · refine ax_jf (lv' := [none, none, some (.int a.1), none]) [false, false, true, false] rfl ?_
    exact ax_jl (fun h => hO a.1 h)
  · refine ax_j (ax_iload_n hV dX10_trustOfSet_12 rfl) ?_
    refine ax_j (ax_iload_n hV dX10_trustOfSet_13 rfl) ?_
    refine ax_j (ax_iload_n hV dX10_trustOfSet_14 rfl) ?_
    refine ax_j (ax_ishr hV dX10_trustOfSet_15) ?_
    refine ax_j (ax_iconst hV (1 : Int32) dX10_trustOfSet_16 (by decide)) ?_
    refine ax_j (ax_iand hV dX10_trustOfSet_17) ?_
    refine ax_j (ax_iconst hV (1 : Int32) dX10_trustOfSet_18 (by decide)) ?_
    refine ax_jif (ax_icmp_ne hV dX10_trustOfSet_19) ?_ ?_
    · refine ax_j (ax_aload_n hV dX10_trustOfSet_22 rfl) ?_
      refine ax_j (ax_gfr hV lf_X10_16 dX10_trustOfSet_23 rfl rfl) ?_
      refine ax_j (ax_aload_n hV dX10_trustOfSet_26 rfl) ?_
      refine ax_j (ax_gfr hV lf_X10_19 dX10_trustOfSet_27 rfl rfl) ?_
      refine ax_j (ax_aload_n hV dX10_trustOfSet_30 rfl) ?_
      refine ax_j (ax_gfr hV lf_X10_62 dX10_trustOfSet_31 rfl rfl) ?_
      refine ax_j (ax_iload_n hV dX10_trustOfSet_34 rfl) ?_
      refine ax_jb (ax_iald hV dX10_trustOfSet_35) (fun v35 => ?_)
      refine ax_jb (ax_iald hV dX10_trustOfSet_36) (fun v36 => ?_)
      refine ax_jb (ax_iald hV dX10_trustOfSet_37) (fun v37 => ?_)
      refine ax_j (ax_goto hV dX10_trustOfSet_38) ?_
      refine ax_j (ax_iadd hV dX10_trustOfSet_42) ?_
      refine ax_j (ax_istore_n hV [some (.ref (ax_ad (cx_R, X) 0)), some (.int l1), some (.int (a.1 + v37)), some (.int a.2)] dX10_trustOfSet_43 rfl rfl) ?_
      refine ax_j (ax_iinc hV (a.2 + 1) [some (.ref (ax_ad (cx_R, X) 0)), some (.int l1), some (.int (a.1 + v37)), some (.int (a.2 + 1))] dX10_trustOfSet_44 rfl rfl rfl rfl) ?_
      refine ax_j (ax_goto hV dX10_trustOfSet_47) ?_
      exact ax_jl (fun h => hI ((a.1 + v37), (a.2 + 1)) h)
    · refine ax_j (ax_iconst hV (0 : Int32) dX10_trustOfSet_41 (by decide)) ?_
      refine ax_j (ax_iadd hV dX10_trustOfSet_42) ?_
      refine ax_j (ax_istore_n hV [some (.ref (ax_ad (cx_R, X) 0)), some (.int l1), some (.int (a.1 + (0 : Int32))), some (.int a.2)] dX10_trustOfSet_43 rfl rfl) ?_
      refine ax_j (ax_iinc hV (a.2 + 1) [some (.ref (ax_ad (cx_R, X) 0)), some (.int l1), some (.int (a.1 + (0 : Int32))), some (.int (a.2 + 1))] dX10_trustOfSet_44 rfl rfl rfl rfl) ?_
      refine ax_j (ax_goto hV dX10_trustOfSet_47) ?_
      exact ax_jl (fun h => hI ((a.1 + (0 : Int32)), (a.2 + 1)) h)
theorem T_X10_trustOfSet (p1 : Int32) (s : ax_S) (r : Int32) (h : f_X10_trustOfSet p1 s = some r) : ax_M cx_R mu_X10_trustOfSet (fun ad => [.ref (ad 0), .int p1]) s (some (.int r)) s := by
  refine ax_enter (by decide +kernel) 2 (fun ad => [some (.ref (ad 0)), some (.int p1), none, none]) (fun ad => rfl) (fun ad => Nat.le_of_ble_eq_true rfl) (fun X hV ho => ?_)
  refine ax_go (fun r : Int32 => (some (Value.int r), s)) (fun P hP => ?_) h ho
  unfold f_X10_trustOfSet
  refine ax_j (ax_iconst hV (0 : Int32) dX10_trustOfSet_0 (by decide)) ?_
  refine ax_j (ax_istore_n hV [some (.ref (ax_ad (cx_R, X) 0)), some (.int p1), some (.int (0 : Int32)), none] dX10_trustOfSet_1 rfl rfl) ?_
  refine ax_j (ax_iconst hV (0 : Int32) dX10_trustOfSet_2 (by decide)) ?_
  refine ax_j (ax_istore_n hV [some (.ref (ax_ad (cx_R, X) 0)), some (.int p1), some (.int (0 : Int32)), some (.int (0 : Int32))] dX10_trustOfSet_3 rfl rfl) ?_
  refine ax_jlp ((0 : Int32), (0 : Int32)) (fun x4 : Int32 × Int32 => [some (.ref (ax_ad (cx_R, X) 0)), some (.int p1), some (.int x4.1), some (.int x4.2)]) (fun x4 : Int32 × Int32 => s) (fun y4 : Int32 => [none, none, some (.int y4), none]) (fun y4 : Int32 => s) (fun P' h1 h2 w => B_X10_trustOfSet_4 X hV p1 s P' h1 h2 w) (fun e4 => ?_)
  refine ax_j (ax_iload_n hV dX10_trustOfSet_50 rfl) ?_
  exact ax_jl (fun h => ax_ir hV rfl dX10_trustOfSet_51 (hP e4 h))
theorem lk_X10_228 : ax_lkV RX10 228 mu_X10_trustOfSet RX10 1 := ax_lkV_of (ax_m6 23 rfl rfl) (ax_m6 25 rfl rfl) (ax_mp4 14 rfl rfl rfl) (ax_m1 10 rfl rfl) lc_X10_trustOfSet rfl ⟨by decide +kernel, by decide +kernel, by decide +kernel⟩
def mu_X10_bitsOf : ax_Mu := (yX10_bitsOf, cX10_bitsOf, 5, some .long, 0, 0)
theorem lc_X10_bitsOf : Cond.code mu_X10_bitsOf.1 mu_X10_bitsOf.2.1 mu_X10_bitsOf.2.2.1 mu_X10_bitsOf.2.2.2.1 ∈ ax_tb := (ax_m6 22 rfl rfl)
noncomputable def b_X10_bitsOf_5 (l1 : Int32) (s : ax_S) (a : Int64 × Int32) : Option ((Int64 × Int32) ⊕ (Int64)) := (if (s.1 0 25) ≤ a.2 then some (.inr a.1) else (if ((l1 >>> (a.2 &&& 31)) &&& (1 : Int32)) = (1 : Int32) then (ax_ai cx_R s 17 a.2).bind (fun v32 => some (.inl ((a.1 ||| (ax_lshl (1 : Int64) v32)), (a.2 + 1)))) else some (.inl ((a.1 ||| (0 : Int64)), (a.2 + 1)))))
noncomputable def f_X10_bitsOf (p1 : Int32) (s : ax_S) : Option (Int64) := (ax_lp (b_X10_bitsOf_5 p1 s) ((0 : Int64), (0 : Int32))).bind (fun e5 => some (e5))
theorem B_X10_bitsOf_5 (X : ax_G × ax_K × Option Value × ax_S) (hV : ax_ok (cx_R, X) mu_X10_bitsOf) (l1 : Int32) (s : ax_S) (P : ((Int64 × Int32) ⊕ (Int64)) → Prop) (hI : ∀ a : Int64 × Int32, P (.inl a) → ax_At (cx_R, X) 5 [some (.ref (ax_ad (cx_R, X) 0)), some (.int l1), some (.long a.1), none, some (.int a.2)] [] s) (hO : ∀ e : Int64, P (.inr e) → ax_At (cx_R, X) 46 [none, none, some (.long e), none, none] [] s) (a : Int64 × Int32) : ax_J (cx_R, X) P 5 [some (.ref (ax_ad (cx_R, X) 0)), some (.int l1), some (.long a.1), none, some (.int a.2)] [] s (b_X10_bitsOf_5 l1 s a) := by
  unfold b_X10_bitsOf_5
  refine ax_j (ax_iload hV dX10_bitsOf_5 rfl) ?_
  refine ax_j (ax_aload_n hV dX10_bitsOf_7 rfl) ?_
  refine ax_j (ax_gfi hV lf_X10_215 dX10_bitsOf_8 rfl rfl) ?_
  refine ax_jif (ax_icmp_ge hV dX10_bitsOf_11) ?_ ?_
  · refine ax_jf (lv' := [none, none, some (.long a.1), none, none]) [false, false, true, false, false] rfl ?_
    exact ax_jl (fun h => hO a.1 h)
  · refine ax_j (ax_lload_n hV dX10_bitsOf_14 rfl) ?_
    refine ax_j (ax_iload_n hV dX10_bitsOf_15 rfl) ?_
    refine ax_j (ax_iload hV dX10_bitsOf_16 rfl) ?_
    refine ax_j (ax_ishr hV dX10_bitsOf_18) ?_
    refine ax_j (ax_iconst hV (1 : Int32) dX10_bitsOf_19 (by decide)) ?_
    refine ax_j (ax_iand hV dX10_bitsOf_20) ?_
    refine ax_j (ax_iconst hV (1 : Int32) dX10_bitsOf_21 (by decide)) ?_
    refine ax_jif (ax_icmp_ne hV dX10_bitsOf_22) ?_ ?_
    · refine ax_j (ax_lconst hV (1 : Int64) dX10_bitsOf_25 (by decide)) ?_
      refine ax_j (ax_aload_n hV dX10_bitsOf_26 rfl) ?_
      refine ax_j (ax_gfr hV lf_X10_62 dX10_bitsOf_27 rfl rfl) ?_
      refine ax_j (ax_iload hV dX10_bitsOf_30 rfl) ?_
      refine ax_jb (ax_iald hV dX10_bitsOf_32) (fun v32 => ?_)
      refine ax_j (ax_lshl_ hV dX10_bitsOf_33) ?_
      refine ax_j (ax_goto hV dX10_bitsOf_34) ?_
      refine ax_j (ax_lor hV dX10_bitsOf_38) ?_
      refine ax_j (ax_lstore_n hV [some (.ref (ax_ad (cx_R, X) 0)), some (.int l1), some (.long (a.1 ||| (ax_lshl (1 : Int64) v32))), none, some (.int a.2)] dX10_bitsOf_39 rfl rfl) ?_
      refine ax_j (ax_iinc hV (a.2 + 1) [some (.ref (ax_ad (cx_R, X) 0)), some (.int l1), some (.long (a.1 ||| (ax_lshl (1 : Int64) v32))), none, some (.int (a.2 + 1))] dX10_bitsOf_40 rfl rfl rfl rfl) ?_
      refine ax_j (ax_goto hV dX10_bitsOf_43) ?_
      exact ax_jl (fun h => hI ((a.1 ||| (ax_lshl (1 : Int64) v32)), (a.2 + 1)) h)
    · refine ax_j (ax_lconst hV (0 : Int64) dX10_bitsOf_37 (by decide)) ?_
      refine ax_j (ax_lor hV dX10_bitsOf_38) ?_
      refine ax_j (ax_lstore_n hV [some (.ref (ax_ad (cx_R, X) 0)), some (.int l1), some (.long (a.1 ||| (0 : Int64))), none, some (.int a.2)] dX10_bitsOf_39 rfl rfl) ?_
      refine ax_j (ax_iinc hV (a.2 + 1) [some (.ref (ax_ad (cx_R, X) 0)), some (.int l1), some (.long (a.1 ||| (0 : Int64))), none, some (.int (a.2 + 1))] dX10_bitsOf_40 rfl rfl rfl rfl) ?_
      refine ax_j (ax_goto hV dX10_bitsOf_43) ?_
      exact ax_jl (fun h => hI ((a.1 ||| (0 : Int64)), (a.2 + 1)) h)
theorem T_X10_bitsOf (p1 : Int32) (s : ax_S) (r : Int64) (h : f_X10_bitsOf p1 s = some r) : ax_M cx_R mu_X10_bitsOf (fun ad => [.ref (ad 0), .int p1]) s (some (.long r)) s := by
  refine ax_enter (by decide +kernel) 3 (fun ad => [some (.ref (ad 0)), some (.int p1), none, none, none]) (fun ad => rfl) (fun ad => Nat.le_of_ble_eq_true rfl) (fun X hV ho => ?_)
  refine ax_go (fun r : Int64 => (some (Value.long r), s)) (fun P hP => ?_) h ho
  unfold f_X10_bitsOf
  refine ax_j (ax_lconst hV (0 : Int64) dX10_bitsOf_0 (by decide)) ?_
  refine ax_j (ax_lstore_n hV [some (.ref (ax_ad (cx_R, X) 0)), some (.int p1), some (.long (0 : Int64)), none, none] dX10_bitsOf_1 rfl rfl) ?_
  refine ax_j (ax_iconst hV (0 : Int32) dX10_bitsOf_2 (by decide)) ?_
  refine ax_j (ax_istore hV [some (.ref (ax_ad (cx_R, X) 0)), some (.int p1), some (.long (0 : Int64)), none, some (.int (0 : Int32))] dX10_bitsOf_3 rfl rfl) ?_
  refine ax_jlp ((0 : Int64), (0 : Int32)) (fun x5 : Int64 × Int32 => [some (.ref (ax_ad (cx_R, X) 0)), some (.int p1), some (.long x5.1), none, some (.int x5.2)]) (fun x5 : Int64 × Int32 => s) (fun y5 : Int64 => [none, none, some (.long y5), none, none]) (fun y5 : Int64 => s) (fun P' h1 h2 w => B_X10_bitsOf_5 X hV p1 s P' h1 h2 w) (fun e5 => ?_)
  refine ax_j (ax_lload_n hV dX10_bitsOf_46 rfl) ?_
  exact ax_jl (fun h => ax_lr hV rfl dX10_bitsOf_47 (hP e5 h))
theorem lk_X10_225 : ax_lkV RX10 225 mu_X10_bitsOf RX10 1 := ax_lkV_of (ax_m6 19 rfl rfl) (ax_m6 21 rfl rfl) (ax_mp4 13 rfl rfl rfl) (ax_m1 10 rfl rfl) lc_X10_bitsOf rfl ⟨by decide +kernel, by decide +kernel, by decide +kernel⟩
def mu_X10_doubtsNow : ax_Mu := (yX10_doubtsNow, cX10_doubtsNow, 9, some .int, 3, 66)
theorem lc_X10_doubtsNow : Cond.code mu_X10_doubtsNow.1 mu_X10_doubtsNow.2.1 mu_X10_doubtsNow.2.2.1 mu_X10_doubtsNow.2.2.2.1 ∈ ax_tb := (ax_m6 15 rfl rfl)
noncomputable def b_X10_doubtsNow_12 (l1 : Int64) (a : Int32 × ax_S) : Option ((Int32 × ax_S) ⊕ ((ax_S) ⊕ (Int32 × ax_S))) := (if (a.2.1 0 6) ≤ a.1 then some (.inr (.inl a.2)) else (if (lg_cmp ((ax_lshr l1 a.1) &&& (1 : Int64)) (1 : Int64)) = 0 then (if (a.2.1 0 25) = (12 : Int32) then some (.inr (.inr ((-4 : Int32), a.2))) else (ax_si cx_R a.2 17 (a.2.1 0 25) a.1).bind (fun s51 => (ax_si cx_R s51 18 (s51.1 0 25) (0 : Int32)).bind (fun s61 => some (.inl ((a.1 + 1), (ax_ui s61 0 25 ((s61.1 0 25) + (1 : Int32)))))))) else some (.inl ((a.1 + 1), a.2))))
noncomputable def b_X10_doubtsNow_186 (l1 : Int64) (l3 : Int32) (l4 : Int32) (l5 : Int32) (l6 : Int32) (a : Int32 × ax_S) : Option ((Int32 × ax_S) ⊕ (ax_S)) := (if (a.2.1 0 25) ≤ a.1 then some (.inr a.2) else (ax_ai cx_R a.2 18 a.1).bind (fun v202 => (ax_si cx_R a.2 18 a.1 (v202 + ((l6 >>> (a.1 &&& 31)) &&& (1 : Int32)))).bind (fun s211 => some (.inl ((a.1 + 1), s211)))))
noncomputable def j_X10_doubtsNow_108_167 (l1 : Int64) (l5 : Int32) (l6 : Int32) (l7 : Int32) (s : ax_S) : Option ((Int32 × Int32 × Int32 × ax_S) ⊕ (Int32 × Int32 × ax_S)) := (f_X10_bitsOf l6 s).bind (fun q174 => (ax_lp (b_X10_doubtsNow_186 l1 l7 (1 : Int32) l5 l6) ((0 : Int32), (ax_ul s 0 27 q174))).bind (fun e186 => some (.inl (l7, (1 : Int32), (l6 + 1), e186))))
noncomputable def b_X10_doubtsNow_108 (l1 : Int64) (l5 : Int32) (a : Int32 × Int32 × Int32 × ax_S) : Option ((Int32 × Int32 × Int32 × ax_S) ⊕ (Int32 × Int32 × ax_S)) := (if ((1 : Int32) <<< ((a.2.2.2.1 0 25) &&& 31)) ≤ a.2.2.1 then some (.inr (a.1, a.2.1, a.2.2.2)) else (f_X10_ones a.2.2.1).bind (fun q121 => (if q121 = l5 then (f_X10_bitsOf a.2.2.1 a.2.2.2).bind (fun q134 => (f_X10_works (l1 &&& (q134 ^^^ (-1 : Int64))) a.2.2.2).bind (fun q142 => (if q142.1 = 0 then some (.inl (a.1, a.2.1, (a.2.2.1 + 1), q142.2)) else (f_X10_trustOfSet a.2.2.1 q142.2).bind (fun q151 => (if a.2.1 = 0 then j_X10_doubtsNow_108_167 l1 l5 a.2.2.1 q151 q142.2 else (if a.1 ≤ q151 then (ax_lp (b_X10_doubtsNow_186 l1 a.1 (1 : Int32) l5 a.2.2.1) ((0 : Int32), q142.2)).bind (fun e186 => some (.inl (a.1, (1 : Int32), (a.2.2.1 + 1), e186))) else j_X10_doubtsNow_108_167 l1 l5 a.2.2.1 q151 q142.2)))))) else some (.inl (a.1, a.2.1, (a.2.2.1 + 1), a.2.2.2)))))
noncomputable def b_X10_doubtsNow_91 (l1 : Int64) (a : Int32 × Int32 × Int32 × ax_S) : Option ((Int32 × Int32 × Int32 × ax_S) ⊕ (ax_S)) := (if (a.2.2.2.1 0 25) < a.2.2.1 then some (.inr a.2.2.2) else (if a.2.1 = 0 then (ax_lp (b_X10_doubtsNow_108 l1 a.2.2.1) (a.1, a.2.1, (0 : Int32), a.2.2.2)).bind (fun e108 => some (.inl (e108.1, e108.2.1, (a.2.2.1 + 1), e108.2.2))) else some (.inr a.2.2.2)))
noncomputable def f_X10_doubtsNow  (s : ax_S) : Option (Int32 × ax_S) := (f_X10_knownNow s).bind (fun q1 => (ax_lp (b_X10_doubtsNow_12 q1) ((0 : Int32), (ax_ui s 0 25 (0 : Int32)))).bind (Sum.elim (fun e12 => (ax_lp (b_X10_doubtsNow_91 q1) ((0 : Int32), (0 : Int32), (1 : Int32), (ax_ul e12 0 27 (0 : Int64)))).bind (fun e91 => some (((0 : Int32), e91)))) (fun r => some (r))))
theorem B_X10_doubtsNow_12 (X : ax_G × ax_K × Option Value × ax_S) (hV : ax_ok (cx_R, X) mu_X10_doubtsNow) (l1 : Int64) (P : ((Int32 × ax_S) ⊕ ((ax_S) ⊕ (Int32 × ax_S))) → Prop) (hI : ∀ a : Int32 × ax_S, P (.inl a) → ax_At (cx_R, X) 12 [some (.ref (ax_ad (cx_R, X) 0)), some (.long l1), none, some (.int a.1), none, none, none, none, none] [] a.2) (hO : ∀ e : ax_S, P (.inr (.inl e)) → ax_At (cx_R, X) 78 [some (.ref (ax_ad (cx_R, X) 0)), some (.long l1), none, none, none, none, none, none, none] [] e) (hR : ∀ r : Int32 × ax_S, P (.inr (.inr r)) → X.2.2 = (fun r : Int32 × ax_S => (some (Value.int r.1), r.2)) r) (a : Int32 × ax_S) : ax_J (cx_R, X) P 12 [some (.ref (ax_ad (cx_R, X) 0)), some (.long l1), none, some (.int a.1), none, none, none, none, none] [] a.2 (b_X10_doubtsNow_12 l1 a) := by
  unfold b_X10_doubtsNow_12
  refine ax_j (ax_iload_n hV dX10_doubtsNow_12 rfl) ?_
  refine ax_j (ax_aload_n hV dX10_doubtsNow_13 rfl) ?_
  refine ax_j (ax_gfi hV lf_X10_111 dX10_doubtsNow_14 rfl rfl) ?_
  refine ax_jif (ax_icmp_ge hV dX10_doubtsNow_17) ?_ ?_
  · refine ax_jf (lv' := [some (.ref (ax_ad (cx_R, X) 0)), some (.long l1), none, none, none, none, none, none, none]) [true, true, false, false, false, false, false, false, false] rfl ?_
    exact ax_jl (fun h => hO a.2 h)
  · refine ax_j (ax_lload_n hV dX10_doubtsNow_20 rfl) ?_
    refine ax_j (ax_iload_n hV dX10_doubtsNow_21 rfl) ?_
    refine ax_j (ax_lshr_ hV dX10_doubtsNow_22) ?_
    refine ax_j (ax_lconst hV (1 : Int64) dX10_doubtsNow_23 (by decide)) ?_
    refine ax_j (ax_land hV dX10_doubtsNow_24) ?_
    refine ax_j (ax_lconst hV (1 : Int64) dX10_doubtsNow_25 (by decide)) ?_
    refine ax_j (ax_lcmp hV dX10_doubtsNow_26) ?_
    refine ax_jif (ax_if_ne hV dX10_doubtsNow_27) ?_ ?_
    · refine ax_j (ax_aload_n hV dX10_doubtsNow_30 rfl) ?_
      refine ax_j (ax_gfi hV lf_X10_215 dX10_doubtsNow_31 rfl rfl) ?_
      refine ax_j (ax_bipush hV (12 : Int32) dX10_doubtsNow_34 (by decide)) ?_
      refine ax_jif (ax_icmp_ne hV dX10_doubtsNow_36) ?_ ?_
      · refine ax_j (ax_bipush hV (-4 : Int32) dX10_doubtsNow_39 (by decide)) ?_
        exact ax_jl (fun h => ax_ir hV rfl dX10_doubtsNow_41 (hR ((-4 : Int32), a.2) h))
      · refine ax_j (ax_aload_n hV dX10_doubtsNow_42 rfl) ?_
        refine ax_j (ax_gfr hV lf_X10_62 dX10_doubtsNow_43 rfl rfl) ?_
        refine ax_j (ax_aload_n hV dX10_doubtsNow_46 rfl) ?_
        refine ax_j (ax_gfi hV lf_X10_215 dX10_doubtsNow_47 rfl rfl) ?_
        refine ax_j (ax_iload_n hV dX10_doubtsNow_50 rfl) ?_
        refine ax_jb (ax_iast hV dX10_doubtsNow_51) (fun s51 => ?_)
        refine ax_j (ax_aload_n hV dX10_doubtsNow_52 rfl) ?_
        refine ax_j (ax_gfr hV lf_X10_65 dX10_doubtsNow_53 rfl rfl) ?_
        refine ax_j (ax_aload_n hV dX10_doubtsNow_56 rfl) ?_
        refine ax_j (ax_gfi hV lf_X10_215 dX10_doubtsNow_57 rfl rfl) ?_
        refine ax_j (ax_iconst hV (0 : Int32) dX10_doubtsNow_60 (by decide)) ?_
        refine ax_jb (ax_iast hV dX10_doubtsNow_61) (fun s61 => ?_)
        refine ax_j (ax_aload_n hV dX10_doubtsNow_62 rfl) ?_
        refine ax_j (ax_dup hV dX10_doubtsNow_63 rfl) ?_
        refine ax_j (ax_gfi hV lf_X10_215 dX10_doubtsNow_64 rfl rfl) ?_
        refine ax_j (ax_iconst hV (1 : Int32) dX10_doubtsNow_67 (by decide)) ?_
        refine ax_j (ax_iadd hV dX10_doubtsNow_68) ?_
        refine ax_j (ax_pfi hV lp_X10_215 dX10_doubtsNow_69 rfl rfl) ?_
        refine ax_j (ax_iinc hV (a.1 + 1) [some (.ref (ax_ad (cx_R, X) 0)), some (.long l1), none, some (.int (a.1 + 1)), none, none, none, none, none] dX10_doubtsNow_72 rfl rfl rfl rfl) ?_
        refine ax_j (ax_goto hV dX10_doubtsNow_75) ?_
        exact ax_jl (fun h => hI ((a.1 + 1), (ax_ui s61 0 25 ((s61.1 0 25) + (1 : Int32)))) h)
    · refine ax_j (ax_iinc hV (a.1 + 1) [some (.ref (ax_ad (cx_R, X) 0)), some (.long l1), none, some (.int (a.1 + 1)), none, none, none, none, none] dX10_doubtsNow_72 rfl rfl rfl rfl) ?_
      refine ax_j (ax_goto hV dX10_doubtsNow_75) ?_
      exact ax_jl (fun h => hI ((a.1 + 1), a.2) h)
theorem B_X10_doubtsNow_186 (X : ax_G × ax_K × Option Value × ax_S) (hV : ax_ok (cx_R, X) mu_X10_doubtsNow) (l1 : Int64) (l3 : Int32) (l4 : Int32) (l5 : Int32) (l6 : Int32) (P : ((Int32 × ax_S) ⊕ (ax_S)) → Prop) (hI : ∀ a : Int32 × ax_S, P (.inl a) → ax_At (cx_R, X) 186 [some (.ref (ax_ad (cx_R, X) 0)), some (.long l1), none, some (.int l3), some (.int l4), some (.int l5), some (.int l6), none, some (.int a.1)] [] a.2) (hO : ∀ e : ax_S, P (.inr e) → ax_At (cx_R, X) 218 [some (.ref (ax_ad (cx_R, X) 0)), some (.long l1), none, some (.int l3), some (.int l4), some (.int l5), some (.int l6), none, none] [] e) (a : Int32 × ax_S) : ax_J (cx_R, X) P 186 [some (.ref (ax_ad (cx_R, X) 0)), some (.long l1), none, some (.int l3), some (.int l4), some (.int l5), some (.int l6), none, some (.int a.1)] [] a.2 (b_X10_doubtsNow_186 l1 l3 l4 l5 l6 a) := by
  unfold b_X10_doubtsNow_186
  refine ax_j (ax_iload hV dX10_doubtsNow_186 rfl) ?_
  refine ax_j (ax_aload_n hV dX10_doubtsNow_188 rfl) ?_
  refine ax_j (ax_gfi hV lf_X10_215 dX10_doubtsNow_189 rfl rfl) ?_
  refine ax_jif (ax_icmp_ge hV dX10_doubtsNow_192) ?_ ?_
  · refine ax_jf (lv' := [some (.ref (ax_ad (cx_R, X) 0)), some (.long l1), none, some (.int l3), some (.int l4), some (.int l5), some (.int l6), none, none]) [true, true, false, true, true, true, true, false, false] rfl ?_
    exact ax_jl (fun h => hO a.2 h)
  · refine ax_j (ax_aload_n hV dX10_doubtsNow_195 rfl) ?_
    refine ax_j (ax_gfr hV lf_X10_65 dX10_doubtsNow_196 rfl rfl) ?_
    refine ax_j (ax_iload hV dX10_doubtsNow_199 rfl) ?_
    refine ax_j (ax_dup2 hV dX10_doubtsNow_201 rfl rfl) ?_
    refine ax_jb (ax_iald hV dX10_doubtsNow_202) (fun v202 => ?_)
    refine ax_j (ax_iload hV dX10_doubtsNow_203 rfl) ?_
    refine ax_j (ax_iload hV dX10_doubtsNow_205 rfl) ?_
    refine ax_j (ax_ishr hV dX10_doubtsNow_207) ?_
    refine ax_j (ax_iconst hV (1 : Int32) dX10_doubtsNow_208 (by decide)) ?_
    refine ax_j (ax_iand hV dX10_doubtsNow_209) ?_
    refine ax_j (ax_iadd hV dX10_doubtsNow_210) ?_
    refine ax_jb (ax_iast hV dX10_doubtsNow_211) (fun s211 => ?_)
    refine ax_j (ax_iinc hV (a.1 + 1) [some (.ref (ax_ad (cx_R, X) 0)), some (.long l1), none, some (.int l3), some (.int l4), some (.int l5), some (.int l6), none, some (.int (a.1 + 1))] dX10_doubtsNow_212 rfl rfl rfl rfl) ?_
    refine ax_j (ax_goto hV dX10_doubtsNow_215) ?_
    exact ax_jl (fun h => hI ((a.1 + 1), s211) h)
theorem N_X10_doubtsNow_108_167 (X : ax_G × ax_K × Option Value × ax_S) (hV : ax_ok (cx_R, X) mu_X10_doubtsNow) (l1 : Int64) (l5 : Int32) (P : ((Int32 × Int32 × Int32 × ax_S) ⊕ (Int32 × Int32 × ax_S)) → Prop) (hI : ∀ a : Int32 × Int32 × Int32 × ax_S, P (.inl a) → ax_At (cx_R, X) 108 [some (.ref (ax_ad (cx_R, X) 0)), some (.long l1), none, some (.int a.1), some (.int a.2.1), some (.int l5), some (.int a.2.2.1), none, none] [] a.2.2.2) (hO : ∀ e : Int32 × Int32 × ax_S, P (.inr e) → ax_At (cx_R, X) 224 [some (.ref (ax_ad (cx_R, X) 0)), some (.long l1), none, some (.int e.1), some (.int e.2.1), some (.int l5), none, none, none] [] e.2.2) (l6 : Int32) (l7 : Int32) (s : ax_S) : ax_J (cx_R, X) P 167 [some (.ref (ax_ad (cx_R, X) 0)), some (.long l1), none, none, none, some (.int l5), some (.int l6), some (.int l7), none] [] s (j_X10_doubtsNow_108_167 l1 l5 l6 l7 s) := by
  unfold j_X10_doubtsNow_108_167
  refine ax_j (ax_iload hV dX10_doubtsNow_167 rfl) ?_
  refine ax_j (ax_istore_n hV [some (.ref (ax_ad (cx_R, X) 0)), some (.long l1), none, some (.int l7), none, some (.int l5), some (.int l6), some (.int l7), none] dX10_doubtsNow_169 rfl rfl) ?_
  refine ax_j (ax_aload_n hV dX10_doubtsNow_170 rfl) ?_
  refine ax_j (ax_aload_n hV dX10_doubtsNow_171 rfl) ?_
  refine ax_j (ax_iload hV dX10_doubtsNow_172 rfl) ?_
  refine ax_jb (fun v ho => ax_cVl hV lk_X10_225 rfl dX10_doubtsNow_174 rfl rfl [.int l6] [.ref (ax_ad (cx_R, X) 0)] (fun ad => [.ref (ad 0), .int l6]) rfl rfl rfl rfl v s (T_X10_bitsOf l6 s v ho)) (fun q174 => ?_)
  refine ax_j (ax_pfl hV lp_X10_218 dX10_doubtsNow_177 rfl rfl) ?_
  refine ax_j (ax_iconst hV (1 : Int32) dX10_doubtsNow_180 (by decide)) ?_
  refine ax_j (ax_istore hV [some (.ref (ax_ad (cx_R, X) 0)), some (.long l1), none, some (.int l7), some (.int (1 : Int32)), some (.int l5), some (.int l6), some (.int l7), none] dX10_doubtsNow_181 rfl rfl) ?_
  refine ax_j (ax_iconst hV (0 : Int32) dX10_doubtsNow_183 (by decide)) ?_
  refine ax_j (ax_istore hV [some (.ref (ax_ad (cx_R, X) 0)), some (.long l1), none, some (.int l7), some (.int (1 : Int32)), some (.int l5), some (.int l6), some (.int l7), some (.int (0 : Int32))] dX10_doubtsNow_184 rfl rfl) ?_
  refine ax_jf (lv' := [some (.ref (ax_ad (cx_R, X) 0)), some (.long l1), none, some (.int l7), some (.int (1 : Int32)), some (.int l5), some (.int l6), none, some (.int (0 : Int32))]) [true, true, false, true, true, true, true, false, true] rfl ?_
  refine ax_jlp ((0 : Int32), (ax_ul s 0 27 q174)) (fun x186 : Int32 × ax_S => [some (.ref (ax_ad (cx_R, X) 0)), some (.long l1), none, some (.int l7), some (.int (1 : Int32)), some (.int l5), some (.int l6), none, some (.int x186.1)]) (fun x186 : Int32 × ax_S => x186.2) (fun y186 : ax_S => [some (.ref (ax_ad (cx_R, X) 0)), some (.long l1), none, some (.int l7), some (.int (1 : Int32)), some (.int l5), some (.int l6), none, none]) (fun y186 : ax_S => y186) (fun P' h1 h2 w => B_X10_doubtsNow_186 X hV l1 l7 (1 : Int32) l5 l6 P' h1 h2 w) (fun e186 => ?_)
  refine ax_j (ax_iinc hV (l6 + 1) [some (.ref (ax_ad (cx_R, X) 0)), some (.long l1), none, some (.int l7), some (.int (1 : Int32)), some (.int l5), some (.int (l6 + 1)), none, none] dX10_doubtsNow_218 rfl rfl rfl rfl) ?_
  refine ax_j (ax_goto hV dX10_doubtsNow_221) ?_
  exact ax_jl (fun h => hI (l7, (1 : Int32), (l6 + 1), e186) h)
theorem B_X10_doubtsNow_108 (X : ax_G × ax_K × Option Value × ax_S) (hV : ax_ok (cx_R, X) mu_X10_doubtsNow) (l1 : Int64) (l5 : Int32) (P : ((Int32 × Int32 × Int32 × ax_S) ⊕ (Int32 × Int32 × ax_S)) → Prop) (hI : ∀ a : Int32 × Int32 × Int32 × ax_S, P (.inl a) → ax_At (cx_R, X) 108 [some (.ref (ax_ad (cx_R, X) 0)), some (.long l1), none, some (.int a.1), some (.int a.2.1), some (.int l5), some (.int a.2.2.1), none, none] [] a.2.2.2) (hO : ∀ e : Int32 × Int32 × ax_S, P (.inr e) → ax_At (cx_R, X) 224 [some (.ref (ax_ad (cx_R, X) 0)), some (.long l1), none, some (.int e.1), some (.int e.2.1), some (.int l5), none, none, none] [] e.2.2) (a : Int32 × Int32 × Int32 × ax_S) : ax_J (cx_R, X) P 108 [some (.ref (ax_ad (cx_R, X) 0)), some (.long l1), none, some (.int a.1), some (.int a.2.1), some (.int l5), some (.int a.2.2.1), none, none] [] a.2.2.2 (b_X10_doubtsNow_108 l1 l5 a) := by
  unfold b_X10_doubtsNow_108
  refine ax_j (ax_iload hV dX10_doubtsNow_108 rfl) ?_
  refine ax_j (ax_iconst hV (1 : Int32) dX10_doubtsNow_110 (by decide)) ?_
  refine ax_j (ax_aload_n hV dX10_doubtsNow_111 rfl) ?_
  refine ax_j (ax_gfi hV lf_X10_215 dX10_doubtsNow_112 rfl rfl) ?_
  refine ax_j (ax_ishl hV dX10_doubtsNow_115) ?_
  refine ax_jif (ax_icmp_ge hV dX10_doubtsNow_116) ?_ ?_
  · refine ax_jf (lv' := [some (.ref (ax_ad (cx_R, X) 0)), some (.long l1), none, some (.int a.1), some (.int a.2.1), some (.int l5), none, none, none]) [true, true, false, true, true, true, false, false, false] rfl ?_
    exact ax_jl (fun h => hO (a.1, a.2.1, a.2.2.2) h)
  · refine ax_j (ax_iload hV dX10_doubtsNow_119 rfl) ?_
    refine ax_jb (fun v ho => ax_cSi hV lk_X10_222 rfl dX10_doubtsNow_121 [.int a.2.2.1] [] (fun ad => [.int a.2.2.1]) rfl rfl rfl rfl v a.2.2.2 (T_X10_ones a.2.2.1 a.2.2.2 v ho)) (fun q121 => ?_)
    refine ax_j (ax_iload hV dX10_doubtsNow_124 rfl) ?_
    refine ax_jif (ax_icmp_ne hV dX10_doubtsNow_126) ?_ ?_
    · refine ax_j (ax_aload_n hV dX10_doubtsNow_129 rfl) ?_
      refine ax_j (ax_lload_n hV dX10_doubtsNow_130 rfl) ?_
      refine ax_j (ax_aload_n hV dX10_doubtsNow_131 rfl) ?_
      refine ax_j (ax_iload hV dX10_doubtsNow_132 rfl) ?_
      refine ax_jb (fun v ho => ax_cVl hV lk_X10_225 rfl dX10_doubtsNow_134 rfl rfl [.int a.2.2.1] [.long l1, .ref (ax_ad (cx_R, X) 0)] (fun ad => [.ref (ad 0), .int a.2.2.1]) rfl rfl rfl rfl v a.2.2.2 (T_X10_bitsOf a.2.2.1 a.2.2.2 v ho)) (fun q134 => ?_)
      refine ax_j (ax_ldc2 hV kc_X10_167 dX10_doubtsNow_137) ?_
      refine ax_j (ax_lxor hV dX10_doubtsNow_140) ?_
      refine ax_j (ax_land hV dX10_doubtsNow_141) ?_
      refine ax_jb (fun v ho => ax_cVi hV lk_X10_169 rfl dX10_doubtsNow_142 rfl rfl [.long (l1 &&& (q134 ^^^ (-1 : Int64)))] [] (fun ad => [.ref (ad 0), .long (l1 &&& (q134 ^^^ (-1 : Int64)))]) rfl rfl rfl rfl v.1 v.2 (T_X10_works (l1 &&& (q134 ^^^ (-1 : Int64))) a.2.2.2 v ho)) (fun q142 => ?_)
      refine ax_jif (ax_if_eq hV dX10_doubtsNow_145) ?_ ?_
      · refine ax_j (ax_iinc hV (a.2.2.1 + 1) [some (.ref (ax_ad (cx_R, X) 0)), some (.long l1), none, some (.int a.1), some (.int a.2.1), some (.int l5), some (.int (a.2.2.1 + 1)), none, none] dX10_doubtsNow_218 rfl rfl rfl rfl) ?_
        refine ax_j (ax_goto hV dX10_doubtsNow_221) ?_
        exact ax_jl (fun h => hI (a.1, a.2.1, (a.2.2.1 + 1), q142.2) h)
      · refine ax_j (ax_aload_n hV dX10_doubtsNow_148 rfl) ?_
        refine ax_j (ax_iload hV dX10_doubtsNow_149 rfl) ?_
        refine ax_jb (fun v ho => ax_cVi hV lk_X10_228 rfl dX10_doubtsNow_151 rfl rfl [.int a.2.2.1] [] (fun ad => [.ref (ad 0), .int a.2.2.1]) rfl rfl rfl rfl v q142.2 (T_X10_trustOfSet a.2.2.1 q142.2 v ho)) (fun q151 => ?_)
        refine ax_j (ax_istore hV [some (.ref (ax_ad (cx_R, X) 0)), some (.long l1), none, some (.int a.1), some (.int a.2.1), some (.int l5), some (.int a.2.2.1), some (.int q151), none] dX10_doubtsNow_154 rfl rfl) ?_
        refine ax_j (ax_iload hV dX10_doubtsNow_156 rfl) ?_
        refine ax_jif (ax_if_eq hV dX10_doubtsNow_158) ?_ ?_
        · refine ax_jf (lv' := [some (.ref (ax_ad (cx_R, X) 0)), some (.long l1), none, none, none, some (.int l5), some (.int a.2.2.1), some (.int q151), none]) [true, true, false, false, false, true, true, true, false] rfl ?_
          exact N_X10_doubtsNow_108_167 X hV l1 l5 P hI hO a.2.2.1 q151 q142.2
        · refine ax_j (ax_iload hV dX10_doubtsNow_161 rfl) ?_
          refine ax_j (ax_iload_n hV dX10_doubtsNow_163 rfl) ?_
          refine ax_jif (ax_icmp_ge hV dX10_doubtsNow_164) ?_ ?_
          · refine ax_j (ax_iconst hV (1 : Int32) dX10_doubtsNow_180 (by decide)) ?_
            refine ax_j (ax_istore hV [some (.ref (ax_ad (cx_R, X) 0)), some (.long l1), none, some (.int a.1), some (.int (1 : Int32)), some (.int l5), some (.int a.2.2.1), some (.int q151), none] dX10_doubtsNow_181 rfl rfl) ?_
            refine ax_j (ax_iconst hV (0 : Int32) dX10_doubtsNow_183 (by decide)) ?_
            refine ax_j (ax_istore hV [some (.ref (ax_ad (cx_R, X) 0)), some (.long l1), none, some (.int a.1), some (.int (1 : Int32)), some (.int l5), some (.int a.2.2.1), some (.int q151), some (.int (0 : Int32))] dX10_doubtsNow_184 rfl rfl) ?_
            refine ax_jf (lv' := [some (.ref (ax_ad (cx_R, X) 0)), some (.long l1), none, some (.int a.1), some (.int (1 : Int32)), some (.int l5), some (.int a.2.2.1), none, some (.int (0 : Int32))]) [true, true, false, true, true, true, true, false, true] rfl ?_
            refine ax_jlp ((0 : Int32), q142.2) (fun x186 : Int32 × ax_S => [some (.ref (ax_ad (cx_R, X) 0)), some (.long l1), none, some (.int a.1), some (.int (1 : Int32)), some (.int l5), some (.int a.2.2.1), none, some (.int x186.1)]) (fun x186 : Int32 × ax_S => x186.2) (fun y186 : ax_S => [some (.ref (ax_ad (cx_R, X) 0)), some (.long l1), none, some (.int a.1), some (.int (1 : Int32)), some (.int l5), some (.int a.2.2.1), none, none]) (fun y186 : ax_S => y186) (fun P' h1 h2 w => B_X10_doubtsNow_186 X hV l1 a.1 (1 : Int32) l5 a.2.2.1 P' h1 h2 w) (fun e186 => ?_)
            refine ax_j (ax_iinc hV (a.2.2.1 + 1) [some (.ref (ax_ad (cx_R, X) 0)), some (.long l1), none, some (.int a.1), some (.int (1 : Int32)), some (.int l5), some (.int (a.2.2.1 + 1)), none, none] dX10_doubtsNow_218 rfl rfl rfl rfl) ?_
            refine ax_j (ax_goto hV dX10_doubtsNow_221) ?_
            exact ax_jl (fun h => hI (a.1, (1 : Int32), (a.2.2.1 + 1), e186) h)
          · refine ax_jf (lv' := [some (.ref (ax_ad (cx_R, X) 0)), some (.long l1), none, none, none, some (.int l5), some (.int a.2.2.1), some (.int q151), none]) [true, true, false, false, false, true, true, true, false] rfl ?_
            exact N_X10_doubtsNow_108_167 X hV l1 l5 P hI hO a.2.2.1 q151 q142.2
    · refine ax_j (ax_iinc hV (a.2.2.1 + 1) [some (.ref (ax_ad (cx_R, X) 0)), some (.long l1), none, some (.int a.1), some (.int a.2.1), some (.int l5), some (.int (a.2.2.1 + 1)), none, none] dX10_doubtsNow_218 rfl rfl rfl rfl) ?_
      refine ax_j (ax_goto hV dX10_doubtsNow_221) ?_
      exact ax_jl (fun h => hI (a.1, a.2.1, (a.2.2.1 + 1), a.2.2.2) h)
theorem B_X10_doubtsNow_91 (X : ax_G × ax_K × Option Value × ax_S) (hV : ax_ok (cx_R, X) mu_X10_doubtsNow) (l1 : Int64) (P : ((Int32 × Int32 × Int32 × ax_S) ⊕ (ax_S)) → Prop) (hI : ∀ a : Int32 × Int32 × Int32 × ax_S, P (.inl a) → ax_At (cx_R, X) 91 [some (.ref (ax_ad (cx_R, X) 0)), some (.long l1), none, some (.int a.1), some (.int a.2.1), some (.int a.2.2.1), none, none, none] [] a.2.2.2) (hO : ∀ e : ax_S, P (.inr e) → ax_At (cx_R, X) 230 [none, none, none, none, none, none, none, none, none] [] e) (a : Int32 × Int32 × Int32 × ax_S) : ax_J (cx_R, X) P 91 [some (.ref (ax_ad (cx_R, X) 0)), some (.long l1), none, some (.int a.1), some (.int a.2.1), some (.int a.2.2.1), none, none, none] [] a.2.2.2 (b_X10_doubtsNow_91 l1 a) := by
  unfold b_X10_doubtsNow_91
  refine ax_j (ax_iload hV dX10_doubtsNow_91 rfl) ?_
  refine ax_j (ax_aload_n hV dX10_doubtsNow_93 rfl) ?_
  refine ax_j (ax_gfi hV lf_X10_215 dX10_doubtsNow_94 rfl rfl) ?_
  refine ax_jif (ax_icmp_gt hV dX10_doubtsNow_97) ?_ ?_
  · refine ax_jf (lv' := [none, none, none, none, none, none, none, none, none]) [false, false, false, false, false, false, false, false, false] rfl ?_
    exact ax_jl (fun h => hO a.2.2.2 h)
  · refine ax_j (ax_iload hV dX10_doubtsNow_100 rfl) ?_
    refine ax_jif (ax_if_ne hV dX10_doubtsNow_102) ?_ ?_
    · refine ax_j (ax_iconst hV (0 : Int32) dX10_doubtsNow_105 (by decide)) ?_
      refine ax_j (ax_istore hV [some (.ref (ax_ad (cx_R, X) 0)), some (.long l1), none, some (.int a.1), some (.int a.2.1), some (.int a.2.2.1), some (.int (0 : Int32)), none, none] dX10_doubtsNow_106 rfl rfl) ?_
      refine ax_jlp (a.1, a.2.1, (0 : Int32), a.2.2.2) (fun x108 : Int32 × Int32 × Int32 × ax_S => [some (.ref (ax_ad (cx_R, X) 0)), some (.long l1), none, some (.int x108.1), some (.int x108.2.1), some (.int a.2.2.1), some (.int x108.2.2.1), none, none]) (fun x108 : Int32 × Int32 × Int32 × ax_S => x108.2.2.2) (fun y108 : Int32 × Int32 × ax_S => [some (.ref (ax_ad (cx_R, X) 0)), some (.long l1), none, some (.int y108.1), some (.int y108.2.1), some (.int a.2.2.1), none, none, none]) (fun y108 : Int32 × Int32 × ax_S => y108.2.2) (fun P' h1 h2 w => B_X10_doubtsNow_108 X hV l1 a.2.2.1 P' h1 h2 w) (fun e108 => ?_)
      refine ax_j (ax_iinc hV (a.2.2.1 + 1) [some (.ref (ax_ad (cx_R, X) 0)), some (.long l1), none, some (.int e108.1), some (.int e108.2.1), some (.int (a.2.2.1 + 1)), none, none, none] dX10_doubtsNow_224 rfl rfl rfl rfl) ?_
      refine ax_j (ax_goto hV dX10_doubtsNow_227) ?_
      exact ax_jl (fun h => hI (e108.1, e108.2.1, (a.2.2.1 + 1), e108.2.2) h)
    · refine ax_jf (lv' := [none, none, none, none, none, none, none, none, none]) [false, false, false, false, false, false, false, false, false] rfl ?_
      exact ax_jl (fun h => hO a.2.2.2 h)
theorem T_X10_doubtsNow  (s : ax_S) (r : Int32 × ax_S) (h : f_X10_doubtsNow s = some r) : ax_M cx_R mu_X10_doubtsNow (fun ad => [.ref (ad 0)]) s (some (.int r.1)) r.2 := by
  refine ax_enter (by decide +kernel) 8 (fun ad => [some (.ref (ad 0)), none, none, none, none, none, none, none, none]) (fun ad => rfl) (fun ad => Nat.le_of_ble_eq_true rfl) (fun X hV ho => ?_)
  refine ax_go (fun r : Int32 × ax_S => (some (Value.int r.1), r.2)) (fun P hP => ?_) h ho
  unfold f_X10_doubtsNow
  refine ax_j (ax_aload_n hV dX10_doubtsNow_0 rfl) ?_
  refine ax_jb (fun v ho => ax_cVl hV lk_X10_163 rfl dX10_doubtsNow_1 rfl rfl [] [] (fun ad => [.ref (ad 0)]) rfl rfl rfl rfl v s (T_X10_knownNow s v ho)) (fun q1 => ?_)
  refine ax_j (ax_lstore_n hV [some (.ref (ax_ad (cx_R, X) 0)), some (.long q1), none, none, none, none, none, none, none] dX10_doubtsNow_4 rfl rfl) ?_
  refine ax_j (ax_aload_n hV dX10_doubtsNow_5 rfl) ?_
  refine ax_j (ax_iconst hV (0 : Int32) dX10_doubtsNow_6 (by decide)) ?_
  refine ax_j (ax_pfi hV lp_X10_215 dX10_doubtsNow_7 rfl rfl) ?_
  refine ax_j (ax_iconst hV (0 : Int32) dX10_doubtsNow_10 (by decide)) ?_
  refine ax_j (ax_istore_n hV [some (.ref (ax_ad (cx_R, X) 0)), some (.long q1), none, some (.int (0 : Int32)), none, none, none, none, none] dX10_doubtsNow_11 rfl rfl) ?_
  refine ax_jlr ((0 : Int32), (ax_ui s 0 25 (0 : Int32))) (fun x12 : Int32 × ax_S => [some (.ref (ax_ad (cx_R, X) 0)), some (.long q1), none, some (.int x12.1), none, none, none, none, none]) (fun x12 : Int32 × ax_S => x12.2) (fun y12 : ax_S => [some (.ref (ax_ad (cx_R, X) 0)), some (.long q1), none, none, none, none, none, none, none]) (fun y12 : ax_S => y12) (fun P' h1 h2 h3 w => B_X10_doubtsNow_12 X hV q1 P' h1 h2 (fun r h => hP r (h3 r h)) w) (fun e12 => ?_)
  refine ax_j (ax_aload_n hV dX10_doubtsNow_78 rfl) ?_
  refine ax_j (ax_lconst hV (0 : Int64) dX10_doubtsNow_79 (by decide)) ?_
  refine ax_j (ax_pfl hV lp_X10_218 dX10_doubtsNow_80 rfl rfl) ?_
  refine ax_j (ax_iconst hV (0 : Int32) dX10_doubtsNow_83 (by decide)) ?_
  refine ax_j (ax_istore_n hV [some (.ref (ax_ad (cx_R, X) 0)), some (.long q1), none, some (.int (0 : Int32)), none, none, none, none, none] dX10_doubtsNow_84 rfl rfl) ?_
  refine ax_j (ax_iconst hV (0 : Int32) dX10_doubtsNow_85 (by decide)) ?_
  refine ax_j (ax_istore hV [some (.ref (ax_ad (cx_R, X) 0)), some (.long q1), none, some (.int (0 : Int32)), some (.int (0 : Int32)), none, none, none, none] dX10_doubtsNow_86 rfl rfl) ?_
  refine ax_j (ax_iconst hV (1 : Int32) dX10_doubtsNow_88 (by decide)) ?_
  refine ax_j (ax_istore hV [some (.ref (ax_ad (cx_R, X) 0)), some (.long q1), none, some (.int (0 : Int32)), some (.int (0 : Int32)), some (.int (1 : Int32)), none, none, none] dX10_doubtsNow_89 rfl rfl) ?_
  refine ax_jlp ((0 : Int32), (0 : Int32), (1 : Int32), (ax_ul e12 0 27 (0 : Int64))) (fun x91 : Int32 × Int32 × Int32 × ax_S => [some (.ref (ax_ad (cx_R, X) 0)), some (.long q1), none, some (.int x91.1), some (.int x91.2.1), some (.int x91.2.2.1), none, none, none]) (fun x91 : Int32 × Int32 × Int32 × ax_S => x91.2.2.2) (fun y91 : ax_S => [none, none, none, none, none, none, none, none, none]) (fun y91 : ax_S => y91) (fun P' h1 h2 w => B_X10_doubtsNow_91 X hV q1 P' h1 h2 w) (fun e91 => ?_)
  refine ax_j (ax_iconst hV (0 : Int32) dX10_doubtsNow_230 (by decide)) ?_
  exact ax_jl (fun h => ax_ir hV rfl dX10_doubtsNow_231 (hP ((0 : Int32), e91) h))
theorem lk_X10_231 : ax_lkV RX10 231 mu_X10_doubtsNow RX10 0 := ax_lkV_of (ax_m6 12 rfl rfl) (ax_m6 14 rfl rfl) (ax_mp4 12 rfl rfl rfl) (ax_m1 10 rfl rfl) lc_X10_doubtsNow rfl ⟨by decide +kernel, by decide +kernel, by decide +kernel⟩
def mu_X10_doubts : ax_Mu := (yX10_doubts, cX10_doubts, 1, some .long, 4, 94)
theorem lc_X10_doubts : Cond.code mu_X10_doubts.1 mu_X10_doubts.2.1 mu_X10_doubts.2.2.1 mu_X10_doubts.2.2.2.1 ∈ ax_tb := (ax_m6 11 rfl rfl)
noncomputable def f_X10_doubts  (s : ax_S) : Option (Int64 × ax_S) := (f_X10_canAll s).bind (fun q1 => (if q1.1 = 0 then (f_X10_doubtsNow q1.2).bind (fun q10 => (if q10.1 = (-4 : Int32) then some (((-9223372036854775804 : Int64), q10.2)) else some (((q10.2.2 0 27), q10.2)))) else some (((0 : Int64), q1.2))))
theorem T_X10_doubts  (s : ax_S) (r : Int64 × ax_S) (h : f_X10_doubts s = some r) : ax_M cx_R mu_X10_doubts (fun ad => [.ref (ad 0)]) s (some (.long r.1)) r.2 := by
  refine ax_enter (by decide +kernel) 0 (fun ad => [some (.ref (ad 0))]) (fun ad => rfl) (fun ad => Nat.le_of_ble_eq_true rfl) (fun X hV ho => ?_)
  refine ax_go (fun r : Int64 × ax_S => (some (Value.long r.1), r.2)) (fun P hP => ?_) h ho
  unfold f_X10_doubts
  refine ax_j (ax_aload_n hV dX10_doubts_0 rfl) ?_
  refine ax_jb (fun v ho => ax_cVi hV lk_X10_173 rfl dX10_doubts_1 rfl rfl [] [] (fun ad => [.ref (ad 0)]) rfl rfl rfl rfl v.1 v.2 (T_X10_canAll s v ho)) (fun q1 => ?_)
  refine ax_jif (ax_if_eq hV dX10_doubts_4) ?_ ?_
  · refine ax_j (ax_aload_n hV dX10_doubts_9 rfl) ?_
    refine ax_jb (fun v ho => ax_cVi hV lk_X10_231 rfl dX10_doubts_10 rfl rfl [] [] (fun ad => [.ref (ad 0)]) rfl rfl rfl rfl v.1 v.2 (T_X10_doubtsNow q1.2 v ho)) (fun q10 => ?_)
    refine ax_j (ax_bipush hV (-4 : Int32) dX10_doubts_13 (by decide)) ?_
    refine ax_jif (ax_icmp_ne hV dX10_doubts_15) ?_ ?_
    · refine ax_j (ax_ldc2 hV kc_X10_235 dX10_doubts_18) ?_
      refine ax_j (ax_goto hV dX10_doubts_21) ?_
      exact ax_jl (fun h => ax_lr hV rfl dX10_doubts_28 (hP ((-9223372036854775804 : Int64), q10.2) h))
    · refine ax_j (ax_aload_n hV dX10_doubts_24 rfl) ?_
      refine ax_j (ax_gfl hV lf_X10_218 dX10_doubts_25 rfl rfl) ?_
      exact ax_jl (fun h => ax_lr hV rfl dX10_doubts_28 (hP ((q10.2.2 0 27), q10.2) h))
  · refine ax_j (ax_lconst hV (0 : Int64) dX10_doubts_7 (by decide)) ?_
    exact ax_jl (fun h => ax_lr hV rfl dX10_doubts_8 (hP ((0 : Int64), q1.2) h))
def mu_X10_blamed : ax_Mu := (yX10_blamed, cX10_blamed, 3, some .int, 4, 94)
theorem lc_X10_blamed : Cond.code mu_X10_blamed.1 mu_X10_blamed.2.1 mu_X10_blamed.2.2.1 mu_X10_blamed.2.2.2.1 ∈ ax_tb := (ax_m6 31 rfl rfl)
noncomputable def b_X10_blamed_51 (l1 : Int32) (s : ax_S) (a : Int32) : Option ((Int32) ⊕ ((Unit) ⊕ (Int32 × ax_S))) := (if (s.1 0 25) ≤ a then some (.inr (.inl ())) else (ax_ai cx_R s 17 a).bind (fun v64 => (if v64 = l1 then (ax_ai cx_R s 18 a).bind (fun v74 => some (.inr (.inr (v74, s)))) else some (.inl (a + 1)))))
noncomputable def f_X10_blamed (p1 : Int32) (s : ax_S) : Option (Int32 × ax_S) := (f_X10_in p1 (0 : Int32) ((s.1 0 6) - (1 : Int32))).bind (fun q8 => (if q8 = 0 then some (((-2 : Int32), s)) else (f_X10_isKnown p1 s).bind (fun q19 => (if q19 = 0 then some (((-3 : Int32), s)) else (f_X10_canAll s).bind (fun q29 => (if q29.1 = 0 then (f_X10_doubtsNow q29.2).bind (fun q38 => (if q38.1 = (-4 : Int32) then some (((-4 : Int32), q38.2)) else (ax_lp (b_X10_blamed_51 p1 q38.2) (0 : Int32)).bind (Sum.elim (fun e51 => some (((0 : Int32), q38.2))) (fun r => some (r))))) else some (((0 : Int32), q29.2))))))))
theorem B_X10_blamed_51 (X : ax_G × ax_K × Option Value × ax_S) (hV : ax_ok (cx_R, X) mu_X10_blamed) (l1 : Int32) (s : ax_S) (P : ((Int32) ⊕ ((Unit) ⊕ (Int32 × ax_S))) → Prop) (hI : ∀ a : Int32, P (.inl a) → ax_At (cx_R, X) 51 [some (.ref (ax_ad (cx_R, X) 0)), some (.int l1), some (.int a)] [] s) (hO : ∀ e : Unit, P (.inr (.inl e)) → ax_At (cx_R, X) 82 [none, none, none] [] s) (hR : ∀ r : Int32 × ax_S, P (.inr (.inr r)) → X.2.2 = (fun r : Int32 × ax_S => (some (Value.int r.1), r.2)) r) (a : Int32) : ax_J (cx_R, X) P 51 [some (.ref (ax_ad (cx_R, X) 0)), some (.int l1), some (.int a)] [] s (b_X10_blamed_51 l1 s a) := by
  unfold b_X10_blamed_51
  refine ax_j (ax_iload_n hV dX10_blamed_51 rfl) ?_
  refine ax_j (ax_aload_n hV dX10_blamed_52 rfl) ?_
  refine ax_j (ax_gfi hV lf_X10_215 dX10_blamed_53 rfl rfl) ?_
  refine ax_jif (ax_icmp_ge hV dX10_blamed_56) ?_ ?_
  · refine ax_jf (lv' := [none, none, none]) [false, false, false] rfl ?_
    exact ax_jl (fun h => hO () h)
  · refine ax_j (ax_aload_n hV dX10_blamed_59 rfl) ?_
    refine ax_j (ax_gfr hV lf_X10_62 dX10_blamed_60 rfl rfl) ?_
    refine ax_j (ax_iload_n hV dX10_blamed_63 rfl) ?_
    refine ax_jb (ax_iald hV dX10_blamed_64) (fun v64 => ?_)
    refine ax_j (ax_iload_n hV dX10_blamed_65 rfl) ?_
    refine ax_jif (ax_icmp_ne hV dX10_blamed_66) ?_ ?_
    · refine ax_j (ax_aload_n hV dX10_blamed_69 rfl) ?_
      refine ax_j (ax_gfr hV lf_X10_65 dX10_blamed_70 rfl rfl) ?_
      refine ax_j (ax_iload_n hV dX10_blamed_73 rfl) ?_
      refine ax_jb (ax_iald hV dX10_blamed_74) (fun v74 => ?_)
      exact ax_jl (fun h => ax_ir hV rfl dX10_blamed_75 (hR (v74, s) h))
    · refine ax_j (ax_iinc hV (a + 1) [some (.ref (ax_ad (cx_R, X) 0)), some (.int l1), some (.int (a + 1))] dX10_blamed_76 rfl rfl rfl rfl) ?_
      refine ax_j (ax_goto hV dX10_blamed_79) ?_
      exact ax_jl (fun h => hI (a + 1) h)
theorem T_X10_blamed (p1 : Int32) (s : ax_S) (r : Int32 × ax_S) (h : f_X10_blamed p1 s = some r) : ax_M cx_R mu_X10_blamed (fun ad => [.ref (ad 0), .int p1]) s (some (.int r.1)) r.2 := by
  refine ax_enter (by decide +kernel) 1 (fun ad => [some (.ref (ad 0)), some (.int p1), none]) (fun ad => rfl) (fun ad => Nat.le_of_ble_eq_true rfl) (fun X hV ho => ?_)
  refine ax_go (fun r : Int32 × ax_S => (some (Value.int r.1), r.2)) (fun P hP => ?_) h ho
  unfold f_X10_blamed
  refine ax_j (ax_iload_n hV dX10_blamed_0 rfl) ?_
  refine ax_j (ax_iconst hV (0 : Int32) dX10_blamed_1 (by decide)) ?_
  refine ax_j (ax_aload_n hV dX10_blamed_2 rfl) ?_
  refine ax_j (ax_gfi hV lf_X10_111 dX10_blamed_3 rfl rfl) ?_
  refine ax_j (ax_iconst hV (1 : Int32) dX10_blamed_6 (by decide)) ?_
  refine ax_j (ax_isub hV dX10_blamed_7) ?_
  refine ax_jb (fun v ho => ax_cSi hV lk_X10_97 rfl dX10_blamed_8 [.int p1, .int (0 : Int32), .int ((s.1 0 6) - (1 : Int32))] [] (fun ad => [.int p1, .int (0 : Int32), .int ((s.1 0 6) - (1 : Int32))]) rfl rfl rfl rfl v s (T_X10_in p1 (0 : Int32) ((s.1 0 6) - (1 : Int32)) s v ho)) (fun q8 => ?_)
  refine ax_jif (ax_if_ne hV dX10_blamed_11) ?_ ?_
  · refine ax_j (ax_bipush hV (-2 : Int32) dX10_blamed_14 (by decide)) ?_
    exact ax_jl (fun h => ax_ir hV rfl dX10_blamed_16 (hP ((-2 : Int32), s) h))
  · refine ax_j (ax_aload_n hV dX10_blamed_17 rfl) ?_
    refine ax_j (ax_iload_n hV dX10_blamed_18 rfl) ?_
    refine ax_jb (fun v ho => ax_cVi hV lk_X10_147 rfl dX10_blamed_19 rfl rfl [.int p1] [] (fun ad => [.ref (ad 0), .int p1]) rfl rfl rfl rfl v s (T_X10_isKnown p1 s v ho)) (fun q19 => ?_)
    refine ax_jif (ax_if_ne hV dX10_blamed_22) ?_ ?_
    · refine ax_j (ax_bipush hV (-3 : Int32) dX10_blamed_25 (by decide)) ?_
      exact ax_jl (fun h => ax_ir hV rfl dX10_blamed_27 (hP ((-3 : Int32), s) h))
    · refine ax_j (ax_aload_n hV dX10_blamed_28 rfl) ?_
      refine ax_jb (fun v ho => ax_cVi hV lk_X10_173 rfl dX10_blamed_29 rfl rfl [] [] (fun ad => [.ref (ad 0)]) rfl rfl rfl rfl v.1 v.2 (T_X10_canAll s v ho)) (fun q29 => ?_)
      refine ax_jif (ax_if_eq hV dX10_blamed_32) ?_ ?_
      · refine ax_j (ax_aload_n hV dX10_blamed_37 rfl) ?_
        refine ax_jb (fun v ho => ax_cVi hV lk_X10_231 rfl dX10_blamed_38 rfl rfl [] [] (fun ad => [.ref (ad 0)]) rfl rfl rfl rfl v.1 v.2 (T_X10_doubtsNow q29.2 v ho)) (fun q38 => ?_)
        refine ax_j (ax_bipush hV (-4 : Int32) dX10_blamed_41 (by decide)) ?_
        refine ax_jif (ax_icmp_ne hV dX10_blamed_43) ?_ ?_
        · refine ax_j (ax_bipush hV (-4 : Int32) dX10_blamed_46 (by decide)) ?_
          exact ax_jl (fun h => ax_ir hV rfl dX10_blamed_48 (hP ((-4 : Int32), q38.2) h))
        · refine ax_j (ax_iconst hV (0 : Int32) dX10_blamed_49 (by decide)) ?_
          refine ax_j (ax_istore_n hV [some (.ref (ax_ad (cx_R, X) 0)), some (.int p1), some (.int (0 : Int32))] dX10_blamed_50 rfl rfl) ?_
          refine ax_jlr (0 : Int32) (fun x51 : Int32 => [some (.ref (ax_ad (cx_R, X) 0)), some (.int p1), some (.int x51)]) (fun x51 : Int32 => q38.2) (fun y51 : Unit => [none, none, none]) (fun y51 : Unit => q38.2) (fun P' h1 h2 h3 w => B_X10_blamed_51 X hV p1 q38.2 P' h1 h2 (fun r h => hP r (h3 r h)) w) (fun e51 => ?_)
          refine ax_j (ax_iconst hV (0 : Int32) dX10_blamed_82 (by decide)) ?_
          exact ax_jl (fun h => ax_ir hV rfl dX10_blamed_83 (hP ((0 : Int32), q38.2) h))
      · refine ax_j (ax_iconst hV (0 : Int32) dX10_blamed_35 (by decide)) ?_
        exact ax_jl (fun h => ax_ir hV rfl dX10_blamed_36 (hP ((0 : Int32), q29.2) h))
def mu_X10_sures : ax_Mu := (yX10_sures, cX10_sures, 3, some .boolean, 4, 86)
theorem lc_X10_sures : Cond.code mu_X10_sures.1 mu_X10_sures.2.1 mu_X10_sures.2.2.1 mu_X10_sures.2.2.2.1 ∈ ax_tb := (ax_m6 39 rfl rfl)
noncomputable def b_X10_sures_28 (l1 : Int32) (a : Int32 × ax_S) : Option ((Int32 × ax_S) ⊕ (ax_S)) := (if (a.2.1 0 1) ≤ a.1 then some (.inr a.2) else (ax_ai cx_R a.2 19 l1).bind (fun v42 => (if a.1 = l1 then (ax_si cx_R a.2 19 l1 (v42 ||| (0 : Int32))).bind (fun s76 => some (.inl ((a.1 + 1), s76))) else (ax_ai cx_R a.2 11 ((((19 : Int32) * ((1 : Int32) + l1)) + (1 : Int32)) + a.1)).bind (fun v62 => (if (-v62) < (1 : Int32) then (ax_si cx_R a.2 19 l1 (v42 ||| (0 : Int32))).bind (fun s76 => some (.inl ((a.1 + 1), s76))) else (ax_si cx_R a.2 19 l1 (v42 ||| ((1 : Int32) <<< (a.1 &&& 31)))).bind (fun s76 => some (.inl ((a.1 + 1), s76))))))))
noncomputable def b_X10_sures_11  (a : Int32 × ax_S) : Option ((Int32 × ax_S) ⊕ (ax_S)) := (if (a.2.1 0 1) ≤ a.1 then some (.inr a.2) else (ax_si cx_R a.2 19 a.1 (0 : Int32)).bind (fun s25 => (ax_lp (b_X10_sures_28 a.1) ((0 : Int32), s25)).bind (fun e28 => some (.inl ((a.1 + 1), e28)))))
noncomputable def f_X10_sures  (s : ax_S) : Option (Int32 × ax_S) := (f_X10_canAll s).bind (fun q1 => (if q1.1 = 0 then some (((0 : Int32), q1.2)) else (ax_lp (b_X10_sures_11) ((0 : Int32), q1.2)).bind (fun e11 => some (((1 : Int32), e11)))))
theorem B_X10_sures_28 (X : ax_G × ax_K × Option Value × ax_S) (hV : ax_ok (cx_R, X) mu_X10_sures) (l1 : Int32) (P : ((Int32 × ax_S) ⊕ (ax_S)) → Prop) (hI : ∀ a : Int32 × ax_S, P (.inl a) → ax_At (cx_R, X) 28 [some (.ref (ax_ad (cx_R, X) 0)), some (.int l1), some (.int a.1)] [] a.2) (hO : ∀ e : ax_S, P (.inr e) → ax_At (cx_R, X) 83 [some (.ref (ax_ad (cx_R, X) 0)), some (.int l1), none] [] e) (a : Int32 × ax_S) : ax_J (cx_R, X) P 28 [some (.ref (ax_ad (cx_R, X) 0)), some (.int l1), some (.int a.1)] [] a.2 (b_X10_sures_28 l1 a) := by
  unfold b_X10_sures_28
  refine ax_j (ax_iload_n hV dX10_sures_28 rfl) ?_
  refine ax_j (ax_aload_n hV dX10_sures_29 rfl) ?_
  refine ax_j (ax_gfi hV lf_X10_94 dX10_sures_30 rfl rfl) ?_
  refine ax_jif (ax_icmp_ge hV dX10_sures_33) ?_ ?_
  · refine ax_jf (lv' := [some (.ref (ax_ad (cx_R, X) 0)), some (.int l1), none]) [true, true, false] rfl ?_
    exact ax_jl (fun h => hO a.2 h)
  · refine ax_j (ax_aload_n hV dX10_sures_36 rfl) ?_
    refine ax_j (ax_gfr hV lf_X10_68 dX10_sures_37 rfl rfl) ?_
    refine ax_j (ax_iload_n hV dX10_sures_40 rfl) ?_
    refine ax_j (ax_dup2 hV dX10_sures_41 rfl rfl) ?_
    refine ax_jb (ax_iald hV dX10_sures_42) (fun v42 => ?_)
    refine ax_j (ax_iload_n hV dX10_sures_43 rfl) ?_
    refine ax_j (ax_iload_n hV dX10_sures_44 rfl) ?_
    refine ax_jif (ax_icmp_eq hV dX10_sures_45) ?_ ?_
    · refine ax_j (ax_iconst hV (0 : Int32) dX10_sures_74 (by decide)) ?_
      refine ax_j (ax_ior hV dX10_sures_75) ?_
      refine ax_jb (ax_iast hV dX10_sures_76) (fun s76 => ?_)
      refine ax_j (ax_iinc hV (a.1 + 1) [some (.ref (ax_ad (cx_R, X) 0)), some (.int l1), some (.int (a.1 + 1))] dX10_sures_77 rfl rfl rfl rfl) ?_
      refine ax_j (ax_goto hV dX10_sures_80) ?_
      exact ax_jl (fun h => hI ((a.1 + 1), s76) h)
    · refine ax_j (ax_aload_n hV dX10_sures_48 rfl) ?_
      refine ax_j (ax_gfr hV lf_X10_44 dX10_sures_49 rfl rfl) ?_
      refine ax_j (ax_bipush hV (19 : Int32) dX10_sures_52 (by decide)) ?_
      refine ax_j (ax_iconst hV (1 : Int32) dX10_sures_54 (by decide)) ?_
      refine ax_j (ax_iload_n hV dX10_sures_55 rfl) ?_
      refine ax_j (ax_iadd hV dX10_sures_56) ?_
      refine ax_j (ax_imul hV dX10_sures_57) ?_
      refine ax_j (ax_iconst hV (1 : Int32) dX10_sures_58 (by decide)) ?_
      refine ax_j (ax_iadd hV dX10_sures_59) ?_
      refine ax_j (ax_iload_n hV dX10_sures_60 rfl) ?_
      refine ax_j (ax_iadd hV dX10_sures_61) ?_
      refine ax_jb (ax_iald hV dX10_sures_62) (fun v62 => ?_)
      refine ax_j (ax_ineg hV dX10_sures_63) ?_
      refine ax_j (ax_iconst hV (1 : Int32) dX10_sures_64 (by decide)) ?_
      refine ax_jif (ax_icmp_lt hV dX10_sures_65) ?_ ?_
      · refine ax_j (ax_iconst hV (0 : Int32) dX10_sures_74 (by decide)) ?_
        refine ax_j (ax_ior hV dX10_sures_75) ?_
        refine ax_jb (ax_iast hV dX10_sures_76) (fun s76 => ?_)
        refine ax_j (ax_iinc hV (a.1 + 1) [some (.ref (ax_ad (cx_R, X) 0)), some (.int l1), some (.int (a.1 + 1))] dX10_sures_77 rfl rfl rfl rfl) ?_
        refine ax_j (ax_goto hV dX10_sures_80) ?_
        exact ax_jl (fun h => hI ((a.1 + 1), s76) h)
      · refine ax_j (ax_iconst hV (1 : Int32) dX10_sures_68 (by decide)) ?_
        refine ax_j (ax_iload_n hV dX10_sures_69 rfl) ?_
        refine ax_j (ax_ishl hV dX10_sures_70) ?_
        refine ax_j (ax_goto hV dX10_sures_71) ?_
        refine ax_j (ax_ior hV dX10_sures_75) ?_
        refine ax_jb (ax_iast hV dX10_sures_76) (fun s76 => ?_)
        refine ax_j (ax_iinc hV (a.1 + 1) [some (.ref (ax_ad (cx_R, X) 0)), some (.int l1), some (.int (a.1 + 1))] dX10_sures_77 rfl rfl rfl rfl) ?_
        refine ax_j (ax_goto hV dX10_sures_80) ?_
        exact ax_jl (fun h => hI ((a.1 + 1), s76) h)
theorem B_X10_sures_11 (X : ax_G × ax_K × Option Value × ax_S) (hV : ax_ok (cx_R, X) mu_X10_sures)  (P : ((Int32 × ax_S) ⊕ (ax_S)) → Prop) (hI : ∀ a : Int32 × ax_S, P (.inl a) → ax_At (cx_R, X) 11 [some (.ref (ax_ad (cx_R, X) 0)), some (.int a.1), none] [] a.2) (hO : ∀ e : ax_S, P (.inr e) → ax_At (cx_R, X) 89 [none, none, none] [] e) (a : Int32 × ax_S) : ax_J (cx_R, X) P 11 [some (.ref (ax_ad (cx_R, X) 0)), some (.int a.1), none] [] a.2 (b_X10_sures_11 a) := by
  unfold b_X10_sures_11
  refine ax_j (ax_iload_n hV dX10_sures_11 rfl) ?_
  refine ax_j (ax_aload_n hV dX10_sures_12 rfl) ?_
  refine ax_j (ax_gfi hV lf_X10_94 dX10_sures_13 rfl rfl) ?_
  refine ax_jif (ax_icmp_ge hV dX10_sures_16) ?_ ?_
  · refine ax_jf (lv' := [none, none, none]) [false, false, false] rfl ?_
    exact ax_jl (fun h => hO a.2 h)
  · refine ax_j (ax_aload_n hV dX10_sures_19 rfl) ?_
    refine ax_j (ax_gfr hV lf_X10_68 dX10_sures_20 rfl rfl) ?_
    refine ax_j (ax_iload_n hV dX10_sures_23 rfl) ?_
    refine ax_j (ax_iconst hV (0 : Int32) dX10_sures_24 (by decide)) ?_
    refine ax_jb (ax_iast hV dX10_sures_25) (fun s25 => ?_)
    refine ax_j (ax_iconst hV (0 : Int32) dX10_sures_26 (by decide)) ?_
    refine ax_j (ax_istore_n hV [some (.ref (ax_ad (cx_R, X) 0)), some (.int a.1), some (.int (0 : Int32))] dX10_sures_27 rfl rfl) ?_
    refine ax_jlp ((0 : Int32), s25) (fun x28 : Int32 × ax_S => [some (.ref (ax_ad (cx_R, X) 0)), some (.int a.1), some (.int x28.1)]) (fun x28 : Int32 × ax_S => x28.2) (fun y28 : ax_S => [some (.ref (ax_ad (cx_R, X) 0)), some (.int a.1), none]) (fun y28 : ax_S => y28) (fun P' h1 h2 w => B_X10_sures_28 X hV a.1 P' h1 h2 w) (fun e28 => ?_)
    refine ax_j (ax_iinc hV (a.1 + 1) [some (.ref (ax_ad (cx_R, X) 0)), some (.int (a.1 + 1)), none] dX10_sures_83 rfl rfl rfl rfl) ?_
    refine ax_j (ax_goto hV dX10_sures_86) ?_
    exact ax_jl (fun h => hI ((a.1 + 1), e28) h)
theorem T_X10_sures  (s : ax_S) (r : Int32 × ax_S) (h : f_X10_sures s = some r) : ax_M cx_R mu_X10_sures (fun ad => [.ref (ad 0)]) s (some (.int r.1)) r.2 := by
  refine ax_enter (by decide +kernel) 2 (fun ad => [some (.ref (ad 0)), none, none]) (fun ad => rfl) (fun ad => Nat.le_of_ble_eq_true rfl) (fun X hV ho => ?_)
  refine ax_go (fun r : Int32 × ax_S => (some (Value.int r.1), r.2)) (fun P hP => ?_) h ho
  unfold f_X10_sures
  refine ax_j (ax_aload_n hV dX10_sures_0 rfl) ?_
  refine ax_jb (fun v ho => ax_cVi hV lk_X10_173 rfl dX10_sures_1 rfl rfl [] [] (fun ad => [.ref (ad 0)]) rfl rfl rfl rfl v.1 v.2 (T_X10_canAll s v ho)) (fun q1 => ?_)
  refine ax_jif (ax_if_ne hV dX10_sures_4) ?_ ?_
  · refine ax_j (ax_iconst hV (0 : Int32) dX10_sures_7 (by decide)) ?_
    exact ax_jl (fun h => ax_zr hV rfl (by decide) dX10_sures_8 (hP ((0 : Int32), q1.2) h))
  · refine ax_j (ax_iconst hV (0 : Int32) dX10_sures_9 (by decide)) ?_
    refine ax_j (ax_istore_n hV [some (.ref (ax_ad (cx_R, X) 0)), some (.int (0 : Int32)), none] dX10_sures_10 rfl rfl) ?_
    refine ax_jlp ((0 : Int32), q1.2) (fun x11 : Int32 × ax_S => [some (.ref (ax_ad (cx_R, X) 0)), some (.int x11.1), none]) (fun x11 : Int32 × ax_S => x11.2) (fun y11 : ax_S => [none, none, none]) (fun y11 : ax_S => y11) (fun P' h1 h2 w => B_X10_sures_11 X hV  P' h1 h2 w) (fun e11 => ?_)
    refine ax_j (ax_iconst hV (1 : Int32) dX10_sures_89 (by decide)) ?_
    exact ax_jl (fun h => ax_zr hV rfl (by decide) dX10_sures_90 (hP ((1 : Int32), e11) h))
theorem lk_X10_240 : ax_lkV RX10 240 mu_X10_sures RX10 0 := ax_lkV_of (ax_m6 36 rfl rfl) (ax_m6 38 rfl rfl) (ax_mp4 15 rfl rfl rfl) (ax_m1 10 rfl rfl) lc_X10_sures rfl ⟨by decide +kernel, by decide +kernel, by decide +kernel⟩
def mu_X10_ordersBut : ax_Mu := (yX10_ordersBut, cX10_ordersBut, 5, some .long, 0, 0)
theorem lc_X10_ordersBut : Cond.code mu_X10_ordersBut.1 mu_X10_ordersBut.2.1 mu_X10_ordersBut.2.2.1 mu_X10_ordersBut.2.2.2.1 ∈ ax_tb := (ax_m6 51 rfl rfl)
noncomputable def b_X10_ordersBut_34 (l1 : Int32) (l3 : Int32) (a : Int32 × ax_S) : Option ((Int32 × ax_S) ⊕ (ax_S)) := (if (a.2.1 0 1) ≤ a.1 then some (.inr a.2) else (if ((l3 >>> (a.1 &&& 31)) &&& (1 : Int32)) = 0 then (ax_ai cx_R a.2 19 a.1).bind (fun v58 => (if (v58 &&& (l3 ^^^ (-1 : Int32))) = 0 then (ax_al cx_R a.2 20 l3).bind (fun v72 => (ax_al cx_R a.2 20 (l3 ||| ((1 : Int32) <<< (a.1 &&& 31)))).bind (fun v83 => (ax_sl cx_R a.2 20 l3 (v72 + v83)).bind (fun s85 => some (.inl ((a.1 + 1), s85))))) else some (.inl ((a.1 + 1), a.2)))) else some (.inl ((a.1 + 1), a.2))))
noncomputable def b_X10_ordersBut_20 (l1 : Int32) (a : Int32 × ax_S) : Option ((Int32 × ax_S) ⊕ (ax_S)) := (if a.1 < 0 then some (.inr a.2) else (ax_sl cx_R a.2 20 a.1 (0 : Int64)).bind (fun s30 => (ax_lp (b_X10_ordersBut_34 l1 a.1) ((0 : Int32), s30)).bind (fun e34 => some (.inl ((a.1 + (-1)), e34)))))
noncomputable def f_X10_ordersBut (p1 : Int32) (s : ax_S) : Option (Int64 × ax_S) := (ax_sl cx_R s 20 (((1 : Int32) <<< ((s.1 0 1) &&& 31)) - (1 : Int32)) (1 : Int64)).bind (fun s15 => (ax_lp (b_X10_ordersBut_20 p1) (((((1 : Int32) <<< ((s.1 0 1) &&& 31)) - (1 : Int32)) - (1 : Int32)), s15)).bind (fun e20 => (ax_al cx_R e20 20 p1).bind (fun v103 => some ((v103, e20)))))
theorem B_X10_ordersBut_34 (X : ax_G × ax_K × Option Value × ax_S) (hV : ax_ok (cx_R, X) mu_X10_ordersBut) (l1 : Int32) (l3 : Int32) (P : ((Int32 × ax_S) ⊕ (ax_S)) → Prop) (hI : ∀ a : Int32 × ax_S, P (.inl a) → ax_At (cx_R, X) 34 [some (.ref (ax_ad (cx_R, X) 0)), some (.int l1), none, some (.int l3), some (.int a.1)] [] a.2) (hO : ∀ e : ax_S, P (.inr e) → ax_At (cx_R, X) 92 [some (.ref (ax_ad (cx_R, X) 0)), some (.int l1), none, some (.int l3), none] [] e) (a : Int32 × ax_S) : ax_J (cx_R, X) P 34 [some (.ref (ax_ad (cx_R, X) 0)), some (.int l1), none, some (.int l3), some (.int a.1)] [] a.2 (b_X10_ordersBut_34 l1 l3 a) := by
  unfold b_X10_ordersBut_34
  refine ax_j (ax_iload hV dX10_ordersBut_34 rfl) ?_
  refine ax_j (ax_aload_n hV dX10_ordersBut_36 rfl) ?_
  refine ax_j (ax_gfi hV lf_X10_94 dX10_ordersBut_37 rfl rfl) ?_
  refine ax_jif (ax_icmp_ge hV dX10_ordersBut_40) ?_ ?_
  · refine ax_jf (lv' := [some (.ref (ax_ad (cx_R, X) 0)), some (.int l1), none, some (.int l3), none]) [true, true, false, true, false] rfl ?_
    exact ax_jl (fun h => hO a.2 h)
  · refine ax_j (ax_iload_n hV dX10_ordersBut_43 rfl) ?_
    refine ax_j (ax_iload hV dX10_ordersBut_44 rfl) ?_
    refine ax_j (ax_ishr hV dX10_ordersBut_46) ?_
    refine ax_j (ax_iconst hV (1 : Int32) dX10_ordersBut_47 (by decide)) ?_
    refine ax_j (ax_iand hV dX10_ordersBut_48) ?_
    refine ax_jif (ax_if_ne hV dX10_ordersBut_49) ?_ ?_
    · refine ax_j (ax_aload_n hV dX10_ordersBut_52 rfl) ?_
      refine ax_j (ax_gfr hV lf_X10_68 dX10_ordersBut_53 rfl rfl) ?_
      refine ax_j (ax_iload hV dX10_ordersBut_56 rfl) ?_
      refine ax_jb (ax_iald hV dX10_ordersBut_58) (fun v58 => ?_)
      refine ax_j (ax_iload_n hV dX10_ordersBut_59 rfl) ?_
      refine ax_j (ax_iconst hV (-1 : Int32) dX10_ordersBut_60 (by decide)) ?_
      refine ax_j (ax_ixor hV dX10_ordersBut_61) ?_
      refine ax_j (ax_iand hV dX10_ordersBut_62) ?_
      refine ax_jif (ax_if_ne hV dX10_ordersBut_63) ?_ ?_
      · refine ax_j (ax_aload_n hV dX10_ordersBut_66 rfl) ?_
        refine ax_j (ax_gfr hV lf_X10_71 dX10_ordersBut_67 rfl rfl) ?_
        refine ax_j (ax_iload_n hV dX10_ordersBut_70 rfl) ?_
        refine ax_j (ax_dup2 hV dX10_ordersBut_71 rfl rfl) ?_
        refine ax_jb (ax_lald hV dX10_ordersBut_72) (fun v72 => ?_)
        refine ax_j (ax_aload_n hV dX10_ordersBut_73 rfl) ?_
        refine ax_j (ax_gfr hV lf_X10_71 dX10_ordersBut_74 rfl rfl) ?_
        refine ax_j (ax_iload_n hV dX10_ordersBut_77 rfl) ?_
        refine ax_j (ax_iconst hV (1 : Int32) dX10_ordersBut_78 (by decide)) ?_
        refine ax_j (ax_iload hV dX10_ordersBut_79 rfl) ?_
        refine ax_j (ax_ishl hV dX10_ordersBut_81) ?_
        refine ax_j (ax_ior hV dX10_ordersBut_82) ?_
        refine ax_jb (ax_lald hV dX10_ordersBut_83) (fun v83 => ?_)
        refine ax_j (ax_ladd hV dX10_ordersBut_84) ?_
        refine ax_jb (ax_last hV dX10_ordersBut_85) (fun s85 => ?_)
        refine ax_j (ax_iinc hV (a.1 + 1) [some (.ref (ax_ad (cx_R, X) 0)), some (.int l1), none, some (.int l3), some (.int (a.1 + 1))] dX10_ordersBut_86 rfl rfl rfl rfl) ?_
        refine ax_j (ax_goto hV dX10_ordersBut_89) ?_
        exact ax_jl (fun h => hI ((a.1 + 1), s85) h)
      · refine ax_j (ax_iinc hV (a.1 + 1) [some (.ref (ax_ad (cx_R, X) 0)), some (.int l1), none, some (.int l3), some (.int (a.1 + 1))] dX10_ordersBut_86 rfl rfl rfl rfl) ?_
        refine ax_j (ax_goto hV dX10_ordersBut_89) ?_
        exact ax_jl (fun h => hI ((a.1 + 1), a.2) h)
    · refine ax_j (ax_iinc hV (a.1 + 1) [some (.ref (ax_ad (cx_R, X) 0)), some (.int l1), none, some (.int l3), some (.int (a.1 + 1))] dX10_ordersBut_86 rfl rfl rfl rfl) ?_
      refine ax_j (ax_goto hV dX10_ordersBut_89) ?_
      exact ax_jl (fun h => hI ((a.1 + 1), a.2) h)
theorem B_X10_ordersBut_20 (X : ax_G × ax_K × Option Value × ax_S) (hV : ax_ok (cx_R, X) mu_X10_ordersBut) (l1 : Int32) (P : ((Int32 × ax_S) ⊕ (ax_S)) → Prop) (hI : ∀ a : Int32 × ax_S, P (.inl a) → ax_At (cx_R, X) 20 [some (.ref (ax_ad (cx_R, X) 0)), some (.int l1), none, some (.int a.1), none] [] a.2) (hO : ∀ e : ax_S, P (.inr e) → ax_At (cx_R, X) 98 [some (.ref (ax_ad (cx_R, X) 0)), some (.int l1), none, none, none] [] e) (a : Int32 × ax_S) : ax_J (cx_R, X) P 20 [some (.ref (ax_ad (cx_R, X) 0)), some (.int l1), none, some (.int a.1), none] [] a.2 (b_X10_ordersBut_20 l1 a) := by
  unfold b_X10_ordersBut_20
  refine ax_j (ax_iload_n hV dX10_ordersBut_20 rfl) ?_
  refine ax_jif (ax_if_lt hV dX10_ordersBut_21) ?_ ?_
  · refine ax_jf (lv' := [some (.ref (ax_ad (cx_R, X) 0)), some (.int l1), none, none, none]) [true, true, false, false, false] rfl ?_
    exact ax_jl (fun h => hO a.2 h)
  · refine ax_j (ax_aload_n hV dX10_ordersBut_24 rfl) ?_
    refine ax_j (ax_gfr hV lf_X10_71 dX10_ordersBut_25 rfl rfl) ?_
    refine ax_j (ax_iload_n hV dX10_ordersBut_28 rfl) ?_
    refine ax_j (ax_lconst hV (0 : Int64) dX10_ordersBut_29 (by decide)) ?_
    refine ax_jb (ax_last hV dX10_ordersBut_30) (fun s30 => ?_)
    refine ax_j (ax_iconst hV (0 : Int32) dX10_ordersBut_31 (by decide)) ?_
    refine ax_j (ax_istore hV [some (.ref (ax_ad (cx_R, X) 0)), some (.int l1), none, some (.int a.1), some (.int (0 : Int32))] dX10_ordersBut_32 rfl rfl) ?_
    refine ax_jlp ((0 : Int32), s30) (fun x34 : Int32 × ax_S => [some (.ref (ax_ad (cx_R, X) 0)), some (.int l1), none, some (.int a.1), some (.int x34.1)]) (fun x34 : Int32 × ax_S => x34.2) (fun y34 : ax_S => [some (.ref (ax_ad (cx_R, X) 0)), some (.int l1), none, some (.int a.1), none]) (fun y34 : ax_S => y34) (fun P' h1 h2 w => B_X10_ordersBut_34 X hV l1 a.1 P' h1 h2 w) (fun e34 => ?_)
    refine ax_j (ax_iinc hV (a.1 + (-1)) [some (.ref (ax_ad (cx_R, X) 0)), some (.int l1), none, some (.int (a.1 + (-1))), none] dX10_ordersBut_92 rfl rfl rfl rfl) ?_
    refine ax_j (ax_goto hV dX10_ordersBut_95) ?_
    exact ax_jl (fun h => hI ((a.1 + (-1)), e34) h)
theorem T_X10_ordersBut (p1 : Int32) (s : ax_S) (r : Int64 × ax_S) (h : f_X10_ordersBut p1 s = some r) : ax_M cx_R mu_X10_ordersBut (fun ad => [.ref (ad 0), .int p1]) s (some (.long r.1)) r.2 := by
  refine ax_enter (by decide +kernel) 3 (fun ad => [some (.ref (ad 0)), some (.int p1), none, none, none]) (fun ad => rfl) (fun ad => Nat.le_of_ble_eq_true rfl) (fun X hV ho => ?_)
  refine ax_go (fun r : Int64 × ax_S => (some (Value.long r.1), r.2)) (fun P hP => ?_) h ho
  unfold f_X10_ordersBut
  refine ax_j (ax_iconst hV (1 : Int32) dX10_ordersBut_0 (by decide)) ?_
  refine ax_j (ax_aload_n hV dX10_ordersBut_1 rfl) ?_
  refine ax_j (ax_gfi hV lf_X10_94 dX10_ordersBut_2 rfl rfl) ?_
  refine ax_j (ax_ishl hV dX10_ordersBut_5) ?_
  refine ax_j (ax_iconst hV (1 : Int32) dX10_ordersBut_6 (by decide)) ?_
  refine ax_j (ax_isub hV dX10_ordersBut_7) ?_
  refine ax_j (ax_istore_n hV [some (.ref (ax_ad (cx_R, X) 0)), some (.int p1), some (.int (((1 : Int32) <<< ((s.1 0 1) &&& 31)) - (1 : Int32))), none, none] dX10_ordersBut_8 rfl rfl) ?_
  refine ax_j (ax_aload_n hV dX10_ordersBut_9 rfl) ?_
  refine ax_j (ax_gfr hV lf_X10_71 dX10_ordersBut_10 rfl rfl) ?_
  refine ax_j (ax_iload_n hV dX10_ordersBut_13 rfl) ?_
  refine ax_j (ax_lconst hV (1 : Int64) dX10_ordersBut_14 (by decide)) ?_
  refine ax_jb (ax_last hV dX10_ordersBut_15) (fun s15 => ?_)
  refine ax_j (ax_iload_n hV dX10_ordersBut_16 rfl) ?_
  refine ax_j (ax_iconst hV (1 : Int32) dX10_ordersBut_17 (by decide)) ?_
  refine ax_j (ax_isub hV dX10_ordersBut_18) ?_
  refine ax_j (ax_istore_n hV [some (.ref (ax_ad (cx_R, X) 0)), some (.int p1), some (.int (((1 : Int32) <<< ((s.1 0 1) &&& 31)) - (1 : Int32))), some (.int ((((1 : Int32) <<< ((s.1 0 1) &&& 31)) - (1 : Int32)) - (1 : Int32))), none] dX10_ordersBut_19 rfl rfl) ?_
  refine ax_jf (lv' := [some (.ref (ax_ad (cx_R, X) 0)), some (.int p1), none, some (.int ((((1 : Int32) <<< ((s.1 0 1) &&& 31)) - (1 : Int32)) - (1 : Int32))), none]) [true, true, false, true, false] rfl ?_
  refine ax_jlp (((((1 : Int32) <<< ((s.1 0 1) &&& 31)) - (1 : Int32)) - (1 : Int32)), s15) (fun x20 : Int32 × ax_S => [some (.ref (ax_ad (cx_R, X) 0)), some (.int p1), none, some (.int x20.1), none]) (fun x20 : Int32 × ax_S => x20.2) (fun y20 : ax_S => [some (.ref (ax_ad (cx_R, X) 0)), some (.int p1), none, none, none]) (fun y20 : ax_S => y20) (fun P' h1 h2 w => B_X10_ordersBut_20 X hV p1 P' h1 h2 w) (fun e20 => ?_)
  refine ax_j (ax_aload_n hV dX10_ordersBut_98 rfl) ?_
  refine ax_j (ax_gfr hV lf_X10_71 dX10_ordersBut_99 rfl rfl) ?_
  refine ax_j (ax_iload_n hV dX10_ordersBut_102 rfl) ?_
  refine ax_jb (ax_lald hV dX10_ordersBut_103) (fun v103 => ?_)
  exact ax_jl (fun h => ax_lr hV rfl dX10_ordersBut_104 (hP (v103, e20) h))
theorem lk_X10_237 : ax_lkV RX10 237 mu_X10_ordersBut RX10 1 := ax_lkV_of (ax_m6 48 rfl rfl) (ax_m6 50 rfl rfl) (ax_mp5 1 rfl rfl rfl) (ax_m1 10 rfl rfl) lc_X10_ordersBut rfl ⟨by decide +kernel, by decide +kernel, by decide +kernel⟩
def mu_X10_ordersWith : ax_Mu := (yX10_ordersWith, cX10_ordersWith, 6, some .long, 1, 24)
theorem lc_X10_ordersWith : Cond.code mu_X10_ordersWith.1 mu_X10_ordersWith.2.1 mu_X10_ordersWith.2.2.1 mu_X10_ordersWith.2.2.2.1 ∈ ax_tb := (ax_m6 59 rfl rfl)
noncomputable def f_X10_ordersWith (p1 : Int32) (p2 : Int32) (s : ax_S) : Option (Int64 × ax_S) := (ax_ai cx_R s 19 p2).bind (fun v5 => (ax_ai cx_R s 19 p2).bind (fun v13 => (ax_si cx_R s 19 p2 (v13 ||| ((1 : Int32) <<< (p1 &&& 31)))).bind (fun s18 => (f_X10_ordersBut (0 : Int32) s18).bind (fun q21 => (ax_si cx_R q21.2 19 p2 v5).bind (fun s32 => some ((q21.1, s32)))))))
theorem T_X10_ordersWith (p1 : Int32) (p2 : Int32) (s : ax_S) (r : Int64 × ax_S) (h : f_X10_ordersWith p1 p2 s = some r) : ax_M cx_R mu_X10_ordersWith (fun ad => [.ref (ad 0), .int p1, .int p2]) s (some (.long r.1)) r.2 := by
  refine ax_enter (by decide +kernel) 3 (fun ad => [some (.ref (ad 0)), some (.int p1), some (.int p2), none, none, none]) (fun ad => rfl) (fun ad => Nat.le_of_ble_eq_true rfl) (fun X hV ho => ?_)
  refine ax_go (fun r : Int64 × ax_S => (some (Value.long r.1), r.2)) (fun P hP => ?_) h ho
  unfold f_X10_ordersWith
  refine ax_j (ax_aload_n hV dX10_ordersWith_0 rfl) ?_
  refine ax_j (ax_gfr hV lf_X10_68 dX10_ordersWith_1 rfl rfl) ?_
  refine ax_j (ax_iload_n hV dX10_ordersWith_4 rfl) ?_
  refine ax_jb (ax_iald hV dX10_ordersWith_5) (fun v5 => ?_)
  refine ax_j (ax_istore_n hV [some (.ref (ax_ad (cx_R, X) 0)), some (.int p1), some (.int p2), some (.int v5), none, none] dX10_ordersWith_6 rfl rfl) ?_
  refine ax_j (ax_aload_n hV dX10_ordersWith_7 rfl) ?_
  refine ax_j (ax_gfr hV lf_X10_68 dX10_ordersWith_8 rfl rfl) ?_
  refine ax_j (ax_iload_n hV dX10_ordersWith_11 rfl) ?_
  refine ax_j (ax_dup2 hV dX10_ordersWith_12 rfl rfl) ?_
  refine ax_jb (ax_iald hV dX10_ordersWith_13) (fun v13 => ?_)
  refine ax_j (ax_iconst hV (1 : Int32) dX10_ordersWith_14 (by decide)) ?_
  refine ax_j (ax_iload_n hV dX10_ordersWith_15 rfl) ?_
  refine ax_j (ax_ishl hV dX10_ordersWith_16) ?_
  refine ax_j (ax_ior hV dX10_ordersWith_17) ?_
  refine ax_jb (ax_iast hV dX10_ordersWith_18) (fun s18 => ?_)
  refine ax_j (ax_aload_n hV dX10_ordersWith_19 rfl) ?_
  refine ax_j (ax_iconst hV (0 : Int32) dX10_ordersWith_20 (by decide)) ?_
  refine ax_jb (fun v ho => ax_cVl hV lk_X10_237 rfl dX10_ordersWith_21 rfl rfl [.int (0 : Int32)] [] (fun ad => [.ref (ad 0), .int (0 : Int32)]) rfl rfl rfl rfl v.1 v.2 (T_X10_ordersBut (0 : Int32) s18 v ho)) (fun q21 => ?_)
  refine ax_j (ax_lstore hV [some (.ref (ax_ad (cx_R, X) 0)), some (.int p1), some (.int p2), some (.int v5), some (.long q21.1), none] dX10_ordersWith_24 rfl rfl) ?_
  refine ax_j (ax_aload_n hV dX10_ordersWith_26 rfl) ?_
  refine ax_j (ax_gfr hV lf_X10_68 dX10_ordersWith_27 rfl rfl) ?_
  refine ax_j (ax_iload_n hV dX10_ordersWith_30 rfl) ?_
  refine ax_j (ax_iload_n hV dX10_ordersWith_31 rfl) ?_
  refine ax_jb (ax_iast hV dX10_ordersWith_32) (fun s32 => ?_)
  refine ax_j (ax_lload hV dX10_ordersWith_33 rfl) ?_
  exact ax_jl (fun h => ax_lr hV rfl dX10_ordersWith_35 (hP (q21.1, s32) h))
theorem lk_X10_246 : ax_lkV RX10 246 mu_X10_ordersWith RX10 2 := ax_lkV_of (ax_m6 56 rfl rfl) (ax_m6 58 rfl rfl) (ax_mp5 2 rfl rfl rfl) (ax_m1 10 rfl rfl) lc_X10_ordersWith rfl ⟨by decide +kernel, by decide +kernel, by decide +kernel⟩
def mu_X10_ahead : ax_Mu := (yX10_ahead, cX10_ahead, 3, some .int, 5, 108)
theorem lc_X10_ahead : Cond.code mu_X10_ahead.1 mu_X10_ahead.2.1 mu_X10_ahead.2.2.1 mu_X10_ahead.2.2.2.1 ∈ ax_tb := (ax_m6 35 rfl rfl)
noncomputable def f_X10_ahead (p1 : Int32) (p2 : Int32) (s : ax_S) : Option (Int32 × ax_S) := (f_X10_areTwo p1 p2 s).bind (fun q3 => (if q3 = 0 then some (((-2 : Int32), s)) else (f_X10_sures s).bind (fun q13 => (if q13.1 = 0 then some (((-3 : Int32), q13.2)) else (ax_ai cx_R q13.2 19 p2).bind (fun v29 => some ((((v29 >>> (p1 &&& 31)) &&& (1 : Int32)), q13.2)))))))
theorem T_X10_ahead (p1 : Int32) (p2 : Int32) (s : ax_S) (r : Int32 × ax_S) (h : f_X10_ahead p1 p2 s = some r) : ax_M cx_R mu_X10_ahead (fun ad => [.ref (ad 0), .int p1, .int p2]) s (some (.int r.1)) r.2 := by
  refine ax_enter (by decide +kernel) 0 (fun ad => [some (.ref (ad 0)), some (.int p1), some (.int p2)]) (fun ad => rfl) (fun ad => Nat.le_of_ble_eq_true rfl) (fun X hV ho => ?_)
  refine ax_go (fun r : Int32 × ax_S => (some (Value.int r.1), r.2)) (fun P hP => ?_) h ho
  unfold f_X10_ahead
  refine ax_j (ax_aload_n hV dX10_ahead_0 rfl) ?_
  refine ax_j (ax_iload_n hV dX10_ahead_1 rfl) ?_
  refine ax_j (ax_iload_n hV dX10_ahead_2 rfl) ?_
  refine ax_jb (fun v ho => ax_cVi hV lk_X10_184 rfl dX10_ahead_3 rfl rfl [.int p1, .int p2] [] (fun ad => [.ref (ad 0), .int p1, .int p2]) rfl rfl rfl rfl v s (T_X10_areTwo p1 p2 s v ho)) (fun q3 => ?_)
  refine ax_jif (ax_if_ne hV dX10_ahead_6) ?_ ?_
  · refine ax_j (ax_bipush hV (-2 : Int32) dX10_ahead_9 (by decide)) ?_
    exact ax_jl (fun h => ax_ir hV rfl dX10_ahead_11 (hP ((-2 : Int32), s) h))
  · refine ax_j (ax_aload_n hV dX10_ahead_12 rfl) ?_
    refine ax_jb (fun v ho => ax_cVi hV lk_X10_240 rfl dX10_ahead_13 rfl rfl [] [] (fun ad => [.ref (ad 0)]) rfl rfl rfl rfl v.1 v.2 (T_X10_sures s v ho)) (fun q13 => ?_)
    refine ax_jif (ax_if_ne hV dX10_ahead_16) ?_ ?_
    · refine ax_j (ax_bipush hV (-3 : Int32) dX10_ahead_19 (by decide)) ?_
      refine ax_j (ax_goto hV dX10_ahead_21) ?_
      exact ax_jl (fun h => ax_ir hV rfl dX10_ahead_34 (hP ((-3 : Int32), q13.2) h))
    · refine ax_j (ax_aload_n hV dX10_ahead_24 rfl) ?_
      refine ax_j (ax_gfr hV lf_X10_68 dX10_ahead_25 rfl rfl) ?_
      refine ax_j (ax_iload_n hV dX10_ahead_28 rfl) ?_
      refine ax_jb (ax_iald hV dX10_ahead_29) (fun v29 => ?_)
      refine ax_j (ax_iload_n hV dX10_ahead_30 rfl) ?_
      refine ax_j (ax_ishr hV dX10_ahead_31) ?_
      refine ax_j (ax_iconst hV (1 : Int32) dX10_ahead_32 (by decide)) ?_
      refine ax_j (ax_iand hV dX10_ahead_33) ?_
      exact ax_jl (fun h => ax_ir hV rfl dX10_ahead_34 (hP (((v29 >>> (p1 &&& 31)) &&& (1 : Int32)), q13.2) h))
def mu_X10_ordersNow : ax_Mu := (yX10_ordersNow, cX10_ordersNow, 1, some .long, 5, 108)
theorem lc_X10_ordersNow : Cond.code mu_X10_ordersNow.1 mu_X10_ordersNow.2.1 mu_X10_ordersNow.2.2.1 mu_X10_ordersNow.2.2.2.1 ∈ ax_tb := (ax_m6 47 rfl rfl)
noncomputable def f_X10_ordersNow  (s : ax_S) : Option (Int64 × ax_S) := (f_X10_sures s).bind (fun q1 => (if q1.1 = 0 then some (((-9223372036854775805 : Int64), q1.2)) else (f_X10_ordersBut (0 : Int32) q1.2).bind (fun q9 => some ((q9.1, q9.2)))))
theorem T_X10_ordersNow  (s : ax_S) (r : Int64 × ax_S) (h : f_X10_ordersNow s = some r) : ax_M cx_R mu_X10_ordersNow (fun ad => [.ref (ad 0)]) s (some (.long r.1)) r.2 := by
  refine ax_enter (by decide +kernel) 0 (fun ad => [some (.ref (ad 0))]) (fun ad => rfl) (fun ad => Nat.le_of_ble_eq_true rfl) (fun X hV ho => ?_)
  refine ax_go (fun r : Int64 × ax_S => (some (Value.long r.1), r.2)) (fun P hP => ?_) h ho
  unfold f_X10_ordersNow
  refine ax_j (ax_aload_n hV dX10_ordersNow_0 rfl) ?_
  refine ax_jb (fun v ho => ax_cVi hV lk_X10_240 rfl dX10_ordersNow_1 rfl rfl [] [] (fun ad => [.ref (ad 0)]) rfl rfl rfl rfl v.1 v.2 (T_X10_sures s v ho)) (fun q1 => ?_)
  refine ax_jif (ax_if_eq hV dX10_ordersNow_4) ?_ ?_
  · refine ax_j (ax_ldc2 hV kc_X10_213 dX10_ordersNow_15) ?_
    exact ax_jl (fun h => ax_lr hV rfl dX10_ordersNow_18 (hP ((-9223372036854775805 : Int64), q1.2) h))
  · refine ax_j (ax_aload_n hV dX10_ordersNow_7 rfl) ?_
    refine ax_j (ax_iconst hV (0 : Int32) dX10_ordersNow_8 (by decide)) ?_
    refine ax_jb (fun v ho => ax_cVl hV lk_X10_237 rfl dX10_ordersNow_9 rfl rfl [.int (0 : Int32)] [] (fun ad => [.ref (ad 0), .int (0 : Int32)]) rfl rfl rfl rfl v.1 v.2 (T_X10_ordersBut (0 : Int32) q1.2 v ho)) (fun q9 => ?_)
    refine ax_j (ax_goto hV dX10_ordersNow_12) ?_
    exact ax_jl (fun h => ax_lr hV rfl dX10_ordersNow_18 (hP (q9.1, q9.2) h))
theorem lk_X10_243 : ax_lkV RX10 243 mu_X10_ordersNow RX10 0 := ax_lkV_of (ax_m6 44 rfl rfl) (ax_m6 46 rfl rfl) (ax_mp5 0 rfl rfl rfl) (ax_m1 10 rfl rfl) lc_X10_ordersNow rfl ⟨by decide +kernel, by decide +kernel, by decide +kernel⟩
def mu_X10_orders : ax_Mu := (yX10_orders, cX10_orders, 1, some .long, 6, 128)
theorem lc_X10_orders : Cond.code mu_X10_orders.1 mu_X10_orders.2.1 mu_X10_orders.2.2.1 mu_X10_orders.2.2.2.1 ∈ ax_tb := (ax_m6 43 rfl rfl)
noncomputable def f_X10_orders  (s : ax_S) : Option (Int64 × ax_S) := (f_X10_ordersNow s).bind (fun q1 => some ((q1.1, q1.2)))
theorem T_X10_orders  (s : ax_S) (r : Int64 × ax_S) (h : f_X10_orders s = some r) : ax_M cx_R mu_X10_orders (fun ad => [.ref (ad 0)]) s (some (.long r.1)) r.2 := by
  refine ax_enter (by decide +kernel) 0 (fun ad => [some (.ref (ad 0))]) (fun ad => rfl) (fun ad => Nat.le_of_ble_eq_true rfl) (fun X hV ho => ?_)
  refine ax_go (fun r : Int64 × ax_S => (some (Value.long r.1), r.2)) (fun P hP => ?_) h ho
  unfold f_X10_orders
  refine ax_j (ax_aload_n hV dX10_orders_0 rfl) ?_
  refine ax_jb (fun v ho => ax_cVl hV lk_X10_243 rfl dX10_orders_1 rfl rfl [] [] (fun ad => [.ref (ad 0)]) rfl rfl rfl rfl v.1 v.2 (T_X10_ordersNow s v ho)) (fun q1 => ?_)
  exact ax_jl (fun h => ax_lr hV rfl dX10_orders_4 (hP (q1.1, q1.2) h))
def mu_X10_divisor : ax_Mu := (yX10_divisor, cX10_divisor, 10, some .long, 0, 0)
theorem lc_X10_divisor : Cond.code mu_X10_divisor.1 mu_X10_divisor.2.1 mu_X10_divisor.2.2.1 mu_X10_divisor.2.2.2.1 ∈ ax_tb := (ax_m6 62 rfl rfl)
noncomputable def b_X10_divisor_6  (a : Int64 × Int64) : Option ((Int64 × Int64) ⊕ (Int64)) := (if (lg_cmp a.2 (0 : Int64)) = 0 then some (.inr a.1) else (ax_lrem a.1 a.2).bind (fun v17 => some (.inl (a.2, v17))))
noncomputable def f_X10_divisor (p1 : Int64) (p2 : Int64) : Option (Int64) := (ax_lp (b_X10_divisor_6) (p1, p2)).bind (fun e6 => some (e6))
theorem B_X10_divisor_6 (X : ax_G × ax_K × Option Value × ax_S) (hV : ax_ok (cx_R, X) mu_X10_divisor) (s : ax_S) (P : ((Int64 × Int64) ⊕ (Int64)) → Prop) (hI : ∀ a : Int64 × Int64, P (.inl a) → ax_At (cx_R, X) 6 [none, none, none, none, some (.long a.1), none, some (.long a.2), none, none, none] [] s) (hO : ∀ e : Int64, P (.inr e) → ax_At (cx_R, X) 31 [none, none, none, none, some (.long e), none, none, none, none, none] [] s) (a : Int64 × Int64) : ax_J (cx_R, X) P 6 [none, none, none, none, some (.long a.1), none, some (.long a.2), none, none, none] [] s (b_X10_divisor_6 a) := by
  unfold b_X10_divisor_6
  refine ax_j (ax_lload hV dX10_divisor_6 rfl) ?_
  refine ax_j (ax_lconst hV (0 : Int64) dX10_divisor_8 (by decide)) ?_
  refine ax_j (ax_lcmp hV dX10_divisor_9) ?_
  refine ax_jif (ax_if_eq hV dX10_divisor_10) ?_ ?_
  · refine ax_jf (lv' := [none, none, none, none, some (.long a.1), none, none, none, none, none]) [false, false, false, false, true, false, false, false, false, false] rfl ?_
    exact ax_jl (fun h => hO a.1 h)
  · refine ax_j (ax_lload hV dX10_divisor_13 rfl) ?_
    refine ax_j (ax_lload hV dX10_divisor_15 rfl) ?_
    refine ax_jb (ax_lrem_ hV dX10_divisor_17) (fun v17 => ?_)
    refine ax_j (ax_lstore hV [none, none, none, none, some (.long a.1), none, some (.long a.2), none, some (.long v17), none] dX10_divisor_18 rfl rfl) ?_
    refine ax_j (ax_lload hV dX10_divisor_20 rfl) ?_
    refine ax_j (ax_lstore hV [none, none, none, none, some (.long a.2), none, some (.long a.2), none, some (.long v17), none] dX10_divisor_22 rfl rfl) ?_
    refine ax_j (ax_lload hV dX10_divisor_24 rfl) ?_
    refine ax_j (ax_lstore hV [none, none, none, none, some (.long a.2), none, some (.long v17), none, some (.long v17), none] dX10_divisor_26 rfl rfl) ?_
    refine ax_j (ax_goto hV dX10_divisor_28) ?_
    refine ax_jf (lv' := [none, none, none, none, some (.long a.2), none, some (.long v17), none, none, none]) [false, false, false, false, true, false, true, false, false, false] rfl ?_
    exact ax_jl (fun h => hI (a.2, v17) h)
theorem T_X10_divisor (p1 : Int64) (p2 : Int64) (s : ax_S) (r : Int64) (h : f_X10_divisor p1 p2 = some r) : ax_M cx_R mu_X10_divisor (fun ad => [.long p1, .long p2]) s (some (.long r)) s := by
  refine ax_enter (by decide +kernel) 6 (fun ad => [some (.long p1), none, some (.long p2), none, none, none, none, none, none, none]) (fun ad => rfl) (fun ad => Nat.le_of_ble_eq_true rfl) (fun X hV ho => ?_)
  refine ax_go (fun r : Int64 => (some (Value.long r), s)) (fun P hP => ?_) h ho
  unfold f_X10_divisor
  refine ax_j (ax_lload_n hV dX10_divisor_0 rfl) ?_
  refine ax_j (ax_lstore hV [some (.long p1), none, some (.long p2), none, some (.long p1), none, none, none, none, none] dX10_divisor_1 rfl rfl) ?_
  refine ax_j (ax_lload_n hV dX10_divisor_3 rfl) ?_
  refine ax_j (ax_lstore hV [some (.long p1), none, some (.long p2), none, some (.long p1), none, some (.long p2), none, none, none] dX10_divisor_4 rfl rfl) ?_
  refine ax_jf (lv' := [none, none, none, none, some (.long p1), none, some (.long p2), none, none, none]) [false, false, false, false, true, false, true, false, false, false] rfl ?_
  refine ax_jlp (p1, p2) (fun x6 : Int64 × Int64 => [none, none, none, none, some (.long x6.1), none, some (.long x6.2), none, none, none]) (fun x6 : Int64 × Int64 => s) (fun y6 : Int64 => [none, none, none, none, some (.long y6), none, none, none, none, none]) (fun y6 : Int64 => s) (fun P' h1 h2 w => B_X10_divisor_6 X hV s P' h1 h2 w) (fun e6 => ?_)
  refine ax_j (ax_lload hV dX10_divisor_31 rfl) ?_
  exact ax_jl (fun h => ax_lr hV rfl dX10_divisor_33 (hP e6 h))
theorem lk_X10_250 : ax_lkS RX10 250 mu_X10_divisor 2 := ax_lkS_of (ax_m6 60 rfl rfl) (ax_m6 61 rfl rfl) (ax_m1 10 rfl rfl) lc_X10_divisor ⟨by decide +kernel, by decide +kernel, by decide +kernel⟩
def mu_X10_share : ax_Mu := (yX10_share, cX10_share, 8, some .long, 5, 108)
theorem lc_X10_share : Cond.code mu_X10_share.1 mu_X10_share.2.1 mu_X10_share.2.2.1 mu_X10_share.2.2.2.1 ∈ ax_tb := (ax_m6 55 rfl rfl)
noncomputable def f_X10_share (p1 : Int32) (p2 : Int32) (p3 : Int32) (s : ax_S) : Option (Int64 × ax_S) := (f_X10_areTwo p1 p2 s).bind (fun q3 => (if q3 = 0 then some (((-9223372036854775806 : Int64), s)) else (f_X10_in p3 (0 : Int32) (1 : Int32)).bind (fun q12 => (if q12 = 0 then some (((-9223372036854775806 : Int64), s)) else (f_X10_sures s).bind (fun q23 => (if q23.1 = 0 then some (((-9223372036854775805 : Int64), q23.2)) else (f_X10_ordersBut (0 : Int32) q23.2).bind (fun q35 => (f_X10_ordersWith p1 p2 q35.2).bind (fun q43 => (if p3 = 0 then (f_X10_divisor q43.1 q35.1).bind (fun q63 => (ax_ldiv q43.1 q63).bind (fun v66 => some ((v66, q43.2)))) else (f_X10_divisor q43.1 q35.1).bind (fun q63 => (ax_ldiv q35.1 q63).bind (fun v66 => some ((v66, q43.2)))))))))))))
theorem T_X10_share (p1 : Int32) (p2 : Int32) (p3 : Int32) (s : ax_S) (r : Int64 × ax_S) (h : f_X10_share p1 p2 p3 s = some r) : ax_M cx_R mu_X10_share (fun ad => [.ref (ad 0), .int p1, .int p2, .int p3]) s (some (.long r.1)) r.2 := by
  refine ax_enter (by decide +kernel) 4 (fun ad => [some (.ref (ad 0)), some (.int p1), some (.int p2), some (.int p3), none, none, none, none]) (fun ad => rfl) (fun ad => Nat.le_of_ble_eq_true rfl) (fun X hV ho => ?_)
  refine ax_go (fun r : Int64 × ax_S => (some (Value.long r.1), r.2)) (fun P hP => ?_) h ho
  unfold f_X10_share
  refine ax_j (ax_aload_n hV dX10_share_0 rfl) ?_
  refine ax_j (ax_iload_n hV dX10_share_1 rfl) ?_
  refine ax_j (ax_iload_n hV dX10_share_2 rfl) ?_
  refine ax_jb (fun v ho => ax_cVi hV lk_X10_184 rfl dX10_share_3 rfl rfl [.int p1, .int p2] [] (fun ad => [.ref (ad 0), .int p1, .int p2]) rfl rfl rfl rfl v s (T_X10_areTwo p1 p2 s v ho)) (fun q3 => ?_)
  refine ax_jif (ax_if_eq hV dX10_share_6) ?_ ?_
  · refine ax_j (ax_ldc2 hV kc_X10_211 dX10_share_18) ?_
    exact ax_jl (fun h => ax_lr hV rfl dX10_share_21 (hP ((-9223372036854775806 : Int64), s) h))
  · refine ax_j (ax_iload_n hV dX10_share_9 rfl) ?_
    refine ax_j (ax_iconst hV (0 : Int32) dX10_share_10 (by decide)) ?_
    refine ax_j (ax_iconst hV (1 : Int32) dX10_share_11 (by decide)) ?_
    refine ax_jb (fun v ho => ax_cSi hV lk_X10_97 rfl dX10_share_12 [.int p3, .int (0 : Int32), .int (1 : Int32)] [] (fun ad => [.int p3, .int (0 : Int32), .int (1 : Int32)]) rfl rfl rfl rfl v s (T_X10_in p3 (0 : Int32) (1 : Int32) s v ho)) (fun q12 => ?_)
    refine ax_jif (ax_if_ne hV dX10_share_15) ?_ ?_
    · refine ax_j (ax_ldc2 hV kc_X10_211 dX10_share_18) ?_
      exact ax_jl (fun h => ax_lr hV rfl dX10_share_21 (hP ((-9223372036854775806 : Int64), s) h))
    · refine ax_j (ax_aload_n hV dX10_share_22 rfl) ?_
      refine ax_jb (fun v ho => ax_cVi hV lk_X10_240 rfl dX10_share_23 rfl rfl [] [] (fun ad => [.ref (ad 0)]) rfl rfl rfl rfl v.1 v.2 (T_X10_sures s v ho)) (fun q23 => ?_)
      refine ax_jif (ax_if_ne hV dX10_share_26) ?_ ?_
      · refine ax_j (ax_ldc2 hV kc_X10_213 dX10_share_29) ?_
        exact ax_jl (fun h => ax_lr hV rfl dX10_share_32 (hP ((-9223372036854775805 : Int64), q23.2) h))
      · refine ax_j (ax_aload_n hV dX10_share_33 rfl) ?_
        refine ax_j (ax_iconst hV (0 : Int32) dX10_share_34 (by decide)) ?_
        refine ax_jb (fun v ho => ax_cVl hV lk_X10_237 rfl dX10_share_35 rfl rfl [.int (0 : Int32)] [] (fun ad => [.ref (ad 0), .int (0 : Int32)]) rfl rfl rfl rfl v.1 v.2 (T_X10_ordersBut (0 : Int32) q23.2 v ho)) (fun q35 => ?_)
        refine ax_j (ax_lstore hV [some (.ref (ax_ad (cx_R, X) 0)), some (.int p1), some (.int p2), some (.int p3), some (.long q35.1), none, none, none] dX10_share_38 rfl rfl) ?_
        refine ax_j (ax_aload_n hV dX10_share_40 rfl) ?_
        refine ax_j (ax_iload_n hV dX10_share_41 rfl) ?_
        refine ax_j (ax_iload_n hV dX10_share_42 rfl) ?_
        refine ax_jb (fun v ho => ax_cVl hV lk_X10_246 rfl dX10_share_43 rfl rfl [.int p1, .int p2] [] (fun ad => [.ref (ad 0), .int p1, .int p2]) rfl rfl rfl rfl v.1 v.2 (T_X10_ordersWith p1 p2 q35.2 v ho)) (fun q43 => ?_)
        refine ax_j (ax_lstore hV [some (.ref (ax_ad (cx_R, X) 0)), some (.int p1), some (.int p2), some (.int p3), some (.long q35.1), none, some (.long q43.1), none] dX10_share_46 rfl rfl) ?_
        refine ax_j (ax_iload_n hV dX10_share_48 rfl) ?_
        refine ax_jif (ax_if_ne hV dX10_share_49) ?_ ?_
        · refine ax_j (ax_lload hV dX10_share_52 rfl) ?_
          refine ax_j (ax_goto hV dX10_share_54) ?_
          refine ax_j (ax_lload hV dX10_share_59 rfl) ?_
          refine ax_j (ax_lload hV dX10_share_61 rfl) ?_
          refine ax_jb (fun v ho => ax_cSl hV lk_X10_250 rfl dX10_share_63 [.long q43.1, .long q35.1] [.long q43.1] (fun ad => [.long q43.1, .long q35.1]) rfl rfl rfl rfl v q43.2 (T_X10_divisor q43.1 q35.1 q43.2 v ho)) (fun q63 => ?_)
          refine ax_jb (ax_ldiv_ hV dX10_share_66) (fun v66 => ?_)
          exact ax_jl (fun h => ax_lr hV rfl dX10_share_67 (hP (v66, q43.2) h))
        · refine ax_j (ax_lload hV dX10_share_57 rfl) ?_
          refine ax_j (ax_lload hV dX10_share_59 rfl) ?_
          refine ax_j (ax_lload hV dX10_share_61 rfl) ?_
          refine ax_jb (fun v ho => ax_cSl hV lk_X10_250 rfl dX10_share_63 [.long q43.1, .long q35.1] [.long q35.1] (fun ad => [.long q43.1, .long q35.1]) rfl rfl rfl rfl v q43.2 (T_X10_divisor q43.1 q35.1 q43.2 v ho)) (fun q63 => ?_)
          refine ax_jb (ax_ldiv_ hV dX10_share_66) (fun v66 => ?_)
          exact ax_jl (fun h => ax_lr hV rfl dX10_share_67 (hP (v66, q43.2) h))
def mu_X10_first : ax_Mu := (yX10_first, cX10_first, 2, some .long, 5, 108)
theorem lc_X10_first : Cond.code mu_X10_first.1 mu_X10_first.2.1 mu_X10_first.2.2.1 mu_X10_first.2.2.2.1 ∈ ax_tb := (ax_m6 66 rfl rfl)
noncomputable def f_X10_first (p1 : Int32) (s : ax_S) : Option (Int64 × ax_S) := (f_X10_isThing p1 s).bind (fun q2 => (if q2 = 0 then some (((-9223372036854775806 : Int64), s)) else (f_X10_sures s).bind (fun q13 => (if q13.1 = 0 then some (((-9223372036854775805 : Int64), q13.2)) else (ax_ai cx_R q13.2 19 p1).bind (fun v28 => (if v28 = 0 then (f_X10_ordersBut ((1 : Int32) <<< (p1 &&& 31)) q13.2).bind (fun q36 => some ((q36.1, q36.2))) else some (((0 : Int64), q13.2))))))))
theorem T_X10_first (p1 : Int32) (s : ax_S) (r : Int64 × ax_S) (h : f_X10_first p1 s = some r) : ax_M cx_R mu_X10_first (fun ad => [.ref (ad 0), .int p1]) s (some (.long r.1)) r.2 := by
  refine ax_enter (by decide +kernel) 0 (fun ad => [some (.ref (ad 0)), some (.int p1)]) (fun ad => rfl) (fun ad => Nat.le_of_ble_eq_true rfl) (fun X hV ho => ?_)
  refine ax_go (fun r : Int64 × ax_S => (some (Value.long r.1), r.2)) (fun P hP => ?_) h ho
  unfold f_X10_first
  refine ax_j (ax_aload_n hV dX10_first_0 rfl) ?_
  refine ax_j (ax_iload_n hV dX10_first_1 rfl) ?_
  refine ax_jb (fun v ho => ax_cVi hV lk_X10_122 rfl dX10_first_2 rfl rfl [.int p1] [] (fun ad => [.ref (ad 0), .int p1]) rfl rfl rfl rfl v s (T_X10_isThing p1 s v ho)) (fun q2 => ?_)
  refine ax_jif (ax_if_ne hV dX10_first_5) ?_ ?_
  · refine ax_j (ax_ldc2 hV kc_X10_211 dX10_first_8) ?_
    exact ax_jl (fun h => ax_lr hV rfl dX10_first_11 (hP ((-9223372036854775806 : Int64), s) h))
  · refine ax_j (ax_aload_n hV dX10_first_12 rfl) ?_
    refine ax_jb (fun v ho => ax_cVi hV lk_X10_240 rfl dX10_first_13 rfl rfl [] [] (fun ad => [.ref (ad 0)]) rfl rfl rfl rfl v.1 v.2 (T_X10_sures s v ho)) (fun q13 => ?_)
    refine ax_jif (ax_if_ne hV dX10_first_16) ?_ ?_
    · refine ax_j (ax_ldc2 hV kc_X10_213 dX10_first_19) ?_
      exact ax_jl (fun h => ax_lr hV rfl dX10_first_22 (hP ((-9223372036854775805 : Int64), q13.2) h))
    · refine ax_j (ax_aload_n hV dX10_first_23 rfl) ?_
      refine ax_j (ax_gfr hV lf_X10_68 dX10_first_24 rfl rfl) ?_
      refine ax_j (ax_iload_n hV dX10_first_27 rfl) ?_
      refine ax_jb (ax_iald hV dX10_first_28) (fun v28 => ?_)
      refine ax_jif (ax_if_ne hV dX10_first_29) ?_ ?_
      · refine ax_j (ax_aload_n hV dX10_first_32 rfl) ?_
        refine ax_j (ax_iconst hV (1 : Int32) dX10_first_33 (by decide)) ?_
        refine ax_j (ax_iload_n hV dX10_first_34 rfl) ?_
        refine ax_j (ax_ishl hV dX10_first_35) ?_
        refine ax_jb (fun v ho => ax_cVl hV lk_X10_237 rfl dX10_first_36 rfl rfl [.int ((1 : Int32) <<< (p1 &&& 31))] [] (fun ad => [.ref (ad 0), .int ((1 : Int32) <<< (p1 &&& 31))]) rfl rfl rfl rfl v.1 v.2 (T_X10_ordersBut ((1 : Int32) <<< (p1 &&& 31)) q13.2 v ho)) (fun q36 => ?_)
        refine ax_j (ax_goto hV dX10_first_39) ?_
        exact ax_jl (fun h => ax_lr hV rfl dX10_first_43 (hP (q36.1, q36.2) h))
      · refine ax_j (ax_lconst hV (0 : Int64) dX10_first_42 (by decide)) ?_
        exact ax_jl (fun h => ax_lr hV rfl dX10_first_43 (hP ((0 : Int64), q13.2) h))
def mu_X10_question : ax_Mu := (yX10_question, cX10_question, 12, some .int, 5, 108)
theorem lc_X10_question : Cond.code mu_X10_question.1 mu_X10_question.2.1 mu_X10_question.2.2.1 mu_X10_question.2.2.2.1 ∈ ax_tb := (ax_m6 70 rfl rfl)
noncomputable def j_X10_question_32_106 (l4 : Int32) (l1 : Int32) (l2 : Int64) (l5 : Int32) (k0 : Int64) (s : ax_S) : Option ((Int32 × Int64 × Int32 × ax_S) ⊕ (Int32 × Int64 × ax_S)) := (if l1 = (-1 : Int32) then some (.inl ((((100 : Int32) * l4) + l5), k0, (l5 + 1), s)) else (if 0 ≤ (lg_cmp k0 l2) then some (.inl (l1, l2, (l5 + 1), s)) else some (.inl ((((100 : Int32) * l4) + l5), k0, (l5 + 1), s))))
noncomputable def b_X10_question_32 (l4 : Int32) (a : Int32 × Int64 × Int32 × ax_S) : Option ((Int32 × Int64 × Int32 × ax_S) ⊕ (Int32 × Int64 × ax_S)) := (if (a.2.2.2.1 0 1) ≤ a.2.2.1 then some (.inr (a.1, a.2.1, a.2.2.2)) else (ax_ai cx_R a.2.2.2 19 a.2.2.1).bind (fun v47 => (if ((v47 >>> (l4 &&& 31)) &&& (1 : Int32)) = 0 then (ax_ai cx_R a.2.2.2 19 l4).bind (fun v62 => (if ((v62 >>> (a.2.2.1 &&& 31)) &&& (1 : Int32)) = 0 then (f_X10_ordersWith l4 a.2.2.1 a.2.2.2).bind (fun q76 => (f_X10_ordersWith a.2.2.1 l4 q76.2).bind (fun q86 => (if (lg_cmp q76.1 q86.1) ≤ 0 then j_X10_question_32_106 l4 a.1 a.2.1 a.2.2.1 q86.1 q86.2 else j_X10_question_32_106 l4 a.1 a.2.1 a.2.2.1 q76.1 q86.2))) else some (.inl (a.1, a.2.1, (a.2.2.1 + 1), a.2.2.2)))) else some (.inl (a.1, a.2.1, (a.2.2.1 + 1), a.2.2.2)))))
noncomputable def b_X10_question_17  (a : Int32 × Int64 × Int32 × ax_S) : Option ((Int32 × Int64 × Int32 × ax_S) ⊕ (Int32 × ax_S)) := (if (a.2.2.2.1 0 1) ≤ a.2.2.1 then some (.inr (a.1, a.2.2.2)) else (ax_lp (b_X10_question_32 a.2.2.1) (a.1, a.2.1, (a.2.2.1 + (1 : Int32)), a.2.2.2)).bind (fun e32 => some (.inl (e32.1, e32.2.1, (a.2.2.1 + 1), e32.2.2))))
noncomputable def f_X10_question  (s : ax_S) : Option (Int32 × ax_S) := (f_X10_sures s).bind (fun q1 => (if q1.1 = 0 then some (((-3 : Int32), q1.2)) else (ax_lp (b_X10_question_17) ((-1 : Int32), (0 : Int64), (0 : Int32), q1.2)).bind (fun e17 => some ((e17.1, e17.2)))))
theorem N_X10_question_32_106 (X : ax_G × ax_K × Option Value × ax_S) (hV : ax_ok (cx_R, X) mu_X10_question) (l4 : Int32) (P : ((Int32 × Int64 × Int32 × ax_S) ⊕ (Int32 × Int64 × ax_S)) → Prop) (hI : ∀ a : Int32 × Int64 × Int32 × ax_S, P (.inl a) → ax_At (cx_R, X) 32 [some (.ref (ax_ad (cx_R, X) 0)), some (.int a.1), some (.long a.2.1), none, some (.int l4), some (.int a.2.2.1), none, none, none, none, none, none] [] a.2.2.2) (hO : ∀ e : Int32 × Int64 × ax_S, P (.inr e) → ax_At (cx_R, X) 138 [some (.ref (ax_ad (cx_R, X) 0)), some (.int e.1), some (.long e.2.1), none, some (.int l4), none, none, none, none, none, none, none] [] e.2.2) (l1 : Int32) (l2 : Int64) (l5 : Int32) (k0 : Int64) (s : ax_S) : ax_J (cx_R, X) P 106 [some (.ref (ax_ad (cx_R, X) 0)), some (.int l1), some (.long l2), none, some (.int l4), some (.int l5), none, none, none, none, none, none] [.long k0] s (j_X10_question_32_106 l4 l1 l2 l5 k0 s) := by
  unfold j_X10_question_32_106
  refine ax_j (ax_lstore hV [some (.ref (ax_ad (cx_R, X) 0)), some (.int l1), some (.long l2), none, some (.int l4), some (.int l5), none, none, none, none, some (.long k0), none] dX10_question_106 rfl rfl) ?_
  refine ax_j (ax_iload_n hV dX10_question_108 rfl) ?_
  refine ax_j (ax_iconst hV (-1 : Int32) dX10_question_109 (by decide)) ?_
  refine ax_jif (ax_icmp_eq hV dX10_question_110) ?_ ?_
  · refine ax_j (ax_bipush hV (100 : Int32) dX10_question_120 (by decide)) ?_
    refine ax_j (ax_iload hV dX10_question_122 rfl) ?_
    refine ax_j (ax_imul hV dX10_question_124) ?_
    refine ax_j (ax_iload hV dX10_question_125 rfl) ?_
    refine ax_j (ax_iadd hV dX10_question_127) ?_
    refine ax_j (ax_istore_n hV [some (.ref (ax_ad (cx_R, X) 0)), some (.int (((100 : Int32) * l4) + l5)), some (.long l2), none, some (.int l4), some (.int l5), none, none, none, none, some (.long k0), none] dX10_question_128 rfl rfl) ?_
    refine ax_j (ax_lload hV dX10_question_129 rfl) ?_
    refine ax_j (ax_lstore_n hV [some (.ref (ax_ad (cx_R, X) 0)), some (.int (((100 : Int32) * l4) + l5)), some (.long k0), none, some (.int l4), some (.int l5), none, none, none, none, some (.long k0), none] dX10_question_131 rfl rfl) ?_
    refine ax_j (ax_iinc hV (l5 + 1) [some (.ref (ax_ad (cx_R, X) 0)), some (.int (((100 : Int32) * l4) + l5)), some (.long k0), none, some (.int l4), some (.int (l5 + 1)), none, none, none, none, some (.long k0), none] dX10_question_132 rfl rfl rfl rfl) ?_
    refine ax_j (ax_goto hV dX10_question_135) ?_
    refine ax_jf (lv' := [some (.ref (ax_ad (cx_R, X) 0)), some (.int (((100 : Int32) * l4) + l5)), some (.long k0), none, some (.int l4), some (.int (l5 + 1)), none, none, none, none, none, none]) [true, true, true, false, true, true, false, false, false, false, false, false] rfl ?_
    exact ax_jl (fun h => hI ((((100 : Int32) * l4) + l5), k0, (l5 + 1), s) h)
  · refine ax_j (ax_lload hV dX10_question_113 rfl) ?_
    refine ax_j (ax_lload_n hV dX10_question_115 rfl) ?_
    refine ax_j (ax_lcmp hV dX10_question_116) ?_
    refine ax_jif (ax_if_ge hV dX10_question_117) ?_ ?_
    · refine ax_j (ax_iinc hV (l5 + 1) [some (.ref (ax_ad (cx_R, X) 0)), some (.int l1), some (.long l2), none, some (.int l4), some (.int (l5 + 1)), none, none, none, none, some (.long k0), none] dX10_question_132 rfl rfl rfl rfl) ?_
      refine ax_j (ax_goto hV dX10_question_135) ?_
      refine ax_jf (lv' := [some (.ref (ax_ad (cx_R, X) 0)), some (.int l1), some (.long l2), none, some (.int l4), some (.int (l5 + 1)), none, none, none, none, none, none]) [true, true, true, false, true, true, false, false, false, false, false, false] rfl ?_
      exact ax_jl (fun h => hI (l1, l2, (l5 + 1), s) h)
    · refine ax_j (ax_bipush hV (100 : Int32) dX10_question_120 (by decide)) ?_
      refine ax_j (ax_iload hV dX10_question_122 rfl) ?_
      refine ax_j (ax_imul hV dX10_question_124) ?_
      refine ax_j (ax_iload hV dX10_question_125 rfl) ?_
      refine ax_j (ax_iadd hV dX10_question_127) ?_
      refine ax_j (ax_istore_n hV [some (.ref (ax_ad (cx_R, X) 0)), some (.int (((100 : Int32) * l4) + l5)), some (.long l2), none, some (.int l4), some (.int l5), none, none, none, none, some (.long k0), none] dX10_question_128 rfl rfl) ?_
      refine ax_j (ax_lload hV dX10_question_129 rfl) ?_
      refine ax_j (ax_lstore_n hV [some (.ref (ax_ad (cx_R, X) 0)), some (.int (((100 : Int32) * l4) + l5)), some (.long k0), none, some (.int l4), some (.int l5), none, none, none, none, some (.long k0), none] dX10_question_131 rfl rfl) ?_
      refine ax_j (ax_iinc hV (l5 + 1) [some (.ref (ax_ad (cx_R, X) 0)), some (.int (((100 : Int32) * l4) + l5)), some (.long k0), none, some (.int l4), some (.int (l5 + 1)), none, none, none, none, some (.long k0), none] dX10_question_132 rfl rfl rfl rfl) ?_
      refine ax_j (ax_goto hV dX10_question_135) ?_
      refine ax_jf (lv' := [some (.ref (ax_ad (cx_R, X) 0)), some (.int (((100 : Int32) * l4) + l5)), some (.long k0), none, some (.int l4), some (.int (l5 + 1)), none, none, none, none, none, none]) [true, true, true, false, true, true, false, false, false, false, false, false] rfl ?_
      exact ax_jl (fun h => hI ((((100 : Int32) * l4) + l5), k0, (l5 + 1), s) h)
theorem B_X10_question_32 (X : ax_G × ax_K × Option Value × ax_S) (hV : ax_ok (cx_R, X) mu_X10_question) (l4 : Int32) (P : ((Int32 × Int64 × Int32 × ax_S) ⊕ (Int32 × Int64 × ax_S)) → Prop) (hI : ∀ a : Int32 × Int64 × Int32 × ax_S, P (.inl a) → ax_At (cx_R, X) 32 [some (.ref (ax_ad (cx_R, X) 0)), some (.int a.1), some (.long a.2.1), none, some (.int l4), some (.int a.2.2.1), none, none, none, none, none, none] [] a.2.2.2) (hO : ∀ e : Int32 × Int64 × ax_S, P (.inr e) → ax_At (cx_R, X) 138 [some (.ref (ax_ad (cx_R, X) 0)), some (.int e.1), some (.long e.2.1), none, some (.int l4), none, none, none, none, none, none, none] [] e.2.2) (a : Int32 × Int64 × Int32 × ax_S) : ax_J (cx_R, X) P 32 [some (.ref (ax_ad (cx_R, X) 0)), some (.int a.1), some (.long a.2.1), none, some (.int l4), some (.int a.2.2.1), none, none, none, none, none, none] [] a.2.2.2 (b_X10_question_32 l4 a) := by
  unfold b_X10_question_32
  refine ax_j (ax_iload hV dX10_question_32 rfl) ?_
  refine ax_j (ax_aload_n hV dX10_question_34 rfl) ?_
  refine ax_j (ax_gfi hV lf_X10_94 dX10_question_35 rfl rfl) ?_
  refine ax_jif (ax_icmp_ge hV dX10_question_38) ?_ ?_
  · refine ax_jf (lv' := [some (.ref (ax_ad (cx_R, X) 0)), some (.int a.1), some (.long a.2.1), none, some (.int l4), none, none, none, none, none, none, none]) [true, true, true, false, true, false, false, false, false, false, false, false] rfl ?_
    exact ax_jl (fun h => hO (a.1, a.2.1, a.2.2.2) h)
  · refine ax_j (ax_aload_n hV dX10_question_41 rfl) ?_
    refine ax_j (ax_gfr hV lf_X10_68 dX10_question_42 rfl rfl) ?_
    refine ax_j (ax_iload hV dX10_question_45 rfl) ?_
    refine ax_jb (ax_iald hV dX10_question_47) (fun v47 => ?_)
    refine ax_j (ax_iload hV dX10_question_48 rfl) ?_
    refine ax_j (ax_ishr hV dX10_question_50) ?_
    refine ax_j (ax_iconst hV (1 : Int32) dX10_question_51 (by decide)) ?_
    refine ax_j (ax_iand hV dX10_question_52) ?_
    refine ax_jif (ax_if_ne hV dX10_question_53) ?_ ?_
    · refine ax_j (ax_aload_n hV dX10_question_56 rfl) ?_
      refine ax_j (ax_gfr hV lf_X10_68 dX10_question_57 rfl rfl) ?_
      refine ax_j (ax_iload hV dX10_question_60 rfl) ?_
      refine ax_jb (ax_iald hV dX10_question_62) (fun v62 => ?_)
      refine ax_j (ax_iload hV dX10_question_63 rfl) ?_
      refine ax_j (ax_ishr hV dX10_question_65) ?_
      refine ax_j (ax_iconst hV (1 : Int32) dX10_question_66 (by decide)) ?_
      refine ax_j (ax_iand hV dX10_question_67) ?_
      refine ax_jif (ax_if_ne hV dX10_question_68) ?_ ?_
      · refine ax_j (ax_aload_n hV dX10_question_71 rfl) ?_
        refine ax_j (ax_iload hV dX10_question_72 rfl) ?_
        refine ax_j (ax_iload hV dX10_question_74 rfl) ?_
        refine ax_jb (fun v ho => ax_cVl hV lk_X10_246 rfl dX10_question_76 rfl rfl [.int l4, .int a.2.2.1] [] (fun ad => [.ref (ad 0), .int l4, .int a.2.2.1]) rfl rfl rfl rfl v.1 v.2 (T_X10_ordersWith l4 a.2.2.1 a.2.2.2 v ho)) (fun q76 => ?_)
        refine ax_j (ax_lstore hV [some (.ref (ax_ad (cx_R, X) 0)), some (.int a.1), some (.long a.2.1), none, some (.int l4), some (.int a.2.2.1), some (.long q76.1), none, none, none, none, none] dX10_question_79 rfl rfl) ?_
        refine ax_j (ax_aload_n hV dX10_question_81 rfl) ?_
        refine ax_j (ax_iload hV dX10_question_82 rfl) ?_
        refine ax_j (ax_iload hV dX10_question_84 rfl) ?_
        refine ax_jb (fun v ho => ax_cVl hV lk_X10_246 rfl dX10_question_86 rfl rfl [.int a.2.2.1, .int l4] [] (fun ad => [.ref (ad 0), .int a.2.2.1, .int l4]) rfl rfl rfl rfl v.1 v.2 (T_X10_ordersWith a.2.2.1 l4 q76.2 v ho)) (fun q86 => ?_)
        refine ax_j (ax_lstore hV [some (.ref (ax_ad (cx_R, X) 0)), some (.int a.1), some (.long a.2.1), none, some (.int l4), some (.int a.2.2.1), some (.long q76.1), none, some (.long q86.1), none, none, none] dX10_question_89 rfl rfl) ?_
        refine ax_j (ax_lload hV dX10_question_91 rfl) ?_
        refine ax_j (ax_lload hV dX10_question_93 rfl) ?_
        refine ax_j (ax_lcmp hV dX10_question_95) ?_
        refine ax_jif (ax_if_le hV dX10_question_96) ?_ ?_
        · refine ax_j (ax_lload hV dX10_question_104 rfl) ?_
          refine ax_jf (lv' := [some (.ref (ax_ad (cx_R, X) 0)), some (.int a.1), some (.long a.2.1), none, some (.int l4), some (.int a.2.2.1), none, none, none, none, none, none]) [true, true, true, false, true, true, false, false, false, false, false, false] rfl ?_
          exact N_X10_question_32_106 X hV l4 P hI hO a.1 a.2.1 a.2.2.1 q86.1 q86.2
        · refine ax_j (ax_lload hV dX10_question_99 rfl) ?_
          refine ax_j (ax_goto hV dX10_question_101) ?_
          refine ax_jf (lv' := [some (.ref (ax_ad (cx_R, X) 0)), some (.int a.1), some (.long a.2.1), none, some (.int l4), some (.int a.2.2.1), none, none, none, none, none, none]) [true, true, true, false, true, true, false, false, false, false, false, false] rfl ?_
          exact N_X10_question_32_106 X hV l4 P hI hO a.1 a.2.1 a.2.2.1 q76.1 q86.2
      · refine ax_j (ax_iinc hV (a.2.2.1 + 1) [some (.ref (ax_ad (cx_R, X) 0)), some (.int a.1), some (.long a.2.1), none, some (.int l4), some (.int (a.2.2.1 + 1)), none, none, none, none, none, none] dX10_question_132 rfl rfl rfl rfl) ?_
        refine ax_j (ax_goto hV dX10_question_135) ?_
        exact ax_jl (fun h => hI (a.1, a.2.1, (a.2.2.1 + 1), a.2.2.2) h)
    · refine ax_j (ax_iinc hV (a.2.2.1 + 1) [some (.ref (ax_ad (cx_R, X) 0)), some (.int a.1), some (.long a.2.1), none, some (.int l4), some (.int (a.2.2.1 + 1)), none, none, none, none, none, none] dX10_question_132 rfl rfl rfl rfl) ?_
      refine ax_j (ax_goto hV dX10_question_135) ?_
      exact ax_jl (fun h => hI (a.1, a.2.1, (a.2.2.1 + 1), a.2.2.2) h)
theorem B_X10_question_17 (X : ax_G × ax_K × Option Value × ax_S) (hV : ax_ok (cx_R, X) mu_X10_question)  (P : ((Int32 × Int64 × Int32 × ax_S) ⊕ (Int32 × ax_S)) → Prop) (hI : ∀ a : Int32 × Int64 × Int32 × ax_S, P (.inl a) → ax_At (cx_R, X) 17 [some (.ref (ax_ad (cx_R, X) 0)), some (.int a.1), some (.long a.2.1), none, some (.int a.2.2.1), none, none, none, none, none, none, none] [] a.2.2.2) (hO : ∀ e : Int32 × ax_S, P (.inr e) → ax_At (cx_R, X) 144 [none, some (.int e.1), none, none, none, none, none, none, none, none, none, none] [] e.2) (a : Int32 × Int64 × Int32 × ax_S) : ax_J (cx_R, X) P 17 [some (.ref (ax_ad (cx_R, X) 0)), some (.int a.1), some (.long a.2.1), none, some (.int a.2.2.1), none, none, none, none, none, none, none] [] a.2.2.2 (b_X10_question_17 a) := by
  unfold b_X10_question_17
  refine ax_j (ax_iload hV dX10_question_17 rfl) ?_
  refine ax_j (ax_aload_n hV dX10_question_19 rfl) ?_
  refine ax_j (ax_gfi hV lf_X10_94 dX10_question_20 rfl rfl) ?_
  refine ax_jif (ax_icmp_ge hV dX10_question_23) ?_ ?_
  · refine ax_jf (lv' := [none, some (.int a.1), none, none, none, none, none, none, none, none, none, none]) [false, true, false, false, false, false, false, false, false, false, false, false] rfl ?_
    exact ax_jl (fun h => hO (a.1, a.2.2.2) h)
  · refine ax_j (ax_iload hV dX10_question_26 rfl) ?_
    refine ax_j (ax_iconst hV (1 : Int32) dX10_question_28 (by decide)) ?_
    refine ax_j (ax_iadd hV dX10_question_29) ?_
    refine ax_j (ax_istore hV [some (.ref (ax_ad (cx_R, X) 0)), some (.int a.1), some (.long a.2.1), none, some (.int a.2.2.1), some (.int (a.2.2.1 + (1 : Int32))), none, none, none, none, none, none] dX10_question_30 rfl rfl) ?_
    refine ax_jlp (a.1, a.2.1, (a.2.2.1 + (1 : Int32)), a.2.2.2) (fun x32 : Int32 × Int64 × Int32 × ax_S => [some (.ref (ax_ad (cx_R, X) 0)), some (.int x32.1), some (.long x32.2.1), none, some (.int a.2.2.1), some (.int x32.2.2.1), none, none, none, none, none, none]) (fun x32 : Int32 × Int64 × Int32 × ax_S => x32.2.2.2) (fun y32 : Int32 × Int64 × ax_S => [some (.ref (ax_ad (cx_R, X) 0)), some (.int y32.1), some (.long y32.2.1), none, some (.int a.2.2.1), none, none, none, none, none, none, none]) (fun y32 : Int32 × Int64 × ax_S => y32.2.2) (fun P' h1 h2 w => B_X10_question_32 X hV a.2.2.1 P' h1 h2 w) (fun e32 => ?_)
    refine ax_j (ax_iinc hV (a.2.2.1 + 1) [some (.ref (ax_ad (cx_R, X) 0)), some (.int e32.1), some (.long e32.2.1), none, some (.int (a.2.2.1 + 1)), none, none, none, none, none, none, none] dX10_question_138 rfl rfl rfl rfl) ?_
    refine ax_j (ax_goto hV dX10_question_141) ?_
    exact ax_jl (fun h => hI (e32.1, e32.2.1, (a.2.2.1 + 1), e32.2.2) h)
theorem T_X10_question  (s : ax_S) (r : Int32 × ax_S) (h : f_X10_question s = some r) : ax_M cx_R mu_X10_question (fun ad => [.ref (ad 0)]) s (some (.int r.1)) r.2 := by
  refine ax_enter (by decide +kernel) 11 (fun ad => [some (.ref (ad 0)), none, none, none, none, none, none, none, none, none, none, none]) (fun ad => rfl) (fun ad => Nat.le_of_ble_eq_true rfl) (fun X hV ho => ?_)
  refine ax_go (fun r : Int32 × ax_S => (some (Value.int r.1), r.2)) (fun P hP => ?_) h ho
  unfold f_X10_question
  refine ax_j (ax_aload_n hV dX10_question_0 rfl) ?_
  refine ax_jb (fun v ho => ax_cVi hV lk_X10_240 rfl dX10_question_1 rfl rfl [] [] (fun ad => [.ref (ad 0)]) rfl rfl rfl rfl v.1 v.2 (T_X10_sures s v ho)) (fun q1 => ?_)
  refine ax_jif (ax_if_ne hV dX10_question_4) ?_ ?_
  · refine ax_j (ax_bipush hV (-3 : Int32) dX10_question_7 (by decide)) ?_
    exact ax_jl (fun h => ax_ir hV rfl dX10_question_9 (hP ((-3 : Int32), q1.2) h))
  · refine ax_j (ax_iconst hV (-1 : Int32) dX10_question_10 (by decide)) ?_
    refine ax_j (ax_istore_n hV [some (.ref (ax_ad (cx_R, X) 0)), some (.int (-1 : Int32)), none, none, none, none, none, none, none, none, none, none] dX10_question_11 rfl rfl) ?_
    refine ax_j (ax_lconst hV (0 : Int64) dX10_question_12 (by decide)) ?_
    refine ax_j (ax_lstore_n hV [some (.ref (ax_ad (cx_R, X) 0)), some (.int (-1 : Int32)), some (.long (0 : Int64)), none, none, none, none, none, none, none, none, none] dX10_question_13 rfl rfl) ?_
    refine ax_j (ax_iconst hV (0 : Int32) dX10_question_14 (by decide)) ?_
    refine ax_j (ax_istore hV [some (.ref (ax_ad (cx_R, X) 0)), some (.int (-1 : Int32)), some (.long (0 : Int64)), none, some (.int (0 : Int32)), none, none, none, none, none, none, none] dX10_question_15 rfl rfl) ?_
    refine ax_jlp ((-1 : Int32), (0 : Int64), (0 : Int32), q1.2) (fun x17 : Int32 × Int64 × Int32 × ax_S => [some (.ref (ax_ad (cx_R, X) 0)), some (.int x17.1), some (.long x17.2.1), none, some (.int x17.2.2.1), none, none, none, none, none, none, none]) (fun x17 : Int32 × Int64 × Int32 × ax_S => x17.2.2.2) (fun y17 : Int32 × ax_S => [none, some (.int y17.1), none, none, none, none, none, none, none, none, none, none]) (fun y17 : Int32 × ax_S => y17.2) (fun P' h1 h2 w => B_X10_question_17 X hV  P' h1 h2 w) (fun e17 => ?_)
    refine ax_j (ax_iload_n hV dX10_question_144 rfl) ?_
    exact ax_jl (fun h => ax_ir hV rfl dX10_question_145 (hP (e17.1, e17.2) h))

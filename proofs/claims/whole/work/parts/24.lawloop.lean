def lw_all (I : ax_S → ax_S → Prop) : Prop := lq_pass I ∧ lq_thing I ∧ lq_book I ∧ lq_trust I ∧ lq_on I ∧ lq_apart I ∧ lq_read I ∧ lq_takeBack I ∧ lq_about I ∧ lq_asOf I ∧ lq_can I ∧ lq_all I ∧ lq_span I ∧ lq_clock I ∧ lq_between I ∧ lq_led I ∧ lq_changed I ∧ lq_fits I ∧ lq_room I ∧ lq_kin I ∧ lq_hangs I ∧ lq_doubts I ∧ lq_blamed I ∧ lq_ahead I ∧ lq_orders I ∧ lq_share I ∧ lq_first I ∧ lq_question I ∧ lq_dayOf I ∧ lq_dateOf I ∧ lq_type I ∧ lq_wipe I ∧ lq_fault I ∧ lq_said I ∧ lq_sheet I ∧ lq_lose I ∧ lq_put I ∧ lq_get I ∧ lq_copy I ∧ lq_write I ∧ lq_count I ∧ lq_digest I
theorem lw_sub {a k : Nat} (h : a + k < 2 ^ 31) : nI a + nI k = nI (a + k) := by
  apply Int32.toInt_inj.mp
  rw [Int32.toInt_add, nI_toInt (by omega), nI_toInt (by omega), nI_toInt h]
  apply Int.bmod_eq_of_le <;> omega
theorem lw_in_of {L i : Nat} (h : i + 6 ≤ L) (hL : L ≤ 3072) : lw_in L (nI i) := by
  have e : ∀ k : Nat, k < 6 → vp_in (nI i + nI k) L := fun k hk => by
    rw [lw_sub (by omega)]
    exact vp_in_nI (by omega) (by omega)
  exact ⟨vp_in_nI (by omega) (by omega), e 1 (by omega), e 2 (by omega), e 3 (by omega), e 4 (by omega), e 5 (by omega)⟩
set_option maxHeartbeats 4000000 in
theorem lw_switch {V : cn_V} {adC adR : Nat → Nat} {b L : Nat} {xs : Nat → Int32} (hC : lw_C V adC adR b L xs) {i a : Int32} (hin : lw_in L i) {I : ax_S → ax_S → Prop} (hall : lw_all I) {x y : ax_S} (hI : I x y) (kk : ∀ x' y', I x' y' → cn_At V 1528 [some (.ref b), some (.ref (adC 0)), some (.ref (adR 0)), some (.int i)] [] (cn_W V adC adR x' y') 67 14394) : cn_At V 33 [some (.ref b), some (.ref (adC 0)), some (.ref (adR 0)), some (.int i)] [.int a] (cn_W V adC adR x y) 67 14394 := by
  obtain ⟨h0, h1, h2, h3, h4, h5, h6, h7, h8, h9, h10, h11, h12, h13, h14, h15, h16, h17, h18, h19, h20, h21, h22, h23, h24, h25, h26, h27, h28, h29, h30, h31, h32, h33, h34, h35, h36, h37, h38, h39, h40, h41⟩ := hall
  by_cases e0 : a = Int32.ofNat 0
  · exact cn_tsw (tgt := 216) hC.1 0 e0 dL_law_33 rfl (by decide) (by decide) (by decide) (lw_case_0 hC hin h0 hI kk)
  by_cases e1 : a = Int32.ofNat 1
  · exact cn_tsw (tgt := 239) hC.1 1 e1 dL_law_33 rfl (by decide) (by decide) (by decide) (lw_case_1 hC hin h1 hI kk)
  by_cases e2 : a = Int32.ofNat 2
  · exact cn_tsw (tgt := 252) hC.1 2 e2 dL_law_33 rfl (by decide) (by decide) (by decide) (lw_case_2 hC hin h2 hI kk)
  by_cases e3 : a = Int32.ofNat 3
  · exact cn_tsw (tgt := 285) hC.1 3 e3 dL_law_33 rfl (by decide) (by decide) (by decide) (lw_case_3 hC hin h3 hI kk)
  by_cases e4 : a = Int32.ofNat 4
  · exact cn_tsw (tgt := 318) hC.1 4 e4 dL_law_33 rfl (by decide) (by decide) (by decide) (lw_case_4 hC hin h4 hI kk)
  by_cases e5 : a = Int32.ofNat 5
  · exact cn_tsw (tgt := 371) hC.1 5 e5 dL_law_33 rfl (by decide) (by decide) (by decide) (lw_case_5 hC hin h5 hI kk)
  by_cases e6 : a = Int32.ofNat 6
  · exact cn_tsw (tgt := 434) hC.1 6 e6 dL_law_33 rfl (by decide) (by decide) (by decide) (lw_case_6 hC hin h6 hI kk)
  by_cases e7 : a = Int32.ofNat 7
  · exact cn_tsw (tgt := 457) hC.1 7 e7 dL_law_33 rfl (by decide) (by decide) (by decide) (lw_case_7 hC hin h7 hI kk)
  by_cases e8 : a = Int32.ofNat 8
  · exact cn_tsw (tgt := 480) hC.1 8 e8 dL_law_33 rfl (by decide) (by decide) (by decide) (lw_case_8 hC hin h8 hI kk)
  by_cases e9 : a = Int32.ofNat 9
  · exact cn_tsw (tgt := 513) hC.1 9 e9 dL_law_33 rfl (by decide) (by decide) (by decide) (lw_case_9 hC hin h9 hI kk)
  by_cases e10 : a = Int32.ofNat 10
  · exact cn_tsw (tgt := 536) hC.1 10 e10 dL_law_33 rfl (by decide) (by decide) (by decide) (lw_case_10 hC hin h10 hI kk)
  by_cases e11 : a = Int32.ofNat 11
  · exact cn_tsw (tgt := 589) hC.1 11 e11 dL_law_33 rfl (by decide) (by decide) (by decide) (lw_case_11 hC hin h11 hI kk)
  by_cases e12 : a = Int32.ofNat 12
  · exact cn_tsw (tgt := 602) hC.1 12 e12 dL_law_33 rfl (by decide) (by decide) (by decide) (lw_case_12 hC hin h12 hI kk)
  by_cases e13 : a = Int32.ofNat 13
  · exact cn_tsw (tgt := 635) hC.1 13 e13 dL_law_33 rfl (by decide) (by decide) (by decide) (lw_case_13 hC hin h13 hI kk)
  by_cases e14 : a = Int32.ofNat 14
  · exact cn_tsw (tgt := 668) hC.1 14 e14 dL_law_33 rfl (by decide) (by decide) (by decide) (lw_case_14 hC hin h14 hI kk)
  by_cases e15 : a = Int32.ofNat 15
  · exact cn_tsw (tgt := 711) hC.1 15 e15 dL_law_33 rfl (by decide) (by decide) (by decide) (lw_case_15 hC hin h15 hI kk)
  by_cases e16 : a = Int32.ofNat 16
  · exact cn_tsw (tgt := 744) hC.1 16 e16 dL_law_33 rfl (by decide) (by decide) (by decide) (lw_case_16 hC hin h16 hI kk)
  by_cases e17 : a = Int32.ofNat 17
  · exact cn_tsw (tgt := 777) hC.1 17 e17 dL_law_33 rfl (by decide) (by decide) (by decide) (lw_case_17 hC hin h17 hI kk)
  by_cases e18 : a = Int32.ofNat 18
  · exact cn_tsw (tgt := 800) hC.1 18 e18 dL_law_33 rfl (by decide) (by decide) (by decide) (lw_case_18 hC hin h18 hI kk)
  by_cases e19 : a = Int32.ofNat 19
  · exact cn_tsw (tgt := 833) hC.1 19 e19 dL_law_33 rfl (by decide) (by decide) (by decide) (lw_case_19 hC hin h19 hI kk)
  by_cases e20 : a = Int32.ofNat 20
  · exact cn_tsw (tgt := 876) hC.1 20 e20 dL_law_33 rfl (by decide) (by decide) (by decide) (lw_case_20 hC hin h20 hI kk)
  by_cases e21 : a = Int32.ofNat 21
  · exact cn_tsw (tgt := 900) hC.1 21 e21 dL_law_33 rfl (by decide) (by decide) (by decide) (lw_case_21 hC hin h21 hI kk)
  by_cases e22 : a = Int32.ofNat 22
  · exact cn_tsw (tgt := 914) hC.1 22 e22 dL_law_33 rfl (by decide) (by decide) (by decide) (lw_case_22 hC hin h22 hI kk)
  by_cases e23 : a = Int32.ofNat 23
  · exact cn_tsw (tgt := 937) hC.1 23 e23 dL_law_33 rfl (by decide) (by decide) (by decide) (lw_case_23 hC hin h23 hI kk)
  by_cases e24 : a = Int32.ofNat 24
  · exact cn_tsw (tgt := 970) hC.1 24 e24 dL_law_33 rfl (by decide) (by decide) (by decide) (lw_case_24 hC hin h24 hI kk)
  by_cases e25 : a = Int32.ofNat 25
  · exact cn_tsw (tgt := 984) hC.1 25 e25 dL_law_33 rfl (by decide) (by decide) (by decide) (lw_case_25 hC hin h25 hI kk)
  by_cases e26 : a = Int32.ofNat 26
  · exact cn_tsw (tgt := 1028) hC.1 26 e26 dL_law_33 rfl (by decide) (by decide) (by decide) (lw_case_26 hC hin h26 hI kk)
  by_cases e27 : a = Int32.ofNat 27
  · exact cn_tsw (tgt := 1052) hC.1 27 e27 dL_law_33 rfl (by decide) (by decide) (by decide) (lw_case_27 hC hin h27 hI kk)
  by_cases e28 : a = Int32.ofNat 28
  · exact cn_tsw (tgt := 1065) hC.1 28 e28 dL_law_33 rfl (by decide) (by decide) (by decide) (lw_case_28 hC hin h28 hI kk)
  by_cases e29 : a = Int32.ofNat 29
  · exact cn_tsw (tgt := 1118) hC.1 29 e29 dL_law_33 rfl (by decide) (by decide) (by decide) (lw_case_29 hC hin h29 hI kk)
  by_cases e30 : a = Int32.ofNat 30
  · exact cn_tsw (tgt := 1161) hC.1 30 e30 dL_law_33 rfl (by decide) (by decide) (by decide) (lw_case_30 hC hin h30 hI kk)
  by_cases e31 : a = Int32.ofNat 31
  · exact cn_tsw (tgt := 1184) hC.1 31 e31 dL_law_33 rfl (by decide) (by decide) (by decide) (lw_case_31 hC hin h31 hI kk)
  by_cases e32 : a = Int32.ofNat 32
  · exact cn_tsw (tgt := 1197) hC.1 32 e32 dL_law_33 rfl (by decide) (by decide) (by decide) (lw_case_32 hC hin h32 hI kk)
  by_cases e33 : a = Int32.ofNat 33
  · exact cn_tsw (tgt := 1210) hC.1 33 e33 dL_law_33 rfl (by decide) (by decide) (by decide) (lw_case_33 hC hin h33 hI kk)
  by_cases e34 : a = Int32.ofNat 34
  · exact cn_tsw (tgt := 1243) hC.1 34 e34 dL_law_33 rfl (by decide) (by decide) (by decide) (lw_case_34 hC hin h34 hI kk)
  by_cases e35 : a = Int32.ofNat 35
  · exact cn_tsw (tgt := 1286) hC.1 35 e35 dL_law_33 rfl (by decide) (by decide) (by decide) (lw_case_35 hC hin h35 hI kk)
  by_cases e36 : a = Int32.ofNat 36
  · exact cn_tsw (tgt := 1309) hC.1 36 e36 dL_law_33 rfl (by decide) (by decide) (by decide) (lw_case_36 hC hin h36 hI kk)
  by_cases e37 : a = Int32.ofNat 37
  · exact cn_tsw (tgt := 1362) hC.1 37 e37 dL_law_33 rfl (by decide) (by decide) (by decide) (lw_case_37 hC hin h37 hI kk)
  by_cases e38 : a = Int32.ofNat 38
  · exact cn_tsw (tgt := 1405) hC.1 38 e38 dL_law_33 rfl (by decide) (by decide) (by decide) (lw_case_38 hC hin h38 hI kk)
  by_cases e39 : a = Int32.ofNat 39
  · exact cn_tsw (tgt := 1468) hC.1 39 e39 dL_law_33 rfl (by decide) (by decide) (by decide) (lw_case_39 hC hin h39 hI kk)
  by_cases e40 : a = Int32.ofNat 40
  · exact cn_tsw (tgt := 1491) hC.1 40 e40 dL_law_33 rfl (by decide) (by decide) (by decide) (lw_case_40 hC hin h40 hI kk)
  by_cases e41 : a = Int32.ofNat 41
  · exact cn_tsw (tgt := 1514) hC.1 41 e41 dL_law_33 rfl (by decide) (by decide) (by decide) (lw_case_41 hC hin h41 hI kk)
  exact cn_tswd (tgt := 1528) hC.1 (ax_nk_s (ax_nk_s (ax_nk_s (ax_nk_s (ax_nk_s (ax_nk_s (ax_nk_s (ax_nk_s (ax_nk_s (ax_nk_s (ax_nk_s (ax_nk_s (ax_nk_s (ax_nk_s (ax_nk_s (ax_nk_s (ax_nk_s (ax_nk_s (ax_nk_s (ax_nk_s (ax_nk_s (ax_nk_s (ax_nk_s (ax_nk_s (ax_nk_s (ax_nk_s (ax_nk_s (ax_nk_s (ax_nk_s (ax_nk_s (ax_nk_s (ax_nk_s (ax_nk_s (ax_nk_s (ax_nk_s (ax_nk_s (ax_nk_s (ax_nk_s (ax_nk_s (ax_nk_s (ax_nk_s (ax_nk_s ax_nk_0 e0) e1) e2) e3) e4) e5) e6) e7) e8) e9) e10) e11) e12) e13) e14) e15) e16) e17) e18) e19) e20) e21) e22) e23) e24) e25) e26) e27) e28) e29) e30) e31) e32) e33) e34) e35) e36) e37) e38) e39) e40) e41) dL_law_33 (by decide) (by decide) (kk x y hI)
theorem lw_loop {V : cn_V} {adC adR : Nat → Nat} {b L : Nat} {xs : Nat → Int32} (hL : L ≤ 3072) (hC : lw_C V adC adR b L xs) {I : ax_S → ax_S → Prop} (hall : lw_all I) (hend : ∀ (lv : List (Option Value)) (ws : va_W), cn_At V 1535 lv [.int 1] ws 67 14394) (n : Nat) : ∀ (i : Nat) (x y : ax_S), i ≤ L → L - i < n → I x y → cn_At V 18 [some (.ref b), some (.ref (adC 0)), some (.ref (adR 0)), some (.int (nI i))] [] (cn_W V adC adR x y) 67 14394 := by
  induction n with
  | zero => intro i x y _ h; omega
  | succ n ih =>
    intro i x y hi hn hI
    refine cn_iload_n hC.1 dL_law_18 rfl ?_
    refine cn_aload_n hC.1 dL_law_19 rfl ?_
    refine cn_slen hC.1 hC.2.2.1 hC.2.2.2.1 hC.2.2.2.2 dL_law_20 ?_
    refine cn_bipush hC.1 (6 : Int32) dL_law_21 (by decide) ?_
    refine cn_isub hC.1 dL_law_23 ?_
    have e1 : (Int32.ofNat L - 6).toInt = (L : Int) - 6 := by
      rw [Int32.toInt_sub, show (Int32.ofNat L).toInt = (L : Int) from nI_toInt (by omega), show (6 : Int32).toInt = 6 from rfl]
      apply Int.bmod_eq_of_le <;> omega
    have e2 : (nI i).toInt = (i : Int) := nI_toInt (by omega)
    refine cn_icmp_gt hC.1 dL_law_24 (fun _ => ?_) (fun q => ?_)
    · refine cn_iconst hC.1 (1 : Int32) dL_law_1534 (by decide) ?_
      exact hend _ _
    · have hle : i + 6 ≤ L := by
        rw [Int32.lt_iff_toInt_lt, e1, e2] at q
        omega
      have hin := lw_in_of hle hL
      refine cn_aload_n hC.1 dL_law_27 rfl ?_
      refine cn_iload_n hC.1 dL_law_28 rfl ?_
      refine cn_sld hC.1 hC.2.2.1 hC.2.2.2.1 hC.2.2.2.2 hin.1 dL_law_29 ?_
      refine cn_bipush hC.1 (63 : Int32) dL_law_30 (by decide) ?_
      refine cn_iand hC.1 dL_law_32 ?_
      refine lw_switch hC hin hall hI (fun x' y' hI' => ?_)
      refine cn_iinc hC.1 (nI (i + 6)) [some (.ref b), some (.ref (adC 0)), some (.ref (adR 0)), some (.int (nI (i + 6)))] dL_law_1528 rfl (lw_sub (k := 6) (by omega)) rfl rfl ?_
      refine cn_goto hC.1 dL_law_1531 ?_
      exact ih (i + 6) x' y' hle (by omega) hI'

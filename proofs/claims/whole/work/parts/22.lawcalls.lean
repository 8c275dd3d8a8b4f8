def R_law : String := "WhenItWasLaw"
def lw_P (b : Addr) (xs : List Int32) (args : Array Value) (s : State) : Prop := args = #[.ref b] ∧ s.IntsAt b xs ∧ xs.length ≤ 3072 ∧ (Jvm.Cond.and given_1 narrow_1).before args s = true
def lw_Q (_ : Array Value) (s : State) (o : Outcome) (t : State) : Prop := o = .returned (some (.int 1)) ∧ Framed s o t [] 67 14394
def lw_Z (below : List Frame) (a : Array Value) (s : State) : State → Prop := fun t => ∃ o, t.status = .running ∧ Ended t below o ∧ lw_Q a s o t
/-- the law's own end, with 1 on the stack, nothing written that was there before, its room as the claim has it -/
theorem lw_ret {p : Program} {l : Launch} {e : Env} {s : State} {m : MethodId} {below : List Frame} {meth : Method} {c : Code} {b : Nat} (hx : p.tables.exec = Jvm.exec) (hb : c.code = code) (hr : meth.sig.returnType = ret) (hlocks : meth.locks = false) {pc : Nat} {H : Heap} {ls : Array Slot} (hdg : decode code pc = .ok (.ireturn, 1)) : W p l e room_1 s m #[Value.ref b] below meth c H [] 67 14394 (lw_Z below #[Value.ref b] s) (F0 m pc ls [.int 1]) := by
  intro T hT X
  obtain ⟨fs, hret, hrun, hended, hW, hframe⟩ := X.leave (v := some (.int 1)) (hlocks := hlocks) (fun h => by rw [hr] at h; cases h)
  have hmeth' : T.vm.method? m = some meth := X.method'
  refine ⟨T.setFrames fs, ?_, .returned (some (.int 1)), hrun, hended, rfl, ⟨_, rfl⟩, hW, hframe⟩
  jvm_step X.here [X.here.top, hx, hb, hdg, hmeth', hr, ret, narrow_b1]
  (try refine ⟨rfl, ?_⟩); (try refine ⟨rfl, ?_⟩)
  first | (intro acts; rw [hret _ acts rfl rfl rfl]) | rw [hret _ _ rfl rfl rfl]
  exact Steps.refl _
/-- what holds at the law's entry: the machine, the code, the tables' words (any of lw_tbl by 'hts w (by decide +kernel)'), the script of L ints xs at the cell b, what the Statement gives of the start (any of its parts by flat_of_before) -/
def lw_At (p : Program) (s : State) (m : MethodId) (meth : Method) (c : Code) (b L : Nat) (xs : Nat → Int32) : Prop :=
  p.tables.exec = Jvm.exec ∧ c.code = code ∧ meth.sig.returnType = ret ∧ c.maxLocals = 4 ∧ s.vm.findClass R_law = some m.cls ∧ (∀ w ∈ lw_tbl, w.before #[Value.ref b] s = true) ∧ va_X b L xs s s.heap ∧ b < s.heap.size ∧ meth.locks = false ∧ (Jvm.Cond.and given_1 narrow_1).before #[Value.ref b] s = true
def cn_G (V : cn_V) (ad : Nat → Nat) : ax_G := (V.2.1.1, ad, V.2.1.2.1, V.2.1.2.2.1, V.2.1.2.2.2)
def cn_W (V : cn_V) (adC adR : Nat → Nat) (x y : ax_S) : va_W := ax_ws cx_C.1 (cn_G V adC) x ++ ax_ws cx_R.1 (cn_G V adR) y
theorem cn_backL {A A1 : Nat → Prop} {D : va_G} {wr wc w1 : va_W} {H H1 : Heap} (hP : va_P D cx_cls (wc ++ wr) H) (hD : va_D A (wc ++ wr)) (hk : ∀ q : Nat, q < H.size → ¬ A1 q → H1[q]? = H[q]?) (hr : ∀ q ∈ wr, ¬ A1 q.1) (hP1 : va_P D cx_cls w1 H1) (hD1 : va_D A1 w1) (hA : ∀ q ∈ w1, A q.1) : va_P D cx_cls (w1 ++ wr) H1 ∧ va_D A (w1 ++ wr) := by
  have hPr := (cn_P_app.mp hP).2
  obtain ⟨hn, ha⟩ := cn_D_nd hD
  obtain ⟨hn1, ha1⟩ := cn_D_nd hD1
  refine ⟨cn_P_app.mpr ⟨hP1, cn_P_kept hPr (fun q hq => hk q.1 (cn_at_lt hPr hq) (hr q hq))⟩, cn_D_of (cn_nd_app.mpr ⟨hn1, (cn_nd_app.mp hn).2.1, fun p hp q hq he => hr q hq (he ▸ ha1 p hp)⟩) (fun q hq => ?_)⟩
  rcases List.mem_append.mp hq with m | m
  · exact hA q m
  · exact ha q (List.mem_append_right _ m)
theorem cn_inj {A : Nat → Prop} {L : ax_L} {G : ax_G} {x : ax_S} (h : cn_nd (ax_ws L G x)) : ax_inj L G := by
  have hD : va_D (fun _ => True) (ax_ws L G x) := cn_D_of h (fun _ _ => trivial)
  intro i j hi hj he
  have e1 : L[i]? = some L[i] := List.getElem?_eq_getElem hi
  have e2 : L[j]? = some L[j] := List.getElem?_eq_getElem hj
  exact hD.1 i j _ _ (ax_ws_get (G := G) (s := x) e1) (ax_ws_get (G := G) (s := x) e2) he
theorem cn_A_mem {L : ax_L} {G : ax_G} {x : ax_S} {q : Nat} (h : ax_A L G q) : ∃ e, (q, e) ∈ ax_ws L G x := by
  obtain ⟨k, hk, rfl⟩ := h
  exact ⟨_, List.mem_of_getElem? (ax_ws_get (G := G) (s := x) (List.getElem?_eq_getElem hk))⟩
theorem cn_mem_A {L : ax_L} {G : ax_G} {x : ax_S} {q : Nat × va_E} (h : q ∈ ax_ws L G x) : ax_A L G q.1 := by
  obtain ⟨i, hi⟩ := List.getElem?_of_mem h
  obtain ⟨d, hd, rfl⟩ := ax_ws_of hi
  exact ⟨i, (List.getElem?_eq_some_iff.mp hd).1, rfl⟩
theorem cn_sld {V : cn_V} {μ : ax_Mu} {cl sl : Nat} (hV : cn_ok V μ cl sl) {pc nx : Nat} {lv : List (Option Value)} {st : List Value} {ws : va_W} {ce so : Nat} {b L : Nat} {xs : Nat → Int32} {i : Int32} (hX : va_X b L xs V.1.2.2.2.2.1 V.1.2.2.2.2.1.heap) (hbl : b < V.1.2.2.2.2.1.heap.size) (hbA : ¬ V.2.2.1 b) (hin : vp_in i L) (d : ax_D μ.2.1 pc .iaload 1 nx) (k : cn_At V nx lv (.int (xs i.toNatClampNeg) :: st) ws ce so) : cn_At V pc lv (.int i :: .ref b :: st) ws ce so := by
  obtain ⟨⟨p, l, e, R, s, m, args, below, meth, c⟩, ⟨D, cI, cJ, cZ⟩, A, Q⟩ := V
  obtain ⟨d, rfl⟩ := d
  intro H locs ls hP hD hS hl
  exact va_sld hV.1 hV.2.1 hX hbl hbA hS hin d (k H locs ls hP hD hS hl)
theorem cn_slen {V : cn_V} {μ : ax_Mu} {cl sl : Nat} (hV : cn_ok V μ cl sl) {pc nx : Nat} {lv : List (Option Value)} {st : List Value} {ws : va_W} {ce so : Nat} {b L : Nat} {xs : Nat → Int32} (hX : va_X b L xs V.1.2.2.2.2.1 V.1.2.2.2.2.1.heap) (hbl : b < V.1.2.2.2.2.1.heap.size) (hbA : ¬ V.2.2.1 b) (d : ax_D μ.2.1 pc .arraylength 1 nx) (k : cn_At V nx lv (.int (Int32.ofNat L) :: st) ws ce so) : cn_At V pc lv (.ref b :: st) ws ce so := by
  obtain ⟨⟨p, l, e, R, s, m, args, below, meth, c⟩, ⟨D, cI, cJ, cZ⟩, A, Q⟩ := V
  obtain ⟨d, rfl⟩ := d
  intro H locs ls hP hD hS hl
  exact va_slen hV.1 hV.2.1 hX hbl hbA hS d (k H locs ls hP hD hS hl)
theorem cn_cCi {V : cn_V} {μ : ax_Mu} {cl sl : Nat} (hV : cn_ok V μ cl sl) {pc nx : Nat} {lv : List (Option Value)} {st : List Value} {ce so : Nat} {adC adR : Nat → Nat} {x y : ax_S} (hstat : ax_stat cx_C.2 V.2.2.1 (cn_G V adC) V.1.2.2.2.2.1 V.1.2.2.2.2.1.heap) {μ' : ax_Mu} {ix n : Nat} (hlk : ax_lkV μ.1.cls ix μ' RX9 n) (hrm : ax_rmle μ' μ = true) (d : ax_D μ.2.1 pc (.invokevirtual ix) 3 nx) (As rest : List Value) (av : (Nat → Nat) → List Value) (hav : av adC = .ref (adC 0) :: As) (hn : As.length = n) (hst : st = As.reverse ++ .ref (adC 0) :: rest) (hw : Nat.ble ((rest.map fun v => v.category).sum) 8 = true) (hce : ce ≤ cl) (hso : so ≤ sl) (r : Int32) (x' : ax_S) (hm : ax_M cx_C μ' av x (some (.int r)) x') (k : cn_At V nx lv (.int r :: rest) (cn_W V adC adR x' y) ce so) : cn_At V pc lv st (cn_W V adC adR x y) ce so := by
  obtain ⟨⟨p, l, e, R, s, m, args, below, meth, c⟩, ⟨D, cI, cJ, cZ⟩, A, Q⟩ := V
  obtain ⟨d, rfl⟩ := d
  have hR := hV.2.2.2.2.2.2.2.2.2
  subst hR
  intro H locs ls hP hD hS hl
  have hPc : va_P D cx_cls (ax_ws cx_C.1 (D, adC, cI, cJ, cZ) x) H := (cn_P_app.mp hP).1
  have hnd : cn_nd (ax_ws cx_C.1 (D, adC, cI, cJ, cZ) x ++ ax_ws cx_R.1 (D, adR, cI, cJ, cZ) y) := (cn_D_nd hD).1
  have hinj : ax_inj cx_C.1 (D, adC, cI, cJ, cZ) := cn_inj (A := A) (cn_nd_app.mp hnd).1
  have hA' : ∀ q, ax_A cx_C.1 (D, adC, cI, cJ, cZ) q → A q := fun q hq => by
    obtain ⟨e0, he⟩ := cn_A_mem (x := x) hq
    exact (cn_D_nd hD).2 (q, e0) (List.mem_append_left _ he)
  have hm' : Met l μ'.1 (ax_w μ') (ax_rm μ') (va_Pc (av adC) (fun U => va_P D cx_cls (ax_ws cx_C.1 (D, adC, cI, cJ, cZ) x) U.heap ∧ ax_U cx_C (D, adC, cI, cJ, cZ) U)) (va_Qi (fun y (_ : Unit) => y = r) (fun _ t => va_P D cx_cls (ax_ws cx_C.1 (D, adC, cI, cJ, cZ) x') t.heap) (ax_A cx_C.1 (D, adC, cI, cJ, cZ))) 0 0 (ax_A cx_C.1 (D, adC, cI, cJ, cZ)) := hm l (D, adC, cI, cJ, cZ) hinj
  have hrm := Bool.and_eq_true _ _ ▸ hrm
  refine va_calli (va_runV (As := As) (rest := rest) (b := adC 0) ⟨hV.1, hV.2.1, rfl, hV.2.2.2.1, hV.2.2.2.2.1⟩ hm' (cwV n hV.2.2.2.2.1 hlk.1 rfl rfl rfl ⟨hlk.2.1, hlk.2.2⟩ ⟨Nat.le_of_ble_eq_true hrm.1, Nat.le_of_ble_eq_true hrm.2⟩) ⟨ax_blind (Sd := cx_C) (G := (D, adC, cI, cJ, cZ)), va_recv (ci := 8) (q0 := 0) (a := adC 0) hV.2.2.2.2.2.1 hPc rfl (ax_ws_get (L := cx_C.1) (G := (D, adC, cI, cJ, cZ)) (s := x) (k := 0) rfl), fun U hU hW => ⟨?_, ?_, va_K.moved hW.alike hV.2.2.2.2.2.1, ?_⟩⟩ rfl hn hl.1 hst (lv_room (Nat.le_of_ble_eq_true hw)) d ⟨hce, hso⟩) hS (fun q _ h => hA' q h) hA' (fun r' u t H1 locs1 ht hvm hpost hB hsz hk hS1 => ?_)
  · exact congrArg List.toArray hav.symm
  · rw [hU]; exact hPc
  · rw [hU]; exact fun z hz => ⟨va_Z.moved hW.alike ((ax_Z_S (hstat z hz).1 hS).narrow hA'), va_T.moved hW.alike ((ax_T_S (hstat z hz).2 hS).narrow hA')⟩
  · have hpost : r' = r := hpost
    subst hpost
    have hB : va_P D cx_cls (ax_ws cx_C.1 (D, adC, cI, cJ, cZ) x') t.heap := hB
    rw [ht] at hB
    obtain ⟨hP2, hD2⟩ := cn_backL hP hD hk (fun q hq h => by
      obtain ⟨e0, he⟩ := cn_A_mem (x := x) h
      exact (cn_nd_app.mp hnd).2.2 _ he q hq rfl) hB (ax_D_of hinj x') (fun q hq => hA' _ (cn_mem_A hq))
    exact k H1 locs1 ls hP2 hD2 hS1 hl
theorem cn_cCl {V : cn_V} {μ : ax_Mu} {cl sl : Nat} (hV : cn_ok V μ cl sl) {pc nx : Nat} {lv : List (Option Value)} {st : List Value} {ce so : Nat} {adC adR : Nat → Nat} {x y : ax_S} (hstat : ax_stat cx_C.2 V.2.2.1 (cn_G V adC) V.1.2.2.2.2.1 V.1.2.2.2.2.1.heap) {μ' : ax_Mu} {ix n : Nat} (hlk : ax_lkV μ.1.cls ix μ' RX9 n) (hrm : ax_rmle μ' μ = true) (d : ax_D μ.2.1 pc (.invokevirtual ix) 3 nx) (As rest : List Value) (av : (Nat → Nat) → List Value) (hav : av adC = .ref (adC 0) :: As) (hn : As.length = n) (hst : st = As.reverse ++ .ref (adC 0) :: rest) (hw : Nat.ble ((rest.map fun v => v.category).sum) 8 = true) (hce : ce ≤ cl) (hso : so ≤ sl) (r : Int64) (x' : ax_S) (hm : ax_M cx_C μ' av x (some (.long r)) x') (k : cn_At V nx lv (.long r :: rest) (cn_W V adC adR x' y) ce so) : cn_At V pc lv st (cn_W V adC adR x y) ce so := by
  obtain ⟨⟨p, l, e, R, s, m, args, below, meth, c⟩, ⟨D, cI, cJ, cZ⟩, A, Q⟩ := V
  obtain ⟨d, rfl⟩ := d
  have hR := hV.2.2.2.2.2.2.2.2.2
  subst hR
  intro H locs ls hP hD hS hl
  have hPc : va_P D cx_cls (ax_ws cx_C.1 (D, adC, cI, cJ, cZ) x) H := (cn_P_app.mp hP).1
  have hnd : cn_nd (ax_ws cx_C.1 (D, adC, cI, cJ, cZ) x ++ ax_ws cx_R.1 (D, adR, cI, cJ, cZ) y) := (cn_D_nd hD).1
  have hinj : ax_inj cx_C.1 (D, adC, cI, cJ, cZ) := cn_inj (A := A) (cn_nd_app.mp hnd).1
  have hA' : ∀ q, ax_A cx_C.1 (D, adC, cI, cJ, cZ) q → A q := fun q hq => by
    obtain ⟨e0, he⟩ := cn_A_mem (x := x) hq
    exact (cn_D_nd hD).2 (q, e0) (List.mem_append_left _ he)
  have hm' : Met l μ'.1 (ax_w μ') (ax_rm μ') (va_Pc (av adC) (fun U => va_P D cx_cls (ax_ws cx_C.1 (D, adC, cI, cJ, cZ) x) U.heap ∧ ax_U cx_C (D, adC, cI, cJ, cZ) U)) (va_Ql (fun y (_ : Unit) => y = r) (fun _ t => va_P D cx_cls (ax_ws cx_C.1 (D, adC, cI, cJ, cZ) x') t.heap) (ax_A cx_C.1 (D, adC, cI, cJ, cZ))) 0 0 (ax_A cx_C.1 (D, adC, cI, cJ, cZ)) := hm l (D, adC, cI, cJ, cZ) hinj
  have hrm := Bool.and_eq_true _ _ ▸ hrm
  refine va_calll (va_runV (As := As) (rest := rest) (b := adC 0) ⟨hV.1, hV.2.1, rfl, hV.2.2.2.1, hV.2.2.2.2.1⟩ hm' (cwV n hV.2.2.2.2.1 hlk.1 rfl rfl rfl ⟨hlk.2.1, hlk.2.2⟩ ⟨Nat.le_of_ble_eq_true hrm.1, Nat.le_of_ble_eq_true hrm.2⟩) ⟨ax_blind (Sd := cx_C) (G := (D, adC, cI, cJ, cZ)), va_recv (ci := 8) (q0 := 0) (a := adC 0) hV.2.2.2.2.2.1 hPc rfl (ax_ws_get (L := cx_C.1) (G := (D, adC, cI, cJ, cZ)) (s := x) (k := 0) rfl), fun U hU hW => ⟨?_, ?_, va_K.moved hW.alike hV.2.2.2.2.2.1, ?_⟩⟩ rfl hn hl.1 hst (lv_room (Nat.le_of_ble_eq_true hw)) d ⟨hce, hso⟩) hS (fun q _ h => hA' q h) hA' (fun r' u t H1 locs1 ht hvm hpost hB hsz hk hS1 => ?_)
  · exact congrArg List.toArray hav.symm
  · rw [hU]; exact hPc
  · rw [hU]; exact fun z hz => ⟨va_Z.moved hW.alike ((ax_Z_S (hstat z hz).1 hS).narrow hA'), va_T.moved hW.alike ((ax_T_S (hstat z hz).2 hS).narrow hA')⟩
  · have hpost : r' = r := hpost
    subst hpost
    have hB : va_P D cx_cls (ax_ws cx_C.1 (D, adC, cI, cJ, cZ) x') t.heap := hB
    rw [ht] at hB
    obtain ⟨hP2, hD2⟩ := cn_backL hP hD hk (fun q hq h => by
      obtain ⟨e0, he⟩ := cn_A_mem (x := x) h
      exact (cn_nd_app.mp hnd).2.2 _ he q hq rfl) hB (ax_D_of hinj x') (fun q hq => hA' _ (cn_mem_A hq))
    exact k H1 locs1 ls hP2 hD2 hS1 hl
theorem cn_cRi {V : cn_V} {μ : ax_Mu} {cl sl : Nat} (hV : cn_ok V μ cl sl) {pc nx : Nat} {lv : List (Option Value)} {st : List Value} {ce so : Nat} {adC adR : Nat → Nat} {x y : ax_S} {μ' : ax_Mu} {ix n : Nat} (hlk : ax_lkV μ.1.cls ix μ' RX10 n) (hrm : ax_rmle μ' μ = true) (d : ax_D μ.2.1 pc (.invokevirtual ix) 3 nx) (As rest : List Value) (av : (Nat → Nat) → List Value) (hav : av adR = .ref (adR 0) :: As) (hn : As.length = n) (hst : st = As.reverse ++ .ref (adR 0) :: rest) (hw : Nat.ble ((rest.map fun v => v.category).sum) 8 = true) (hce : ce ≤ cl) (hso : so ≤ sl) (r : Int32) (x' : ax_S) (hm : ax_M cx_R μ' av y (some (.int r)) x') (k : cn_At V nx lv (.int r :: rest) (cn_W V adC adR x x') ce so) : cn_At V pc lv st (cn_W V adC adR x y) ce so := by
  obtain ⟨⟨p, l, e, R, s, m, args, below, meth, c⟩, ⟨D, cI, cJ, cZ⟩, A, Q⟩ := V
  obtain ⟨d, rfl⟩ := d
  have hR := hV.2.2.2.2.2.2.2.2.2
  subst hR
  intro H locs ls hP hD hS hl
  have hPc : va_P D cx_cls (ax_ws cx_R.1 (D, adR, cI, cJ, cZ) y) H := (cn_P_app.mp hP).2
  have hnd : cn_nd (ax_ws cx_C.1 (D, adC, cI, cJ, cZ) x ++ ax_ws cx_R.1 (D, adR, cI, cJ, cZ) y) := (cn_D_nd hD).1
  have hinj : ax_inj cx_R.1 (D, adR, cI, cJ, cZ) := cn_inj (A := A) (cn_nd_app.mp hnd).2.1
  have hA' : ∀ q, ax_A cx_R.1 (D, adR, cI, cJ, cZ) q → A q := fun q hq => by
    obtain ⟨e0, he⟩ := cn_A_mem (x := y) hq
    exact (cn_D_nd hD).2 (q, e0) (List.mem_append_right _ he)
  have hm' : Met l μ'.1 (ax_w μ') (ax_rm μ') (va_Pc (av adR) (fun U => va_P D cx_cls (ax_ws cx_R.1 (D, adR, cI, cJ, cZ) y) U.heap ∧ ax_U cx_R (D, adR, cI, cJ, cZ) U)) (va_Qi (fun y (_ : Unit) => y = r) (fun _ t => va_P D cx_cls (ax_ws cx_R.1 (D, adR, cI, cJ, cZ) x') t.heap) (ax_A cx_R.1 (D, adR, cI, cJ, cZ))) 0 0 (ax_A cx_R.1 (D, adR, cI, cJ, cZ)) := hm l (D, adR, cI, cJ, cZ) hinj
  have hrm := Bool.and_eq_true _ _ ▸ hrm
  refine va_calli (va_runV (As := As) (rest := rest) (b := adR 0) ⟨hV.1, hV.2.1, rfl, hV.2.2.2.1, hV.2.2.2.2.1⟩ hm' (cwV n hV.2.2.2.2.1 hlk.1 rfl rfl rfl ⟨hlk.2.1, hlk.2.2⟩ ⟨Nat.le_of_ble_eq_true hrm.1, Nat.le_of_ble_eq_true hrm.2⟩) ⟨ax_blind (Sd := cx_R) (G := (D, adR, cI, cJ, cZ)), va_recv (ci := 9) (q0 := 0) (a := adR 0) hV.2.2.2.2.2.1 hPc rfl (ax_ws_get (L := cx_R.1) (G := (D, adR, cI, cJ, cZ)) (s := y) (k := 0) rfl), fun U hU hW => ⟨?_, ?_, va_K.moved hW.alike hV.2.2.2.2.2.1, ?_⟩⟩ rfl hn hl.1 hst (lv_room (Nat.le_of_ble_eq_true hw)) d ⟨hce, hso⟩) hS (fun q _ h => hA' q h) hA' (fun r' u t H1 locs1 ht hvm hpost hB hsz hk hS1 => ?_)
  · exact congrArg List.toArray hav.symm
  · rw [hU]; exact hPc
  · exact fun z hz => absurd hz (by simp [cx_R])
  · have hpost : r' = r := hpost
    subst hpost
    have hB : va_P D cx_cls (ax_ws cx_R.1 (D, adR, cI, cJ, cZ) x') t.heap := hB
    rw [ht] at hB
    obtain ⟨hP2, hD2⟩ := cn_back hP hD hk (fun q hq h => by
      obtain ⟨e0, he⟩ := cn_A_mem (x := y) h
      exact (cn_nd_app.mp hnd).2.2 q hq _ he rfl) hB (ax_D_of hinj x') (fun q hq => hA' _ (cn_mem_A hq))
    exact k H1 locs1 ls hP2 hD2 hS1 hl
theorem cn_cRl {V : cn_V} {μ : ax_Mu} {cl sl : Nat} (hV : cn_ok V μ cl sl) {pc nx : Nat} {lv : List (Option Value)} {st : List Value} {ce so : Nat} {adC adR : Nat → Nat} {x y : ax_S} {μ' : ax_Mu} {ix n : Nat} (hlk : ax_lkV μ.1.cls ix μ' RX10 n) (hrm : ax_rmle μ' μ = true) (d : ax_D μ.2.1 pc (.invokevirtual ix) 3 nx) (As rest : List Value) (av : (Nat → Nat) → List Value) (hav : av adR = .ref (adR 0) :: As) (hn : As.length = n) (hst : st = As.reverse ++ .ref (adR 0) :: rest) (hw : Nat.ble ((rest.map fun v => v.category).sum) 8 = true) (hce : ce ≤ cl) (hso : so ≤ sl) (r : Int64) (x' : ax_S) (hm : ax_M cx_R μ' av y (some (.long r)) x') (k : cn_At V nx lv (.long r :: rest) (cn_W V adC adR x x') ce so) : cn_At V pc lv st (cn_W V adC adR x y) ce so := by
  obtain ⟨⟨p, l, e, R, s, m, args, below, meth, c⟩, ⟨D, cI, cJ, cZ⟩, A, Q⟩ := V
  obtain ⟨d, rfl⟩ := d
  have hR := hV.2.2.2.2.2.2.2.2.2
  subst hR
  intro H locs ls hP hD hS hl
  have hPc : va_P D cx_cls (ax_ws cx_R.1 (D, adR, cI, cJ, cZ) y) H := (cn_P_app.mp hP).2
  have hnd : cn_nd (ax_ws cx_C.1 (D, adC, cI, cJ, cZ) x ++ ax_ws cx_R.1 (D, adR, cI, cJ, cZ) y) := (cn_D_nd hD).1
  have hinj : ax_inj cx_R.1 (D, adR, cI, cJ, cZ) := cn_inj (A := A) (cn_nd_app.mp hnd).2.1
  have hA' : ∀ q, ax_A cx_R.1 (D, adR, cI, cJ, cZ) q → A q := fun q hq => by
    obtain ⟨e0, he⟩ := cn_A_mem (x := y) hq
    exact (cn_D_nd hD).2 (q, e0) (List.mem_append_right _ he)
  have hm' : Met l μ'.1 (ax_w μ') (ax_rm μ') (va_Pc (av adR) (fun U => va_P D cx_cls (ax_ws cx_R.1 (D, adR, cI, cJ, cZ) y) U.heap ∧ ax_U cx_R (D, adR, cI, cJ, cZ) U)) (va_Ql (fun y (_ : Unit) => y = r) (fun _ t => va_P D cx_cls (ax_ws cx_R.1 (D, adR, cI, cJ, cZ) x') t.heap) (ax_A cx_R.1 (D, adR, cI, cJ, cZ))) 0 0 (ax_A cx_R.1 (D, adR, cI, cJ, cZ)) := hm l (D, adR, cI, cJ, cZ) hinj
  have hrm := Bool.and_eq_true _ _ ▸ hrm
  refine va_calll (va_runV (As := As) (rest := rest) (b := adR 0) ⟨hV.1, hV.2.1, rfl, hV.2.2.2.1, hV.2.2.2.2.1⟩ hm' (cwV n hV.2.2.2.2.1 hlk.1 rfl rfl rfl ⟨hlk.2.1, hlk.2.2⟩ ⟨Nat.le_of_ble_eq_true hrm.1, Nat.le_of_ble_eq_true hrm.2⟩) ⟨ax_blind (Sd := cx_R) (G := (D, adR, cI, cJ, cZ)), va_recv (ci := 9) (q0 := 0) (a := adR 0) hV.2.2.2.2.2.1 hPc rfl (ax_ws_get (L := cx_R.1) (G := (D, adR, cI, cJ, cZ)) (s := y) (k := 0) rfl), fun U hU hW => ⟨?_, ?_, va_K.moved hW.alike hV.2.2.2.2.2.1, ?_⟩⟩ rfl hn hl.1 hst (lv_room (Nat.le_of_ble_eq_true hw)) d ⟨hce, hso⟩) hS (fun q _ h => hA' q h) hA' (fun r' u t H1 locs1 ht hvm hpost hB hsz hk hS1 => ?_)
  · exact congrArg List.toArray hav.symm
  · rw [hU]; exact hPc
  · exact fun z hz => absurd hz (by simp [cx_R])
  · have hpost : r' = r := hpost
    subst hpost
    have hB : va_P D cx_cls (ax_ws cx_R.1 (D, adR, cI, cJ, cZ) x') t.heap := hB
    rw [ht] at hB
    obtain ⟨hP2, hD2⟩ := cn_back hP hD hk (fun q hq h => by
      obtain ⟨e0, he⟩ := cn_A_mem (x := y) h
      exact (cn_nd_app.mp hnd).2.2 q hq _ he rfl) hB (ax_D_of hinj x') (fun q hq => hA' _ (cn_mem_A hq))
    exact k H1 locs1 ls hP2 hD2 hS1 hl
def mu_law : ax_Mu := (x, code, 4, ret, 10, 368)
theorem cn_lret {V : cn_V} {pc : Nat} {lv : List (Option Value)} {ws : va_W} {b : Nat} {p : Program} {l : Launch} {e : Env} {s : State} {m : MethodId} {below : List Frame} {meth : Method} {c : Code} {D4 : va_G × ClassId × ClassId × ClassId} (hVe : V = ((p, l, e, room_1, s, m, #[Value.ref b], below, meth, c), D4, (fun q => s.heap.size ≤ q), lw_Z below #[Value.ref b] s)) (hV : cn_ok V mu_law 67 14394) (d : decode code pc = .ok (.ireturn, 1)) : cn_At V pc lv [.int 1] ws 67 14394 := by
  subst hVe
  obtain ⟨D, cI, cJ, cZ⟩ := D4
  intro H locs ls hP hD hS hl
  refine va_forget hS.2.2 ?_
  exact lw_ret hV.1 hV.2.1 hV.2.2.2.2.2.2.2.1 hV.2.2.2.2.2.2.2.2.1 d
theorem cn_callI {V : cn_V} {μ : ax_Mu} {cl sl : Nat} (hV : cn_ok V μ cl sl) {pc nx : Nat} {lv : List (Option Value)} {st : List Value} {ws : va_W} {ce so : Nat} {μ' : ax_Mu} {cl' sl' : Nat} {NL' : cn_N} {ci ix : Nat} {fs0 : List Value} {Lc : ax_L} {s0 : ax_S} (hm : cn_M μ' cl' sl' NL' ci fs0 Lc s0) (hNL : cn_nw NL' V.1.2.2.2.2.1) (hl1 : Cond.methodLink μ.1.cls ix μ'.1 ∈ ax_tb) (hi : Cond.instanceMethod μ'.1 ∈ ax_tb) (hini : Cond.initialized μ'.1.cls ∈ ax_tb) (hcode : Cond.code μ'.1 μ'.2.1 μ'.2.2.1 μ'.2.2.2.1 ∈ ax_tb) (hret : μ'.2.2.2.1 = none) (hnam : ax_nam μ' 0) (hname : μ'.1.name = "<init>") (hrm : ax_rmle μ' μ = true) (hce : ce + cl' ≤ cl) (hso : so + sl' ≤ sl) (d : ax_D μ.2.1 pc (.invokespecial ix) 3 nx) {b : Nat} (hst : Nat.ble ((st.map fun v => v.category).sum) 8 = true)
    (k : ∀ ad : Nat → Nat, ad 0 = b → cn_At V nx lv st (ws ++ ax_ws Lc (cn_G V ad) s0) (ce + cl') (so + sl')) : cn_At V pc lv (.ref b :: st) (ws ++ [(b, .inr (ci, fs0))]) ce so := by
  obtain ⟨⟨p, l, e, R, s, m, args, below, meth, c⟩, ⟨D, cI, cJ, cZ⟩, A, Q⟩ := V
  obtain ⟨d, rfl⟩ := d
  have hR := hV.2.2.2.2.2.2.2.2.2
  subst hR
  intro H locs ls hP hD hS hl
  have hPc := (cn_P_app.mp hP).2
  have hA' : ∀ q, cn_A b H.size q → A q := fun q hq => by
    rcases hq with rfl | hq
    · exact (cn_D_nd hD).2 (q, .inr (ci, fs0)) (by simp)
    · exact hV.2.2.2.2.2.2.1 q (Nat.le_trans hS.1 hq)
  have hw : ax_w μ' = Cond.code μ'.1 μ'.2.1 μ'.2.2.1 none :: ax_tb := by simp only [ax_w, hret]
  have hrm := Bool.and_eq_true _ _ ▸ hrm
  refine va_callv (va_runI (As := []) (rest := st) ⟨hV.1, hV.2.1, rfl, hV.2.2.2.1, hV.2.2.2.2.1⟩ (hm l D cI cJ cZ b H.size) (cwI 0 hV.2.2.2.2.1 (ax_goodw hcode) hw rfl rfl (hV.2.2.2.2.1 _ hini) (hV.2.2.2.2.1 _ hl1) (hV.2.2.2.2.1 _ hi) hname hnam ⟨Nat.le_of_ble_eq_true hrm.1, Nat.le_of_ble_eq_true hrm.2⟩) ⟨cn_blind, fun U hU hW => ⟨rfl, by rw [hU], by rw [hU]; exact hPc, va_K.moved hW.alike hV.2.2.2.2.2.1, fun q hq => va_Nw.warmM hW (hNL q hq)⟩⟩ rfl rfl hl.1 rfl (lv_room (Nat.le_of_ble_eq_true hst)) d ⟨hce, hso⟩) hS (fun q _ h => hA' q h) hA' (fun ad t H1 locs1 ht hvm hpost hB hsz hk hS1 => ?_)
  have hB1 := hB.1
  rw [ht] at hB1
  obtain ⟨hP2, hD2⟩ := cn_back hP hD hk (fun q hq h => by
    rcases h with h | h
    · exact (cn_nd_app.mp (cn_D_nd hD).1).2.2 q hq (b, .inr (ci, fs0)) (by simp) h.symm
    · exact absurd (cn_at_lt (cn_P_app.mp hP).1 hq) (Nat.not_lt.mpr h)) hB1 hB.2 (fun q hq => hA' _ ((cn_D_nd hB.2).2 q hq))
  exact k ad hpost H1 locs1 ls hP2 hD2 hS1 hl

abbrev cn_V : Type := ax_K × (va_G × ClassId × ClassId × ClassId) × (Nat → Prop) × (State → Prop)
def cn_tys (cI cJ cZ : ClassId) : List (ClassId × FieldType) := [(cI, .int), (cJ, .long), (cZ, .boolean)]
def cn_ok (V : cn_V) (μ : ax_Mu) (cl sl : Nat) : Prop := match V with
  | ((p, _, _, R, s, m, args, _, meth, c), (D, cI, cJ, cZ), A, _) => p.tables.exec = Jvm.exec ∧ c.code = μ.2.1 ∧ c.maxLocals = μ.2.2.1 ∧ s.vm.findClass μ.1.cls = some m.cls ∧ (∀ w ∈ ax_tb, w.before args s = true) ∧ va_K D cx_cls (cn_tys cI cJ cZ) s ∧ (∀ q, s.heap.size ≤ q → A q) ∧ meth.sig.returnType = μ.2.2.2.1 ∧ meth.locks = false ∧ R = { frames := μ.2.2.2.2.1, cells := cl, slots := sl, locals := μ.2.2.2.2.2 }
def cn_At (V : cn_V) (pc : Nat) (lv : List (Option Value)) (st : List Value) (ws : va_W) (ce so : Nat) : Prop := match V with
  | ((p, l, e, R, s, m, args, below, meth, c), (D, _, _, _), A, Q) => ∀ (H : Heap) (locs : List Loc) (ls : Array Slot), va_P D cx_cls ws H → va_D A ws → va_S A s.heap H locs → ax_lv ls c.maxLocals lv → W p l e R s m args below meth c H locs ce so Q (F0 m pc ls st)
theorem cn_iconst {V : cn_V} {μ : ax_Mu} {cl sl : Nat} (hV : cn_ok V μ cl sl) {pc nx : Nat} {lv : List (Option Value)} {st : List Value} {ws : va_W} {ce so : Nat} {n : Int} (v : Int32) (d : ax_D μ.2.1 pc (.iconst n) 1 nx) (hv : Int32.ofInt n = v) (k : cn_At V nx lv (.int v :: st) ws ce so) : cn_At V pc lv (st) ws ce so := by
  obtain ⟨⟨p, l, e, R, s, m, args, below, meth, c⟩, ⟨D, cI, cJ, cZ⟩, A, Q⟩ := V
  obtain ⟨d, rfl⟩ := d
  intro H locs ls hP hD hS hl
  exact lv_iconst hV.1 hV.2.1 d hv (k H locs ls hP hD hS hl)
theorem cn_bipush {V : cn_V} {μ : ax_Mu} {cl sl : Nat} (hV : cn_ok V μ cl sl) {pc nx : Nat} {lv : List (Option Value)} {st : List Value} {ws : va_W} {ce so : Nat} {n : Int} (v : Int32) (d : ax_D μ.2.1 pc (.bipush n) 2 nx) (hv : (Int8.ofInt n).toInt32 = v) (k : cn_At V nx lv (.int v :: st) ws ce so) : cn_At V pc lv (st) ws ce so := by
  obtain ⟨⟨p, l, e, R, s, m, args, below, meth, c⟩, ⟨D, cI, cJ, cZ⟩, A, Q⟩ := V
  obtain ⟨d, rfl⟩ := d
  intro H locs ls hP hD hS hl
  exact lv_bipush hV.1 hV.2.1 d hv (k H locs ls hP hD hS hl)
theorem cn_sipush {V : cn_V} {μ : ax_Mu} {cl sl : Nat} (hV : cn_ok V μ cl sl) {pc nx : Nat} {lv : List (Option Value)} {st : List Value} {ws : va_W} {ce so : Nat} {n : Int} (v : Int32) (d : ax_D μ.2.1 pc (.sipush n) 3 nx) (hv : (Int16.ofInt n).toInt32 = v) (k : cn_At V nx lv (.int v :: st) ws ce so) : cn_At V pc lv (st) ws ce so := by
  obtain ⟨⟨p, l, e, R, s, m, args, below, meth, c⟩, ⟨D, cI, cJ, cZ⟩, A, Q⟩ := V
  obtain ⟨d, rfl⟩ := d
  intro H locs ls hP hD hS hl
  exact lv_sipush hV.1 hV.2.1 d hv (k H locs ls hP hD hS hl)
theorem cn_lconst {V : cn_V} {μ : ax_Mu} {cl sl : Nat} (hV : cn_ok V μ cl sl) {pc nx : Nat} {lv : List (Option Value)} {st : List Value} {ws : va_W} {ce so : Nat} {n : Fin 2} (v : Int64) (d : ax_D μ.2.1 pc (.lconst n) 1 nx) (hv : Int64.ofNat (n : Nat) = v) (k : cn_At V nx lv (.long v :: st) ws ce so) : cn_At V pc lv (st) ws ce so := by
  obtain ⟨⟨p, l, e, R, s, m, args, below, meth, c⟩, ⟨D, cI, cJ, cZ⟩, A, Q⟩ := V
  obtain ⟨d, rfl⟩ := d
  intro H locs ls hP hD hS hl
  exact lv_lconst hV.1 hV.2.1 d hv (k H locs ls hP hD hS hl)
theorem cn_ldc2 {V : cn_V} {μ : ax_Mu} {cl sl : Nat} (hV : cn_ok V μ cl sl) {pc nx : Nat} {lv : List (Option Value)} {st : List Value} {ws : va_W} {ce so : Nat} {ix : Nat} {v : Int64} (hc : Cond.constantLong μ.1.cls ix v ∈ ax_tb) (d : ax_D μ.2.1 pc (.ldc2_w ix) 3 nx) (k : cn_At V nx lv (.long v :: st) ws ce so) : cn_At V pc lv (st) ws ce so := by
  obtain ⟨⟨p, l, e, R, s, m, args, below, meth, c⟩, ⟨D, cI, cJ, cZ⟩, A, Q⟩ := V
  obtain ⟨d, rfl⟩ := d
  intro H locs ls hP hD hS hl
  exact lv_ldc2 hV.1 hV.2.1 hV.2.2.2.1 (hV.2.2.2.2.1 _ hc) d (k H locs ls hP hD hS hl)
theorem cn_iload_n {V : cn_V} {μ : ax_Mu} {cl sl : Nat} (hV : cn_ok V μ cl sl) {pc nx : Nat} {lv : List (Option Value)} {st : List Value} {ws : va_W} {ce so : Nat} {k0 : Fin 4} {a : Int32} (d : ax_D μ.2.1 pc (.iload_n k0) 1 nx) (hi : lv[(k0 : Nat)]? = some (some (.int a))) (k : cn_At V nx lv (.int a :: st) ws ce so) : cn_At V pc lv (st) ws ce so := by
  obtain ⟨⟨p, l, e, R, s, m, args, below, meth, c⟩, ⟨D, cI, cJ, cZ⟩, A, Q⟩ := V
  obtain ⟨d, rfl⟩ := d
  intro H locs ls hP hD hS hl
  exact lv_iload_n hV.1 hV.2.1 d rfl (hl.2.2 _ _ hi) (k H locs ls hP hD hS hl)
theorem cn_aload_n {V : cn_V} {μ : ax_Mu} {cl sl : Nat} (hV : cn_ok V μ cl sl) {pc nx : Nat} {lv : List (Option Value)} {st : List Value} {ws : va_W} {ce so : Nat} {k0 : Fin 4} {a : Nat} (d : ax_D μ.2.1 pc (.aload_n k0) 1 nx) (hi : lv[(k0 : Nat)]? = some (some (.ref a))) (k : cn_At V nx lv (.ref a :: st) ws ce so) : cn_At V pc lv (st) ws ce so := by
  obtain ⟨⟨p, l, e, R, s, m, args, below, meth, c⟩, ⟨D, cI, cJ, cZ⟩, A, Q⟩ := V
  obtain ⟨d, rfl⟩ := d
  intro H locs ls hP hD hS hl
  exact lv_aload_n hV.1 hV.2.1 d rfl (hl.2.2 _ _ hi) (k H locs ls hP hD hS hl)
theorem cn_istore_n {V : cn_V} {μ : ax_Mu} {cl sl : Nat} (hV : cn_ok V μ cl sl) {pc nx : Nat} {lv : List (Option Value)} {st : List Value} {ws : va_W} {ce so : Nat} {k0 : Fin 4} {a : Int32} (lv' : List (Option Value)) (d : ax_D μ.2.1 pc (.istore_n k0) 1 nx) (hs : (lv.set (k0 : Nat) (some (.int a))) = lv') (hc : (ax_ok1 lv (k0 : Nat) && Nat.blt ((k0 : Nat) + 0) μ.2.2.1) = true) (k : cn_At V nx lv' st ws ce so) : cn_At V pc lv (.int a :: st) ws ce so := by
  obtain ⟨⟨p, l, e, R, s, m, args, below, meth, c⟩, ⟨D, cI, cJ, cZ⟩, A, Q⟩ := V
  obtain ⟨d, rfl⟩ := d
  subst hs
  rw [Bool.and_eq_true] at hc
  intro H locs ls hP hD hS hl
  refine lv_istore_n hV.1 hV.2.1 d rfl (ax_lv_has hl) ?_ rfl (fun ls' hl' => k H locs ls' hP hD hS (ax_lv_st1 hc.1 hl'))
  have := Nat.le_of_ble_eq_true hc.2
  rw [show c.maxLocals = μ.2.2.1 from hV.2.2.1]
  omega
theorem cn_astore_n {V : cn_V} {μ : ax_Mu} {cl sl : Nat} (hV : cn_ok V μ cl sl) {pc nx : Nat} {lv : List (Option Value)} {st : List Value} {ws : va_W} {ce so : Nat} {k0 : Fin 4} {a : Nat} (lv' : List (Option Value)) (d : ax_D μ.2.1 pc (.astore_n k0) 1 nx) (hs : (lv.set (k0 : Nat) (some (.ref a))) = lv') (hc : (ax_ok1 lv (k0 : Nat) && Nat.blt ((k0 : Nat) + 0) μ.2.2.1) = true) (k : cn_At V nx lv' st ws ce so) : cn_At V pc lv (.ref a :: st) ws ce so := by
  obtain ⟨⟨p, l, e, R, s, m, args, below, meth, c⟩, ⟨D, cI, cJ, cZ⟩, A, Q⟩ := V
  obtain ⟨d, rfl⟩ := d
  subst hs
  rw [Bool.and_eq_true] at hc
  intro H locs ls hP hD hS hl
  refine lv_astore_n hV.1 hV.2.1 d rfl (ax_lv_has hl) ?_ rfl (fun ls' hl' => k H locs ls' hP hD hS (ax_lv_st1 hc.1 hl'))
  have := Nat.le_of_ble_eq_true hc.2
  rw [show c.maxLocals = μ.2.2.1 from hV.2.2.1]
  omega
theorem cn_iinc {V : cn_V} {μ : ax_Mu} {cl sl : Nat} (hV : cn_ok V μ cl sl) {pc nx : Nat} {lv : List (Option Value)} {st : List Value} {ws : va_W} {ce so : Nat} {i : Nat} {n : Int} {a : Int32} (b : Int32) (lv' : List (Option Value)) (d : ax_D μ.2.1 pc (.iinc i n) 3 nx) (hi : lv[i]? = some (some (.int a))) (hv : a + Int32.ofInt n = b) (hs : lv.set i (some (.int b)) = lv') (hc : (ax_ok1 lv i && Nat.blt (i + 0) μ.2.2.1) = true) (k : cn_At V nx lv' st ws ce so) : cn_At V pc lv st ws ce so := by
  obtain ⟨⟨p, l, e, R, s, m, args, below, meth, c⟩, ⟨D, cI, cJ, cZ⟩, A, Q⟩ := V
  obtain ⟨d, rfl⟩ := d
  subst hs
  rw [Bool.and_eq_true] at hc
  intro H locs ls hP hD hS hl
  obtain ⟨j, hj⟩ := List.getElem?_of_mem (ax_as_mem.mpr (show lv[((i, Value.int a) : Nat × Value).1]? = some (some (i, Value.int a).2) from hi))
  refine lv_iinc hV.1 hV.2.1 d (ax_lv_has hl) hj hv ?_ rfl (fun ls' hl' => k H locs ls' hP hD hS (ax_lv_st1 hc.1 hl'))
  have := Nat.le_of_ble_eq_true hc.2
  rw [show c.maxLocals = μ.2.2.1 from hV.2.2.1]
  omega
theorem cn_iadd {V : cn_V} {μ : ax_Mu} {cl sl : Nat} (hV : cn_ok V μ cl sl) {pc nx : Nat} {lv : List (Option Value)} {st : List Value} {ws : va_W} {ce so : Nat} {a b : Int32} (d : ax_D μ.2.1 pc (.iadd) 1 nx) (k : cn_At V nx lv (.int (a + b) :: st) ws ce so) : cn_At V pc lv (.int b :: .int a :: st) ws ce so := by
  obtain ⟨⟨p, l, e, R, s, m, args, below, meth, c⟩, ⟨D, cI, cJ, cZ⟩, A, Q⟩ := V
  obtain ⟨d, rfl⟩ := d
  intro H locs ls hP hD hS hl
  exact lv_iadd hV.1 hV.2.1 d (k H locs ls hP hD hS hl)
theorem cn_isub {V : cn_V} {μ : ax_Mu} {cl sl : Nat} (hV : cn_ok V μ cl sl) {pc nx : Nat} {lv : List (Option Value)} {st : List Value} {ws : va_W} {ce so : Nat} {a b : Int32} (d : ax_D μ.2.1 pc (.isub) 1 nx) (k : cn_At V nx lv (.int (a - b) :: st) ws ce so) : cn_At V pc lv (.int b :: .int a :: st) ws ce so := by
  obtain ⟨⟨p, l, e, R, s, m, args, below, meth, c⟩, ⟨D, cI, cJ, cZ⟩, A, Q⟩ := V
  obtain ⟨d, rfl⟩ := d
  intro H locs ls hP hD hS hl
  exact lv_isub hV.1 hV.2.1 d (k H locs ls hP hD hS hl)
theorem cn_iand {V : cn_V} {μ : ax_Mu} {cl sl : Nat} (hV : cn_ok V μ cl sl) {pc nx : Nat} {lv : List (Option Value)} {st : List Value} {ws : va_W} {ce so : Nat} {a b : Int32} (d : ax_D μ.2.1 pc (.iand) 1 nx) (k : cn_At V nx lv (.int (a &&& b) :: st) ws ce so) : cn_At V pc lv (.int b :: .int a :: st) ws ce so := by
  obtain ⟨⟨p, l, e, R, s, m, args, below, meth, c⟩, ⟨D, cI, cJ, cZ⟩, A, Q⟩ := V
  obtain ⟨d, rfl⟩ := d
  intro H locs ls hP hD hS hl
  exact lv_iand hV.1 hV.2.1 d (k H locs ls hP hD hS hl)
theorem cn_land {V : cn_V} {μ : ax_Mu} {cl sl : Nat} (hV : cn_ok V μ cl sl) {pc nx : Nat} {lv : List (Option Value)} {st : List Value} {ws : va_W} {ce so : Nat} {a b : Int64} (d : ax_D μ.2.1 pc (.land) 1 nx) (k : cn_At V nx lv (.long (a &&& b) :: st) ws ce so) : cn_At V pc lv (.long b :: .long a :: st) ws ce so := by
  obtain ⟨⟨p, l, e, R, s, m, args, below, meth, c⟩, ⟨D, cI, cJ, cZ⟩, A, Q⟩ := V
  obtain ⟨d, rfl⟩ := d
  intro H locs ls hP hD hS hl
  exact lv_land hV.1 hV.2.1 d (k H locs ls hP hD hS hl)
theorem cn_lor {V : cn_V} {μ : ax_Mu} {cl sl : Nat} (hV : cn_ok V μ cl sl) {pc nx : Nat} {lv : List (Option Value)} {st : List Value} {ws : va_W} {ce so : Nat} {a b : Int64} (d : ax_D μ.2.1 pc (.lor) 1 nx) (k : cn_At V nx lv (.long (a ||| b) :: st) ws ce so) : cn_At V pc lv (.long b :: .long a :: st) ws ce so := by
  obtain ⟨⟨p, l, e, R, s, m, args, below, meth, c⟩, ⟨D, cI, cJ, cZ⟩, A, Q⟩ := V
  obtain ⟨d, rfl⟩ := d
  intro H locs ls hP hD hS hl
  exact lv_lor hV.1 hV.2.1 d (k H locs ls hP hD hS hl)
theorem cn_lshl_ {V : cn_V} {μ : ax_Mu} {cl sl : Nat} (hV : cn_ok V μ cl sl) {pc nx : Nat} {lv : List (Option Value)} {st : List Value} {ws : va_W} {ce so : Nat} {a : Int64} {b : Int32} (d : ax_D μ.2.1 pc (.lshl) 1 nx) (k : cn_At V nx lv (.long (ax_lshl a b) :: st) ws ce so) : cn_At V pc lv (.int b :: .long a :: st) ws ce so := by
  obtain ⟨⟨p, l, e, R, s, m, args, below, meth, c⟩, ⟨D, cI, cJ, cZ⟩, A, Q⟩ := V
  obtain ⟨d, rfl⟩ := d
  intro H locs ls hP hD hS hl
  exact lv_lshl hV.1 hV.2.1 d rfl (k H locs ls hP hD hS hl)
theorem cn_i2l {V : cn_V} {μ : ax_Mu} {cl sl : Nat} (hV : cn_ok V μ cl sl) {pc nx : Nat} {lv : List (Option Value)} {st : List Value} {ws : va_W} {ce so : Nat} {a : Int32} (d : ax_D μ.2.1 pc (.i2l) 1 nx) (k : cn_At V nx lv (.long a.toInt64 :: st) ws ce so) : cn_At V pc lv (.int a :: st) ws ce so := by
  obtain ⟨⟨p, l, e, R, s, m, args, below, meth, c⟩, ⟨D, cI, cJ, cZ⟩, A, Q⟩ := V
  obtain ⟨d, rfl⟩ := d
  intro H locs ls hP hD hS hl
  exact lv_i2l hV.1 hV.2.1 d rfl (k H locs ls hP hD hS hl)
theorem cn_lcmp {V : cn_V} {μ : ax_Mu} {cl sl : Nat} (hV : cn_ok V μ cl sl) {pc nx : Nat} {lv : List (Option Value)} {st : List Value} {ws : va_W} {ce so : Nat} {a b : Int64} (d : ax_D μ.2.1 pc (.lcmp) 1 nx) (k : cn_At V nx lv (.int (lg_cmp a b) :: st) ws ce so) : cn_At V pc lv (.long b :: .long a :: st) ws ce so := by
  obtain ⟨⟨p, l, e, R, s, m, args, below, meth, c⟩, ⟨D, cI, cJ, cZ⟩, A, Q⟩ := V
  obtain ⟨d, rfl⟩ := d
  intro H locs ls hP hD hS hl
  exact W.lcmp hV.1 hV.2.1 d (k H locs ls hP hD hS hl)
theorem cn_dup {V : cn_V} {μ : ax_Mu} {cl sl : Nat} (hV : cn_ok V μ cl sl) {pc nx : Nat} {lv : List (Option Value)} {st : List Value} {ws : va_W} {ce so : Nat} {va : Value} (d : ax_D μ.2.1 pc (.dup) 1 nx) (hva : va.category = 1) (k : cn_At V nx lv (va :: va :: st) ws ce so) : cn_At V pc lv (va :: st) ws ce so := by
  obtain ⟨⟨p, l, e, R, s, m, args, below, meth, c⟩, ⟨D, cI, cJ, cZ⟩, A, Q⟩ := V
  obtain ⟨d, rfl⟩ := d
  intro H locs ls hP hD hS hl
  exact lv_dup hV.1 hV.2.1 d hva (k H locs ls hP hD hS hl)
theorem cn_icmp_eq {V : cn_V} {μ : ax_Mu} {cl sl : Nat} (hV : cn_ok V μ cl sl) {pc nx : Nat} {lv : List (Option Value)} {st : List Value} {ws : va_W} {ce so : Nat} {tgt : Nat} {a b : Int32} (d : ax_B μ.2.1 pc (.if_icmp .eq) nx tgt) (k1 : a = b → cn_At V tgt lv st ws ce so) (k2 : ¬ a = b → cn_At V nx lv st ws ce so) : cn_At V pc lv (.int b :: .int a :: st) ws ce so := by
  obtain ⟨⟨p, l, e, R, s, m, args, below, meth, c⟩, ⟨D, cI, cJ, cZ⟩, A, Q⟩ := V
  obtain ⟨off, d, rfl, ht⟩ := d
  intro H locs ls hP hD hS hl
  exact lv_icmp_eq hV.1 hV.2.1 d ht (fun q => k1 q H locs ls hP hD hS hl) (fun q => k2 q H locs ls hP hD hS hl)
theorem cn_icmp_gt {V : cn_V} {μ : ax_Mu} {cl sl : Nat} (hV : cn_ok V μ cl sl) {pc nx : Nat} {lv : List (Option Value)} {st : List Value} {ws : va_W} {ce so : Nat} {tgt : Nat} {a b : Int32} (d : ax_B μ.2.1 pc (.if_icmp .gt) nx tgt) (k1 : b < a → cn_At V tgt lv st ws ce so) (k2 : ¬ b < a → cn_At V nx lv st ws ce so) : cn_At V pc lv (.int b :: .int a :: st) ws ce so := by
  obtain ⟨⟨p, l, e, R, s, m, args, below, meth, c⟩, ⟨D, cI, cJ, cZ⟩, A, Q⟩ := V
  obtain ⟨off, d, rfl, ht⟩ := d
  intro H locs ls hP hD hS hl
  exact lv_icmp_gt hV.1 hV.2.1 d ht (fun q => k1 q H locs ls hP hD hS hl) (fun q => k2 q H locs ls hP hD hS hl)
theorem cn_if_eq {V : cn_V} {μ : ax_Mu} {cl sl : Nat} (hV : cn_ok V μ cl sl) {pc nx : Nat} {lv : List (Option Value)} {st : List Value} {ws : va_W} {ce so : Nat} {tgt : Nat} {a : Int32} (d : ax_B μ.2.1 pc (.ifCond .eq) nx tgt) (k1 : a = 0 → cn_At V tgt lv st ws ce so) (k2 : ¬ a = 0 → cn_At V nx lv st ws ce so) : cn_At V pc lv (.int a :: st) ws ce so := by
  obtain ⟨⟨p, l, e, R, s, m, args, below, meth, c⟩, ⟨D, cI, cJ, cZ⟩, A, Q⟩ := V
  obtain ⟨off, d, rfl, ht⟩ := d
  intro H locs ls hP hD hS hl
  exact lv_if_eq hV.1 hV.2.1 d ht (fun q => k1 q H locs ls hP hD hS hl) (fun q => k2 q H locs ls hP hD hS hl)
theorem cn_goto {V : cn_V} {μ : ax_Mu} {cl sl : Nat} (hV : cn_ok V μ cl sl) {pc nx : Nat} {lv : List (Option Value)} {st : List Value} {ws : va_W} {ce so : Nat} {tgt : Nat} (d : ax_B μ.2.1 pc (.goto) nx tgt) (k : cn_At V tgt lv st ws ce so) : cn_At V pc lv st ws ce so := by
  obtain ⟨⟨p, l, e, R, s, m, args, below, meth, c⟩, ⟨D, cI, cJ, cZ⟩, A, Q⟩ := V
  obtain ⟨off, d, rfl, ht⟩ := d
  intro H locs ls hP hD hS hl
  exact lv_goto hV.1 hV.2.1 d ht (k H locs ls hP hD hS hl)
theorem cn_tsw {V : cn_V} {μ : ax_Mu} {cl sl : Nat} (hV : cn_ok V μ cl sl) {pc nx : Nat} {lv : List (Option Value)} {st : List Value} {ws : va_W} {ce so : Nat} {dflt hi : Int} {offs : Array Int} {len : Nat} {a : Int32} (i : Nat) (ha : a = Int32.ofNat i) {off : Int} {tgt : Nat} (d : ax_D μ.2.1 pc (.tableswitch dflt 0 hi offs) len nx) (ho : offs[i]? = some off) (ht : (pc : Int) + off = (tgt : Int)) (hi1 : (i : Int) ≤ hi) (hi2 : hi < 1000) (k : cn_At V tgt lv st ws ce so) : cn_At V pc lv (.int a :: st) ws ce so := by
  obtain ⟨⟨p, l, e, R, s, m, args, below, meth, c⟩, ⟨D, cI, cJ, cZ⟩, A, Q⟩ := V
  have d := d.1
  subst ha
  have hv : (Int32.ofNat i).toInt = (i : Int) := Int32.toInt_ofNat_of_lt (by omega)
  intro H locs ls hP hD hS hl
  exact lv_tableIn hV.1 hV.2.1 d (by rw [hv]; omega) (by rw [hv]; omega) (by rw [hv]; simpa using ho) ht (k H locs ls hP hD hS hl)
theorem cn_tswd {V : cn_V} {μ : ax_Mu} {cl sl : Nat} (hV : cn_ok V μ cl sl) {pc nx : Nat} {lv : List (Option Value)} {st : List Value} {ws : va_W} {ce so : Nat} {dflt hi : Int} {offs : Array Int} {len : Nat} {a : Int32} {n : Nat} (hn : ax_nk a n) {tgt : Nat} (d : ax_D μ.2.1 pc (.tableswitch dflt 0 hi offs) len nx) (ht : (pc : Int) + dflt = (tgt : Int)) (hh : hi + 1 = (n : Int)) (k : cn_At V tgt lv st ws ce so) : cn_At V pc lv (.int a :: st) ws ce so := by
  obtain ⟨⟨p, l, e, R, s, m, args, below, meth, c⟩, ⟨D, cI, cJ, cZ⟩, A, Q⟩ := V
  have d := d.1
  intro H locs ls hP hD hS hl
  refine lv_tableOut hV.1 hV.2.1 d ?_ ht (k H locs ls hP hD hS hl)
  by_cases h1 : a.toInt < 0
  · exact Or.inl h1
  · refine Or.inr ?_
    rcases Int.lt_or_le hi a.toInt with q | q
    · exact q
    · refine absurd ?_ (hn a.toInt.toNat (by omega))
      apply Int32.toInt_inj.mp
      have := a.toInt_lt
      rw [Int32.toInt_ofNat_of_lt (by omega)]
      omega
theorem cn_P_app {D : va_G} {cl : List vw_C} {a b : va_W} {H : Heap} : va_P D cl (a ++ b) H ↔ va_P D cl a H ∧ va_P D cl b H := by
  constructor
  · intro h
    refine ⟨fun k q hq => h k q ?_, fun k q hq => h (a.length + k) q ?_⟩
    · rw [List.getElem?_append_left (List.getElem?_eq_some_iff.mp hq).1]; exact hq
    · rw [List.getElem?_append_right (by omega)]; simpa using hq
  · intro h k q hq
    rcases List.mem_append.mp (List.mem_of_getElem? hq) with m | m
    · obtain ⟨i, hi⟩ := List.getElem?_of_mem m
      exact h.1 i q hi
    · obtain ⟨i, hi⟩ := List.getElem?_of_mem m
      exact h.2 i q hi
def cn_nd : va_W → Prop
  | [] => True
  | x :: ws => (∀ q ∈ ws, ¬ q.1 = x.1) ∧ cn_nd ws
theorem cn_D_of {A : Nat → Prop} {ws : va_W} (h : cn_nd ws) (hA : ∀ q ∈ ws, A q.1) : va_D A ws := by
  refine ⟨?_, fun k q hq => hA q (List.mem_of_getElem? hq)⟩
  clear hA
  induction ws with
  | nil => intro i j p q hp; simp at hp
  | cons x ws ih =>
    intro i j p q hp hq he
    match i, j with
    | 0, 0 => rfl
    | 0, j + 1 =>
      simp only [List.getElem?_cons_zero, Option.some.injEq] at hp
      subst hp
      exact absurd he.symm (h.1 q (List.mem_of_getElem? (by simpa using hq)))
    | i + 1, 0 =>
      simp only [List.getElem?_cons_zero, Option.some.injEq] at hq
      subst hq
      exact absurd he (h.1 p (List.mem_of_getElem? (by simpa using hp)))
    | i + 1, j + 1 => rw [ih h.2 i j p q (by simpa using hp) (by simpa using hq) he]
theorem cn_D_nd {A : Nat → Prop} {ws : va_W} (h : va_D A ws) : cn_nd ws ∧ ∀ q ∈ ws, A q.1 := by
  refine ⟨?_, fun q hq => by
    obtain ⟨i, hi⟩ := List.getElem?_of_mem hq
    exact h.2 i q hi⟩
  have h1 := h.1
  clear h
  induction ws with
  | nil => trivial
  | cons x ws ih =>
    refine ⟨fun q hq he => ?_, ih (fun i j p q hp hq he => ?_)⟩
    · obtain ⟨i, hi⟩ := List.getElem?_of_mem hq
      have := h1 (i + 1) 0 q x (by simpa using hi) rfl he
      omega
    · have := h1 (i + 1) (j + 1) p q (by simpa using hp) (by simpa using hq) he
      omega
theorem cn_nd_app {a b : va_W} : cn_nd (a ++ b) ↔ cn_nd a ∧ cn_nd b ∧ ∀ p ∈ a, ∀ q ∈ b, ¬ q.1 = p.1 := by
  induction a with
  | nil => simp [cn_nd]
  | cons x a ih =>
    simp only [List.cons_append, cn_nd, ih, List.mem_append, List.mem_cons]
    constructor
    · rintro ⟨h1, h2, h3, h4⟩
      refine ⟨⟨fun q hq => h1 q (Or.inl hq), h2⟩, h3, ?_⟩
      rintro p (rfl | hp) q hq
      · exact h1 q (Or.inr hq)
      · exact h4 p hp q hq
    · rintro ⟨⟨h1, h2⟩, h3, h4⟩
      refine ⟨?_, h2, h3, fun p hp => h4 p (Or.inr hp)⟩
      rintro q (hq | hq)
      · exact h1 q hq
      · exact h4 x (Or.inl rfl) q hq
theorem cn_at_lt {D : va_G} {cl : List vw_C} {ws : va_W} {H : Heap} (h : va_P D cl ws H) {q : Nat × va_E} (hq : q ∈ ws) : q.1 < H.size := by
  obtain ⟨i, hi⟩ := List.getElem?_of_mem hq
  exact (h i q hi).lt
theorem cn_P_kept {D : va_G} {cl : List vw_C} {ws : va_W} {H H1 : Heap} (h : va_P D cl ws H) (hk : ∀ q ∈ ws, H1[q.1]? = H[q.1]?) : va_P D cl ws H1 := fun k q hq => (h k q hq).kept (hk q (List.mem_of_getElem? hq))
/-- what comes back from a call beside what it did not touch -/
theorem cn_back {A A1 : Nat → Prop} {D : va_G} {wr wc w1 : va_W} {H H1 : Heap} (hP : va_P D cx_cls (wr ++ wc) H) (hD : va_D A (wr ++ wc)) (hk : ∀ q : Nat, q < H.size → ¬ A1 q → H1[q]? = H[q]?) (hr : ∀ q ∈ wr, ¬ A1 q.1) (hP1 : va_P D cx_cls w1 H1) (hD1 : va_D A1 w1) (hA : ∀ q ∈ w1, A q.1) : va_P D cx_cls (wr ++ w1) H1 ∧ va_D A (wr ++ w1) := by
  have hPr := (cn_P_app.mp hP).1
  obtain ⟨hn, ha⟩ := cn_D_nd hD
  obtain ⟨hn1, ha1⟩ := cn_D_nd hD1
  refine ⟨cn_P_app.mpr ⟨cn_P_kept hPr (fun q hq => hk q.1 (cn_at_lt hPr hq) (hr q hq)), hP1⟩, cn_D_of (cn_nd_app.mpr ⟨(cn_nd_app.mp hn).1, hn1, fun p hp q hq he => hr p hp (he ▸ ha1 q hq)⟩) (fun q hq => ?_)⟩
  rcases List.mem_append.mp hq with m | m
  · exact ha q (List.mem_append_left _ m)
  · exact hA q m
theorem cn_new {V : cn_V} {μ : ax_Mu} {cl sl : Nat} (hV : cn_ok V μ cl sl) {pc nx : Nat} {lv : List (Option Value)} {st : List Value} {ws : va_W} {ce so : Nat} {ix ci N : Nat} {C : String} {T : u_T} (d : ax_D μ.2.1 pc (.new ix) 3 nx) (hc : cx_cls[ci]? = some (C, T, N)) (hin : ∀ w ∈ u_ws C T N, w ∈ ax_tb) (ty : Nat → FieldType) (hty : ∀ k, k < N → parseFieldDescriptor (T k).2.2.1 = some (ty k)) (hcl : Cond.classLink μ.1.cls ix C ∈ ax_tb) (hinst : Cond.instantiable C N ∈ ax_tb) (hini : Cond.initialized C ∈ ax_tb) (fs : List Value) (hfs : ∀ j, j < N → defaultValue (ty j) = vp_V fs j) (hce : ce + 1 ≤ cl) (hso : so + N ≤ sl) (k : ∀ q : Nat, cn_At V nx lv (.ref q :: st) (ws ++ [(q, .inr (ci, fs))]) (ce + 1) (so + N)) : cn_At V pc lv st ws ce so := by
  obtain ⟨⟨p, l, e, R, s, m, args, below, meth, c⟩, ⟨D, cI, cJ, cZ⟩, A, Q⟩ := V
  obtain ⟨d, rfl⟩ := d
  have hR := hV.2.2.2.2.2.2.2.2.2
  subst hR
  intro H locs ls hP hD hS hl
  exact va_new (c0 := c) hV.1 hV.2.1 hV.2.2.2.2.1 hin ty hty hV.2.2.2.1 (hV.2.2.2.2.1 _ hcl) (hV.2.2.2.2.1 _ hinst) (hV.2.2.2.2.1 _ hini) hV.2.2.2.2.2.1 hP hD hS hV.2.2.2.2.2.2.1 hc hfs hce hso d (fun q H1 hP1 hD1 hS1 => k q H1 locs ls hP1 hD1 hS1 hl)
theorem cn_newI {V : cn_V} {μ : ax_Mu} {cl sl : Nat} (hV : cn_ok V μ cl sl) {pc nx : Nat} {lv : List (Option Value)} {st : List Value} {ws : va_W} {ce so : Nat} {n : Int32} (N : Nat) (hw : Cond.arrayClass .int ∈ ax_tb) (d : ax_D μ.2.1 pc (.newarray .int) 2 nx) (hn : ¬ n < 0) (hN : n.toNatClampNeg = N) (hbytes : N * componentBytes .int ≤ 536870912) (hce : ce + 1 ≤ cl) (hso : so + N ≤ sl) (k : ∀ q : Nat, cn_At V nx lv (.ref q :: st) (ws ++ [(q, .inl (V.2.1.2.1, N, .inl (fun _ => (0 : Int32))))]) (ce + 1) (so + N)) : cn_At V pc lv (.int n :: st) ws ce so := by
  obtain ⟨⟨p, l, e, R, s, m, args, below, meth, c⟩, ⟨D, cI, cJ, cZ⟩, A, Q⟩ := V
  obtain ⟨d, rfl⟩ := d
  have hR := hV.2.2.2.2.2.2.2.2.2
  subst hR
  intro H locs ls hP hD hS hl
  refine va_newa (atype := .int) (ty := .int) (a0 := (N, .inl (fun _ => (0 : Int32)))) hV.1 hV.2.1 (hV.2.2.2.2.1 _ hw) rfl hV.2.2.2.2.2.1 hP hD hS hV.2.2.2.2.2.2.1 (fun cA => by
    first | rfl | simp [vp_cell, arrV, defaultValue]) hn hN hbytes hce hso d (fun q cA H1 hK1 hP1 hD1 hS1 => ?_)
  have e1 : va_RA s cA .int := (hK1.2 3 (cA, .int) rfl).2
  have e2 : va_RA s cI .int := (hV.2.2.2.2.2.1.2 0 (cI, .int) rfl).2
  have e3 : cA = cI := Option.some.inj (Eq.trans (Eq.symm e1) e2)
  subst e3
  exact k q H1 locs ls hP1 hD1 hS1 hl
theorem cn_newJ {V : cn_V} {μ : ax_Mu} {cl sl : Nat} (hV : cn_ok V μ cl sl) {pc nx : Nat} {lv : List (Option Value)} {st : List Value} {ws : va_W} {ce so : Nat} {n : Int32} (N : Nat) (hw : Cond.arrayClass .long ∈ ax_tb) (d : ax_D μ.2.1 pc (.newarray .long) 2 nx) (hn : ¬ n < 0) (hN : n.toNatClampNeg = N) (hbytes : N * componentBytes .long ≤ 536870912) (hce : ce + 1 ≤ cl) (hso : so + N ≤ sl) (k : ∀ q : Nat, cn_At V nx lv (.ref q :: st) (ws ++ [(q, .inl (V.2.1.2.2.1, N, .inr (.inl (fun _ => (0 : Int64)))))]) (ce + 1) (so + N)) : cn_At V pc lv (.int n :: st) ws ce so := by
  obtain ⟨⟨p, l, e, R, s, m, args, below, meth, c⟩, ⟨D, cI, cJ, cZ⟩, A, Q⟩ := V
  obtain ⟨d, rfl⟩ := d
  have hR := hV.2.2.2.2.2.2.2.2.2
  subst hR
  intro H locs ls hP hD hS hl
  refine va_newa (atype := .long) (ty := .long) (a0 := (N, .inr (.inl (fun _ => (0 : Int64))))) hV.1 hV.2.1 (hV.2.2.2.2.1 _ hw) rfl hV.2.2.2.2.2.1 hP hD hS hV.2.2.2.2.2.2.1 (fun cA => by
    first | rfl | simp [vp_cell, arrV, defaultValue]) hn hN hbytes hce hso d (fun q cA H1 hK1 hP1 hD1 hS1 => ?_)
  have e1 : va_RA s cA .long := (hK1.2 3 (cA, .long) rfl).2
  have e2 : va_RA s cJ .long := (hV.2.2.2.2.2.1.2 1 (cJ, .long) rfl).2
  have e3 : cA = cJ := Option.some.inj (Eq.trans (Eq.symm e1) e2)
  subst e3
  exact k q H1 locs ls hP1 hD1 hS1 hl
theorem cn_newZ {V : cn_V} {μ : ax_Mu} {cl sl : Nat} (hV : cn_ok V μ cl sl) {pc nx : Nat} {lv : List (Option Value)} {st : List Value} {ws : va_W} {ce so : Nat} {n : Int32} (N : Nat) (hw : Cond.arrayClass .boolean ∈ ax_tb) (d : ax_D μ.2.1 pc (.newarray .boolean) 2 nx) (hn : ¬ n < 0) (hN : n.toNatClampNeg = N) (hbytes : N * componentBytes .boolean ≤ 536870912) (hce : ce + 1 ≤ cl) (hso : so + N ≤ sl) (k : ∀ q : Nat, cn_At V nx lv (.ref q :: st) (ws ++ [(q, .inl (V.2.1.2.2.2, N, .inl (fun _ => (0 : Int32))))]) (ce + 1) (so + N)) : cn_At V pc lv (.int n :: st) ws ce so := by
  obtain ⟨⟨p, l, e, R, s, m, args, below, meth, c⟩, ⟨D, cI, cJ, cZ⟩, A, Q⟩ := V
  obtain ⟨d, rfl⟩ := d
  have hR := hV.2.2.2.2.2.2.2.2.2
  subst hR
  intro H locs ls hP hD hS hl
  refine va_newa (atype := .boolean) (ty := .boolean) (a0 := (N, .inl (fun _ => (0 : Int32)))) hV.1 hV.2.1 (hV.2.2.2.2.1 _ hw) rfl hV.2.2.2.2.2.1 hP hD hS hV.2.2.2.2.2.2.1 (fun cA => by
    first | rfl | simp [vp_cell, arrV, defaultValue]) hn hN hbytes hce hso d (fun q cA H1 hK1 hP1 hD1 hS1 => ?_)
  have e1 : va_RA s cA .boolean := (hK1.2 3 (cA, .boolean) rfl).2
  have e2 : va_RA s cZ .boolean := (hV.2.2.2.2.2.1.2 2 (cZ, .boolean) rfl).2
  have e3 : cA = cZ := Option.some.inj (Eq.trans (Eq.symm e1) e2)
  subst e3
  exact k q H1 locs ls hP1 hD1 hS1 hl
def cn_F (own : String) (ix ci j : Nat) (fin : Bool) (ty : FieldType) : Prop := ∃ (C : String) (T : u_T) (N : Nat) (ty0 : Nat → FieldType), cx_cls[ci]? = some (C, T, N) ∧ j < N ∧ (∀ w ∈ u_ws C T N, w ∈ ax_tb) ∧ Cond.fieldLink own ix (T j).1 (T j).2.1 (T j).2.2.1 ∈ ax_tb ∧ (∀ k, k < N → parseFieldDescriptor (T k).2.2.1 = some (ty0 k)) ∧ (∀ a, a < N → ∀ b, b < N → a ≠ b → (T a).2.1 ≠ (T b).2.1) ∧ (T j).2.2.2 = fin ∧ parseFieldDescriptor (T j).2.2.1 = some ty ∧ (fin = true → (T j).1 = own)
theorem cn_put {V : cn_V} {μ : ax_Mu} {cl sl : Nat} (hV : cn_ok V μ cl sl) {pc nx : Nat} {lv : List (Option Value)} {st : List Value} {ws : va_W} {ce so : Nat} {ix ci j a : Nat} {fin : Bool} {ty : FieldType} {v : Value} {fs : List Value} (hin2 : V.1.2.2.2.2.2.2.2.2.1.name = "<init>") (hf : cn_F μ.1.cls ix ci j fin ty) (d : ax_D μ.2.1 pc (.putfield ix) 3 nx) (i : Nat) (ws' : va_W) (hw : ws[i]? = some (a, .inr (ci, fs))) (hn : narrow ty v = v) (hfit : fits ty v = true) (hl0 : j < fs.length) (hs : ws.set i (a, .inr (ci, fs.set j v)) = ws') (k : cn_At V nx lv st ws' ce so) : cn_At V pc lv (v :: .ref a :: st) ws ce so := by
  obtain ⟨⟨p, l, e, R, s, m, args, below, meth, c⟩, ⟨D, cI, cJ, cZ⟩, A, Q⟩ := V
  obtain ⟨d, rfl⟩ := d
  subst hs
  obtain ⟨C, T, N, ty0, hc, hj, hin, hlk, hty, hnm, hfin, hd, hown⟩ := hf
  intro H locs ls hP hD hS hl
  cases fin with
  | false => exact va_put hV.1 hV.2.1 hV.2.2.2.2.1 hin ty0 hty hnm hV.2.2.2.1 hV.2.2.2.2.2.1 hP hD hS i hw hc j hj (hV.2.2.2.2.1 _ hlk) (fun _ h => h) hfin hd hn hfit hl0 d (fun H1 locs1 hP1 hD1 hS1 => k H1 locs1 ls hP1 hD1 hS1 hl)
  | true => exact va_putF hV.1 hV.2.1 hV.2.2.2.2.1 hin ty0 hty hnm hV.2.2.2.1 hV.2.2.2.2.2.1 hP hD hS i hw hc j hj (hV.2.2.2.2.1 _ hlk) (fun _ h => h) hfin hin2 (hown rfl) hd hn hfit hl0 d (fun H1 locs1 hP1 hD1 hS1 => k H1 locs1 ls hP1 hD1 hS1 hl)
theorem cn_get {V : cn_V} {μ : ax_Mu} {cl sl : Nat} (hV : cn_ok V μ cl sl) {pc nx : Nat} {lv : List (Option Value)} {st : List Value} {ws : va_W} {ce so : Nat} {ix ci j a : Nat} {v : Value} {fs : List Value} (hf : ax_F μ.1.cls ix ci j) (d : ax_D μ.2.1 pc (.getfield ix) 3 nx) (i : Nat) (hw : ws[i]? = some (a, .inr (ci, fs))) (hv : fs[j]? = some v) (k : cn_At V nx lv (v :: st) ws ce so) : cn_At V pc lv (.ref a :: st) ws ce so := by
  obtain ⟨⟨p, l, e, R, s, m, args, below, meth, c⟩, ⟨D, cI, cJ, cZ⟩, A, Q⟩ := V
  obtain ⟨d, rfl⟩ := d
  obtain ⟨C, T, N, hc, hj, hin, hlk⟩ := hf
  intro H locs ls hP hD hS hl
  exact va_get hV.1 hV.2.1 hV.2.2.2.2.1 hin hV.2.2.2.1 hV.2.2.2.2.2.1 hP i hw hc j hj (hV.2.2.2.2.1 _ hlk) (fun _ h => h) hv d (k H locs ls hP hD hS hl)
theorem cn_iast {V : cn_V} {μ : ax_Mu} {cl sl : Nat} (hV : cn_ok V μ cl sl) {pc nx : Nat} {lv : List (Option Value)} {st : List Value} {ws : va_W} {ce so : Nat} {a n : Nat} {x y : Int32} {f : Nat → Int32} (d : ax_D μ.2.1 pc .iastore 1 nx) (i : Nat) (ws' : va_W) (hw : ws[i]? = some (a, .inl (V.2.1.2.1, n, .inl f))) (hin : vp_in x n) (hs : ws.set i (a, .inl (V.2.1.2.1, n, .inl (upd f x.toNatClampNeg y))) = ws') (k : cn_At V nx lv st ws' ce so) : cn_At V pc lv (.int y :: .int x :: .ref a :: st) ws ce so := by
  obtain ⟨⟨p, l, e, R, s, m, args, below, meth, c⟩, ⟨D, cI, cJ, cZ⟩, A, Q⟩ := V
  obtain ⟨d, rfl⟩ := d
  subst hs
  intro H locs ls hP hD hS hl
  exact va_iast hV.1 hV.2.1 hV.2.2.2.2.2.1 hP hD hS i 0 hw rfl hin d (fun H1 locs1 hP1 hD1 hS1 => k H1 locs1 ls hP1 hD1 hS1 hl)
theorem cn_obj {V : cn_V} {μ : ax_Mu} {cl sl : Nat} (hV : cn_ok V μ cl sl) {pc nx : Nat} {lv : List (Option Value)} {st : List Value} {ws : va_W} {ce so : Nat} {ix a : Nat} (h1 : Cond.methodLink μ.1.cls ix Lib.objectInit ∈ ax_tb) (h2 : Cond.instanceMethod Lib.objectInit ∈ ax_tb) (h3 : Cond.code Lib.objectInit ⟨#[0xb1]⟩ 1 none ∈ ax_tb) (hrm : (Nat.ble 1 μ.2.2.2.2.1 && Nat.ble ((st.map fun v => v.category).sum + 12) μ.2.2.2.2.2) = true) (d : ax_D μ.2.1 pc (.invokespecial ix) 3 nx) (k : cn_At V nx lv st ws ce so) : cn_At V pc lv (.ref a :: st) ws ce so := by
  obtain ⟨⟨p, l, e, R, s, m, args, below, meth, c⟩, ⟨D, cI, cJ, cZ⟩, A, Q⟩ := V
  obtain ⟨d, rfl⟩ := d
  have hR := hV.2.2.2.2.2.2.2.2.2
  subst hR
  have hrm := Bool.and_eq_true _ _ ▸ hrm
  intro H locs ls hP hD hS hl
  refine W.objInit hV.1 hV.2.1 hV.2.2.2.1 (hV.2.2.2.2.1 _ h1) (hV.2.2.2.2.1 _ h2) (hV.2.2.2.2.1 _ h3) rfl hl.1 rfl d (Nat.le_of_ble_eq_true hrm.1) ?_ (k H locs ls hP hD hS hl)
  have := Nat.le_of_ble_eq_true hrm.2
  simpa [JFrame.monitorRoom] using this
def cn_A (h0 sz : Nat) : Nat → Prop := fun q => q = h0 ∨ sz ≤ q
def cn_rm (μ : ax_Mu) (cl sl : Nat) : Room := { frames := μ.2.2.2.2.1, cells := cl, slots := sl, locals := μ.2.2.2.2.2 }
abbrev cn_N : Type := List (String × Nat × MethodName × String)
def cn_nw (NL : cn_N) (U : State) : Prop := ∀ q ∈ NL, va_Nw (.methodLinkNest q.1 q.2.1 q.2.2.1 q.2.2.2) U
def cn_M (μ : ax_Mu) (cl sl : Nat) (NL : cn_N) (ci : Nat) (fs0 : List Value) (Lc : ax_L) (s0 : ax_S) : Prop :=
  ∀ (l : Launch) (D : va_G) (cI cJ cZ : ClassId) (h0 sz : Nat), Met l μ.1 (ax_w μ) (cn_rm μ cl sl) (va_Pc [.ref h0] (fun U => U.heap.size = sz ∧ va_P D cx_cls [(h0, .inr (ci, fs0))] U.heap ∧ va_K D cx_cls (cn_tys cI cJ cZ) U ∧ cn_nw NL U)) (va_Qv (fun ad : Nat → Nat => ad 0 = h0) (fun ad t => va_P D cx_cls (ax_ws Lc (D, ad, cI, cJ, cZ) s0) t.heap ∧ va_D (cn_A h0 sz) (ax_ws Lc (D, ad, cI, cJ, cZ) s0)) (cn_A h0 sz)) cl sl (cn_A h0 sz)
theorem cn_blind {NL : cn_N} {D : va_G} {cI cJ cZ : ClassId} {h0 sz ci : Nat} {fs0 : List Value} : FrameBlind (va_Pc [.ref h0] (fun U => U.heap.size = sz ∧ va_P D cx_cls [(h0, .inr (ci, fs0))] U.heap ∧ va_K D cx_cls (cn_tys cI cJ cZ) U ∧ cn_nw NL U)) := fun a U g mk q => ⟨q.1, q.2.1, q.2.2.1, va_K.moved (u := U) (U := U.calling g mk a) (Vm.Alike.refl U.vm) q.2.2.2.1, fun z hz => va_Nw.same rfl rfl (q.2.2.2.2 z hz)⟩
theorem cn_enter {μ : ax_Mu} {cl sl : Nat} {NL : cn_N} {ci : Nat} {fs0 : List Value} {Lc : ax_L} {s0 : ax_S} (hy : plainName μ.1.cls = true) (hname : μ.1.name = "<init>") (hret : μ.2.2.2.1 = none) (hn : 1 ≤ μ.2.2.1) (r : Nat) (lv0 : Nat → List (Option Value)) (hlv : ∀ h0, some (Value.ref h0) :: List.replicate r none = lv0 h0)
    (hb : ∀ (K : ax_K) (D : va_G) (cI cJ cZ : ClassId) (h0 sz : Nat) (Q : State → Prop), cn_ok (K, (D, cI, cJ, cZ), cn_A h0 sz, Q) μ cl sl → K.2.2.2.2.2.2.2.2.1.name = "<init>" → cn_nw NL K.2.2.2.2.1 → h0 < sz →
      (∀ (pc nx : Nat) (lv : List (Option Value)) (as : List Nat) (ks : List Nat) (ws : va_W), as.getD 0 0 = h0 → va_nd ks = true → ks.map (fun i => ws[i]?) = (ax_ws Lc (D, (fun k => as.getD k 0), cI, cJ, cZ) s0).map some → ax_D μ.2.1 pc .return_ 1 nx → cn_At (K, (D, cI, cJ, cZ), cn_A h0 sz, Q) pc lv [] ws cl sl) →
      cn_At (K, (D, cI, cJ, cZ), cn_A h0 sz, Q) 0 (lv0 h0) [] [(h0, .inr (ci, fs0))] 0 0) : cn_M μ cl sl NL ci fs0 Lc s0 := by
  intro l D cI cJ cZ h0 sz
  refine Met.ofW (cc := μ.2.1) (maxL := μ.2.2.1) (ret := μ.2.2.2.1) hy rfl ?_
  intro p e s₀ m args below meth c s₁ B hml hv
  obtain ⟨rfl, hsz, hP, hK, hnw⟩ := hv
  have hts := atoms_spec (ws := ax_w μ) B.pre
  have hlt : h0 < s₀.heap.size := cn_at_lt hP (q := (h0, .inr (ci, fs0))) (by simp)
  have hl := lv_entry ([Value.ref h0]) (n := μ.2.2.1) (by simpa [lg_sl, Value.category] using hn)
  rw [lg_entry_eq]
  generalize (lg_sl [Value.ref h0] ++ List.replicate (μ.2.2.1 - (lg_sl [Value.ref h0]).length) Slot.unset).toArray = ls at hl ⊢
  have hmn : meth.name = "<init>" := by rw [(name_of_methodNamed B.named B.method).1]; exact hname
  obtain ⟨Q, hQ⟩ : ∃ Q, Q = MQ below (va_Qv (fun ad : Nat → Nat => ad 0 = h0) (fun ad t => va_P D cx_cls (ax_ws Lc (D, ad, cI, cJ, cZ) s0) t.heap ∧ va_D (cn_A h0 sz) (ax_ws Lc (D, ad, cI, cJ, cZ) s0)) (cn_A h0 sz)) [Value.ref h0].toArray s₀ cl sl (cn_A h0 sz) := ⟨_, rfl⟩
  rw [← hQ]
  have k := hb (p, l, e, cn_rm μ cl sl, s₀, m, [Value.ref h0].toArray, below, meth, c) D cI cJ cZ h0 sz Q ⟨B.exec, B.bytes, hml, findClass_of_methodNamed B.named, fun w hw => hts w (List.mem_cons_of_mem _ hw), hK, fun q hq => Or.inr (by omega), B.returns, B.notSynchronized, rfl⟩ hmn hnw (by omega) ?_
  · refine k s₀.heap [] ls hP (cn_D_of ⟨fun q hq => by simp at hq, trivial⟩ (fun q hq => by
      simp only [List.mem_singleton] at hq
      subst hq
      exact Or.inl rfl)) va_S.rf ⟨by rw [hl.1]; exact hml.symm, hl.2.1, fun i v hi => ?_⟩
    rw [← hlv h0] at hi
    match i, hi with
    | 0, hi =>
      cases hi
      exact hl.2.2 (0, .ref h0) (by simp [lv_args])
    | i + 1, hi =>
      simp only [List.getElem?_cons_succ, List.getElem?_replicate] at hi
      split at hi
      · cases hi
      · cases hi
  · intro pc nx lv as ks ws has hnd hks d H locs ls' hP' hD' hS' hl'
    obtain ⟨d, rfl⟩ := d
    show W _ _ _ _ _ _ _ _ _ _ _ _ _ _ Q _
    rw [hQ]
    have hsub : (ks.filterMap fun i => ws[i]?) = ax_ws Lc (D, (fun k => as.getD k 0), cI, cJ, cZ) s0 := by
      have e : (ks.filterMap fun i => ws[i]?) = (ks.map (fun i => ws[i]?)).filterMap id := by simp [List.filterMap_map]
      rw [e, hks]
      simp [List.filterMap_map]
    refine W.vret B.exec B.bytes (B.returns.trans hret) (fun t ht _ => ⟨⟨fun k => as.getD k 0, rfl, has, ?_, ?_⟩, by rw [ht]; exact hS'.1, fun q hq hA => by rw [ht]; exact hS'.2.1 q hq hA⟩) hS'.2.2 d B.notSynchronized
    · rw [ht]
      exact hP'.sub ks hsub
    · exact hD'.sub ks hnd hks
theorem cn_callN {V : cn_V} {μ : ax_Mu} {cl sl : Nat} (hV : cn_ok V μ cl sl) {pc nx : Nat} {lv : List (Option Value)} {st : List Value} {ws : va_W} {ce so : Nat} {μ' : ax_Mu} {cl' sl' : Nat} {NL NL' : cn_N} {ci ix : Nat} {host : String} {fs0 : List Value} {Lc : ax_L} {s0 : ax_S} (hm : cn_M μ' cl' sl' NL' ci fs0 Lc s0) (hNL : cn_nw NL V.1.2.2.2.2.1) (hsub : ∀ q ∈ NL', q ∈ NL) (hl1 : (μ.1.cls, ix, μ'.1, host) ∈ NL) (hi : Cond.instanceMethod μ'.1 ∈ ax_tb) (hini : Cond.initialized μ'.1.cls ∈ ax_tb) (hcode : Cond.code μ'.1 μ'.2.1 μ'.2.2.1 μ'.2.2.2.1 ∈ ax_tb) (hret : μ'.2.2.2.1 = none) (hnam : ax_nam μ' 0) (hname : μ'.1.name = "<init>") (hrm : ax_rmle μ' μ = true) (hce : ce + cl' ≤ cl) (hso : so + sl' ≤ sl) (d : ax_D μ.2.1 pc (.invokespecial ix) 3 nx) {b : Nat} (hst : Nat.ble ((st.map fun v => v.category).sum) 8 = true)
    (k : ∀ ad : Nat → Nat, ad 0 = b → cn_At V nx lv st (ws ++ ax_ws Lc (V.2.1.1, ad, V.2.1.2.1, V.2.1.2.2.1, V.2.1.2.2.2) s0) (ce + cl') (so + sl')) : cn_At V pc lv (.ref b :: st) (ws ++ [(b, .inr (ci, fs0))]) ce so := by
  obtain ⟨⟨p, l, e, R, s, m, args, below, meth, c⟩, ⟨D, cI, cJ, cZ⟩, A, Q⟩ := V
  obtain ⟨d, rfl⟩ := d
  have hR := hV.2.2.2.2.2.2.2.2.2
  subst hR
  intro H locs ls hP hD hS hl
  have hPc := (cn_P_app.mp hP).2
  have hA' : ∀ q, cn_A b H.size q → A q := fun q hq => by
    rcases hq with rfl | hq
    · exact (cn_D_nd hD).2 (q, .inr (ci, fs0)) (by simp)
    · exact hV.2.2.2.2.2.2.1 q (Nat.le_trans hS.1 hq)
  have hw : ax_w μ' = Cond.code μ'.1 μ'.2.1 μ'.2.2.1 none :: ax_tb := by simp only [ax_w, hret]
  have hrm := Bool.and_eq_true _ _ ▸ hrm
  refine va_callv (va_runIN (As := []) (rest := st) ⟨hV.1, hV.2.1, rfl, hV.2.2.2.1, hV.2.2.2.2.1⟩ (hm l D cI cJ cZ b H.size) ⟨va_cnB 0 hV.2.2.2.2.1 (ax_goodw hcode) hw rfl rfl (hNL _ hl1) (hV.2.2.2.2.1 _ hini) hnam ⟨Nat.le_of_ble_eq_true hrm.1, Nat.le_of_ble_eq_true hrm.2⟩, hname, hV.2.2.2.2.1 _ hi⟩ ⟨cn_blind, fun U hU hW => ⟨rfl, by rw [hU], by rw [hU]; exact hPc, va_K.moved hW.alike hV.2.2.2.2.2.1, fun q hq => va_Nw.warmM hW (hNL q (hsub q hq))⟩⟩ rfl rfl hl.1 rfl (lv_room (Nat.le_of_ble_eq_true hst)) d ⟨hce, hso⟩) hS (fun q _ h => hA' q h) hA' (fun ad t H1 locs1 ht hvm hpost hB hsz hk hS1 => ?_)
  have hB1 := hB.1
  rw [ht] at hB1
  obtain ⟨hP2, hD2⟩ := cn_back hP hD hk (fun q hq h => by
    rcases h with h | h
    · exact (cn_nd_app.mp (cn_D_nd hD).1).2.2 q hq (b, .inr (ci, fs0)) (by simp) h.symm
    · exact absurd (cn_at_lt (cn_P_app.mp hP).1 hq) (Nat.not_lt.mpr h)) hB1 hB.2 (fun q hq => hA' _ ((cn_D_nd hB.2).2 q hq))
  exact k ad hpost H1 locs1 ls hP2 hD2 hS1 hl

/-! THE LAYER: a side's cells as one value (ints and longs by cell and place), and a judgement over it -/
def ax_tb : List Cond := lw_tbl.filter goodWord
abbrev ax_S : Type := (Nat → Nat → Int32) × (Nat → Nat → Int64)
abbrev ax_L : Type := List (Nat × Nat × List Nat)
abbrev ax_St : Type := List (String × String × Nat × Nat × (Nat → Int32))
abbrev ax_Sd : Type := ax_L × ax_St
abbrev ax_G : Type := va_G × (Nat → Nat) × ClassId × ClassId × ClassId
abbrev ax_Mu : Type := MethodName × ByteArray × Nat × Option FieldType × Nat × Nat
abbrev ax_K : Type := Program × Launch × Env × Room × State × MethodId × Array Value × List Frame × Method × Code
abbrev ax_V : Type := ax_Sd × ax_G × ax_K × Option Value × ax_S
def ax_ad (V : ax_V) (k : Nat) : Nat := V.2.1.2.1 k
def ax_fv (ad : Nat → Nat) (s : ax_S) (k j t : Nat) : Value := match t with
  | 0 => .int (s.1 k j)
  | 1 => .long (s.2 k j)
  | t + 2 => .ref (ad t)
def ax_mi {α β : Type} (f : Nat → α → β) : Nat → List α → List β
  | _, [] => []
  | k, x :: xs => f k x :: ax_mi f (k + 1) xs
theorem ax_mi_get {α β : Type} (f : Nat → α → β) (l : List α) : ∀ (k i : Nat), (ax_mi f k l)[i]? = (l[i]?).map (f (k + i)) := by
  induction l with
  | nil => intro k i; simp [ax_mi]
  | cons x xs ih =>
    intro k i
    match i with
    | 0 => simp [ax_mi]
    | i + 1 =>
      simp only [ax_mi, List.getElem?_cons_succ, ih (k + 1) i]
      rw [show k + 1 + i = k + (i + 1) by omega]
theorem ax_mi_len {α β : Type} (f : Nat → α → β) (l : List α) : ∀ k : Nat, (ax_mi f k l).length = l.length := by
  induction l with
  | nil => intro k; rfl
  | cons x xs ih => intro k; simp [ax_mi, ih (k + 1)]
def ax_fs (ad : Nat → Nat) (s : ax_S) (k : Nat) (fds : List Nat) : List Value := ax_mi (fun j t => ax_fv ad s k j t) 0 fds
def ax_e (G : ax_G) (s : ax_S) (k : Nat) (d : Nat × Nat × List Nat) : va_E := match d.1 with
  | 0 => .inr (d.2.1, ax_fs G.2.1 s k d.2.2)
  | 1 => .inl (G.2.2.1, d.2.1, .inl (s.1 k))
  | 2 => .inl (G.2.2.2.1, d.2.1, .inr (.inl (s.2 k)))
  | _ => .inl (G.2.2.2.2, d.2.1, .inl (s.1 k))
def ax_ws (L : ax_L) (G : ax_G) (s : ax_S) : va_W := ax_mi (fun k d => (G.2.1 k, ax_e G s k d)) 0 L
def ax_tys (G : ax_G) : List (ClassId × FieldType) := [(G.2.2.1, .int), (G.2.2.2.1, .long), (G.2.2.2.2, .boolean)]
def ax_A (L : ax_L) (G : ax_G) : Nat → Prop := fun q => ∃ k, k < L.length ∧ q = G.2.1 k
def ax_inj (L : ax_L) (G : ax_G) : Prop := ∀ i j, i < L.length → j < L.length → G.2.1 i = G.2.1 j → i = j
def ax_stat (St : ax_St) (A : Nat → Prop) (G : ax_G) (U : State) (H : Heap) : Prop := ∀ q ∈ St, va_Z q.1 q.2.1 "[I" (.ref (G.2.1 q.2.2.1)) A U H ∧ va_T .int (G.2.1 q.2.2.1) q.2.2.2.1 (fun j => .int (q.2.2.2.2 j)) A U H
def ax_ui (s : ax_S) (k j : Nat) (v : Int32) : ax_S := (fun a b => if a = k ∧ b = j then v else s.1 a b, s.2)
def ax_ul (s : ax_S) (k j : Nat) (v : Int64) : ax_S := (s.1, fun a b => if a = k ∧ b = j then v else s.2 a b)
def ax_wi (s : ax_S) (k : Nat) (f : Nat → Int32) : ax_S := (fun a => if a = k then f else s.1 a, s.2)
theorem ax_ws_get {L : ax_L} {G : ax_G} {s : ax_S} {k : Nat} {d : Nat × Nat × List Nat} (h : L[k]? = some d) : (ax_ws L G s)[k]? = some (G.2.1 k, ax_e G s k d) := by
  simp [ax_ws, ax_mi_get, h]
theorem ax_ws_of {L : ax_L} {G : ax_G} {s : ax_S} {k : Nat} {q : Nat × va_E} (h : (ax_ws L G s)[k]? = some q) : ∃ d, L[k]? = some d ∧ q = (G.2.1 k, ax_e G s k d) := by
  simp only [ax_ws, ax_mi_get, Nat.zero_add, Option.map_eq_some_iff] at h
  obtain ⟨d, hd, he⟩ := h
  exact ⟨d, hd, he.symm⟩
theorem ax_D_of {L : ax_L} {G : ax_G} (hi : ax_inj L G) (s : ax_S) : va_D (ax_A L G) (ax_ws L G s) := by
  refine ⟨fun i j p q hp hq he => ?_, fun k q hq => ?_⟩
  · obtain ⟨d, hd, rfl⟩ := ax_ws_of hp
    obtain ⟨d', hd', rfl⟩ := ax_ws_of hq
    exact hi i j (List.getElem?_eq_some_iff.mp hd).1 (List.getElem?_eq_some_iff.mp hd').1 he
  · obtain ⟨d, hd, rfl⟩ := ax_ws_of hq
    exact ⟨k, (List.getElem?_eq_some_iff.mp hd).1, rfl⟩
theorem ax_ws_set {L : ax_L} {G : ax_G} {s s' : ax_S} {k : Nat} {d : Nat × Nat × List Nat} {x : va_E} (h : L[k]? = some d) (hx : x = ax_e G s' k d) (hd : ∀ j d', j ≠ k → ax_e G s' j d' = ax_e G s j d') : (ax_ws L G s).set k (G.2.1 k, x) = ax_ws L G s' := by
  subst hx
  apply List.ext_getElem?
  intro i
  by_cases hi : k = i
  · subst hi
    rw [ax_ws_get h, List.getElem?_set_self (by simpa [ax_ws, ax_mi_len] using (List.getElem?_eq_some_iff.mp h).1)]
  · rw [List.getElem?_set_ne hi]
    simp only [ax_ws, ax_mi_get, Nat.zero_add]
    cases hl : L[i]? with
    | none => rfl
    | some d' => simp only [Option.map_some, hd i d' (fun q => hi q.symm)]
theorem ax_ui_ne {s : ax_S} {k j : Nat} {v : Int32} {a : Nat} (h : a ≠ k) : (ax_ui s k j v).1 a = s.1 a := by
  funext b
  simp [ax_ui, h]
theorem ax_ul_ne {s : ax_S} {k j : Nat} {v : Int64} {a : Nat} (h : a ≠ k) : (ax_ul s k j v).2 a = s.2 a := by
  funext b
  simp [ax_ul, h]
theorem ax_wi_ne {s : ax_S} {k : Nat} {f : Nat → Int32} {a : Nat} (h : a ≠ k) : (ax_wi s k f).1 a = s.1 a := by
  simp [ax_wi, h]
theorem ax_fs_congr {ad : Nat → Nat} {s s' : ax_S} {k : Nat} (h1 : s'.1 k = s.1 k) (h2 : s'.2 k = s.2 k) (fds : List Nat) : ax_fs ad s' k fds = ax_fs ad s k fds := by
  have : (fun j t => ax_fv ad s' k j t) = (fun j t => ax_fv ad s k j t) := by
    funext j t
    match t with
    | 0 => simp only [ax_fv, h1]
    | 1 => simp only [ax_fv, h2]
    | t + 2 => rfl
  simp only [ax_fs, this]
theorem ax_e_congr {G : ax_G} {s s' : ax_S} {k : Nat} (h1 : s'.1 k = s.1 k) (h2 : s'.2 k = s.2 k) (d : Nat × Nat × List Nat) : ax_e G s' k d = ax_e G s k d := by
  obtain ⟨a, n, fds⟩ := d
  match a with
  | 0 => simp only [ax_e, ax_fs_congr h1 h2]
  | 1 => simp only [ax_e, h1]
  | 2 => simp only [ax_e, h2]
  | a + 3 => simp only [ax_e, h1]
/-- locals by their places: a place that is 'none' says nothing -/
def ax_lv (ls : Array Slot) (nL : Nat) (lv : List (Option Value)) : Prop := ls.size = nL ∧ lv_wf ls ∧ ∀ (i : Nat) (v : Value), lv[i]? = some (some v) → ls[i]? = some (.val v)
def ax_as (lv : List (Option Value)) : List (Nat × Value) := lv.zipIdx.filterMap (fun q => q.1.map (fun v => (q.2, v)))
theorem ax_as_mem {lv : List (Option Value)} {q : Nat × Value} : q ∈ ax_as lv ↔ lv[q.1]? = some (some q.2) := by
  simp only [ax_as, List.mem_filterMap, Option.map_eq_some_iff]
  constructor
  · rintro ⟨⟨o, i⟩, hm, v, rfl, rfl⟩
    exact List.mem_zipIdx_iff_getElem?.mp hm
  · intro h
    exact ⟨(some q.2, q.1), List.mem_zipIdx_iff_getElem?.mpr h, q.2, rfl, rfl⟩
theorem ax_lv_has {ls : Array Slot} {nL : Nat} {lv : List (Option Value)} (h : ax_lv ls nL lv) : lv_has ls nL (ax_as lv) := ⟨h.1, h.2.1, fun q hq => h.2.2 q.1 q.2 (ax_as_mem.mp hq)⟩
/-- a store at i leaves the value ahead of it whole -/
def ax_ok1 (lv : List (Option Value)) (i : Nat) : Bool := match i with
  | 0 => true
  | j + 1 => match lv[j]? with
    | some (some v) => v.category == 1
    | _ => true
theorem ax_lv_st1 {ls : Array Slot} {nL : Nat} {lv : List (Option Value)} {i : Nat} {v : Value} (ho : ax_ok1 lv i = true) (h : lv_has ls nL ((i, v) :: (ax_as lv).filter (fun q => !(q.1 == i) && !(q.1 + 1 == i && q.2.category == 2)))) : ax_lv ls nL (lv.set i (some v)) := by
  refine ⟨h.1, h.2.1, fun j w hj => ?_⟩
  by_cases hi : i = j
  · subst hi
    have hlt : i < lv.length := by
      have := (List.getElem?_eq_some_iff.mp hj).1
      simpa using this
    rw [List.getElem?_set_self hlt] at hj
    cases hj
    exact h.2.2 (i, v) List.mem_cons_self
  · rw [List.getElem?_set_ne hi] at hj
    refine h.2.2 (j, w) (List.mem_cons_of_mem _ (List.mem_filter.mpr ⟨ax_as_mem.mpr hj, ?_⟩))
    have h1 : (j == i) = false := by simpa using fun q => hi q.symm
    simp only [h1, Bool.not_false, Bool.true_and]
    by_cases h2 : j + 1 = i
    · subst h2
      simp only [ax_ok1, hj] at ho
      simp only [beq_self_eq_true, Bool.true_and]
      have : w.category = 1 := by simpa using ho
      simp [this]
    · have : (j + 1 == i) = false := by simpa using h2
      simp [this]
theorem ax_lv_st2 {ls : Array Slot} {nL : Nat} {lv : List (Option Value)} {i : Nat} {v : Value} (ho : ax_ok1 lv i = true) (h : lv_has ls nL ((i, v) :: (ax_as lv).filter (fun q => !(q.1 == i) && (!(q.1 == i + 1) && !(q.1 + 1 == i && q.2.category == 2))))) : ax_lv ls nL ((lv.set i (some v)).set (i + 1) none) := by
  refine ⟨h.1, h.2.1, fun j w hj => ?_⟩
  by_cases hi1 : i + 1 = j
  · subst hi1
    have hlt : i + 1 < (lv.set i (some v)).length := by
      have := (List.getElem?_eq_some_iff.mp hj).1
      simpa using this
    rw [List.getElem?_set_self hlt] at hj
    cases hj
  rw [List.getElem?_set_ne hi1] at hj
  by_cases hi : i = j
  · subst hi
    have hlt : i < lv.length := by
      have := (List.getElem?_eq_some_iff.mp hj).1
      simpa using this
    rw [List.getElem?_set_self hlt] at hj
    cases hj
    exact h.2.2 (i, v) List.mem_cons_self
  · rw [List.getElem?_set_ne hi] at hj
    refine h.2.2 (j, w) (List.mem_cons_of_mem _ (List.mem_filter.mpr ⟨ax_as_mem.mpr hj, ?_⟩))
    have h1 : (j == i) = false := by simpa using fun q => hi q.symm
    have h1' : (j == i + 1) = false := by simpa using fun q => hi1 q.symm
    simp only [h1, h1', Bool.not_false, Bool.true_and]
    by_cases h2 : j + 1 = i
    · subst h2
      simp only [ax_ok1, hj] at ho
      simp only [beq_self_eq_true, Bool.true_and]
      have : w.category = 1 := by simpa using ho
      simp [this]
    · have : (j + 1 == i) = false := by simpa using h2
      simp [this]
/-- the places that are kept -/
def ax_mk (ks : List Bool) (lv : List (Option Value)) : List (Option Value) := List.zipWith (fun k o => if k then o else none) ks lv
theorem ax_lv_mk {ls : Array Slot} {nL : Nat} {lv : List (Option Value)} (ks : List Bool) (h : ax_lv ls nL lv) : ax_lv ls nL (ax_mk ks lv) := by
  refine ⟨h.1, h.2.1, fun i v hi => h.2.2 i v ?_⟩
  simp only [ax_mk, List.getElem?_zipWith] at hi
  cases hk : ks[i]? with
  | none => simp [hk] at hi
  | some k =>
    cases hl : lv[i]? with
    | none => simp [hk, hl] at hi
    | some o =>
      simp only [hk, hl, Option.some.injEq] at hi
      cases k
      · simp at hi
      · simpa using hi
def ax_rm (μ : ax_Mu) : Room := { frames := μ.2.2.2.2.1, cells := 0, slots := 0, locals := μ.2.2.2.2.2 }
def ax_w (μ : ax_Mu) : List Cond := Cond.code μ.1 μ.2.1 μ.2.2.1 μ.2.2.2.1 :: ax_tb
def ax_U (Sd : ax_Sd) (G : ax_G) (U : State) : Prop := va_K G.1 cx_cls (ax_tys G) U ∧ ax_stat Sd.2 (ax_A Sd.1 G) G U U.heap
def ax_Q (Sd : ax_Sd) (G : ax_G) (rv : Option Value) (sf : ax_S) : Array Value → State → Outcome → State → Prop := match rv with
  | some (.int r) => va_Qi (fun x (_ : Unit) => x = r) (fun _ t => va_P G.1 cx_cls (ax_ws Sd.1 G sf) t.heap) (ax_A Sd.1 G)
  | some (.long r) => va_Ql (fun x (_ : Unit) => x = r) (fun _ t => va_P G.1 cx_cls (ax_ws Sd.1 G sf) t.heap) (ax_A Sd.1 G)
  | _ => va_Qv (fun (_ : Unit) => True) (fun _ t => va_P G.1 cx_cls (ax_ws Sd.1 G sf) t.heap) (ax_A Sd.1 G)
/-- a method's contract: from the cells s, with these arguments, it answers rv and leaves the cells sf -/
def ax_M (Sd : ax_Sd) (μ : ax_Mu) (av : (Nat → Nat) → List Value) (s : ax_S) (rv : Option Value) (sf : ax_S) : Prop :=
  ∀ (l : Launch) (G : ax_G), ax_inj Sd.1 G → Met l μ.1 (ax_w μ) (ax_rm μ) (va_Pc (av G.2.1) (fun U => va_P G.1 cx_cls (ax_ws Sd.1 G s) U.heap ∧ ax_U Sd G U)) (ax_Q Sd G rv sf) 0 0 (ax_A Sd.1 G)
def ax_ok (V : ax_V) (μ : ax_Mu) : Prop := match V with
  | (Sd, G, (p, _, _, R, s, m, args, _, meth, c), _, _) => p.tables.exec = Jvm.exec ∧ c.code = μ.2.1 ∧ c.maxLocals = μ.2.2.1 ∧ s.vm.findClass μ.1.cls = some m.cls ∧ (∀ w ∈ ax_tb, w.before args s = true) ∧ va_K G.1 cx_cls (ax_tys G) s ∧ ax_inj Sd.1 G ∧ ax_stat Sd.2 (ax_A Sd.1 G) G s s.heap ∧ meth.sig.returnType = μ.2.2.2.1 ∧ meth.locks = false ∧ R = ax_rm μ
def ax_At (V : ax_V) (pc : Nat) (lv : List (Option Value)) (st : List Value) (x : ax_S) : Prop := match V with
  | (Sd, G, (p, l, e, R, s, m, args, below, meth, c), rv, sf) => ∀ (H : Heap) (locs : List Loc) (ls : Array Slot), va_P G.1 cx_cls (ax_ws Sd.1 G x) H → va_S (ax_A Sd.1 G) s.heap H locs → ax_lv ls c.maxLocals lv →
      W p l e R s m args below meth c H locs 0 0 (MQ below (ax_Q Sd G rv sf) args s 0 0 (ax_A Sd.1 G)) (F0 m pc ls st)
/-- if the answer o is there, and P holds of it, the machine comes from here to its end -/
def ax_J (V : ax_V) {ρ : Type} (P : ρ → Prop) (pc : Nat) (lv : List (Option Value)) (st : List Value) (x : ax_S) (o : Option ρ) : Prop := ∀ r, o = some r → P r → ax_At V pc lv st x
def ax_D (b : ByteArray) (pc : Nat) (i : Instr) (n nx : Nat) : Prop := decode b pc = .ok (i, n) ∧ pc + n = nx
def ax_B (b : ByteArray) (pc : Nat) (i : Int → Instr) (nx tgt : Nat) : Prop := ∃ off : Int, decode b pc = .ok (i off, 3) ∧ pc + 3 = nx ∧ (pc : Int) + off = (tgt : Int)

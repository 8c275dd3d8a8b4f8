def ax_len (Sd : ax_Sd) (kd a : Nat) : Option Nat := match Sd.1[a]? with
  | some (k, n, _) => if k = kd then some n else none
  | none => none
theorem ax_len_some {Sd : ax_Sd} {kd a n : Nat} (h : ax_len Sd kd a = some n) : ∃ fds, Sd.1[a]? = some (kd, n, fds) := by
  unfold ax_len at h
  cases hs : Sd.1[a]? with
  | none => rw [hs] at h; cases h
  | some q =>
    obtain ⟨k, m, fds⟩ := q
    rw [hs] at h
    simp only at h
    split at h
    · rename_i hk
      cases h
      subst hk
      exact ⟨fds, rfl⟩
    · cases h
def ax_ai (Sd : ax_Sd) (x : ax_S) (a : Nat) (i : Int32) : Option Int32 := (ax_len Sd 1 a).bind (fun n => if i < 0 ∨ n ≤ i.toNatClampNeg then none else some (x.1 a i.toNatClampNeg))
def ax_al (Sd : ax_Sd) (x : ax_S) (a : Nat) (i : Int32) : Option Int64 := (ax_len Sd 2 a).bind (fun n => if i < 0 ∨ n ≤ i.toNatClampNeg then none else some (x.2 a i.toNatClampNeg))
def ax_ab (Sd : ax_Sd) (x : ax_S) (a : Nat) (i : Int32) : Option Int32 := (ax_len Sd 3 a).bind (fun n => if i < 0 ∨ n ≤ i.toNatClampNeg then none else some (x.1 a i.toNatClampNeg))
def ax_si (Sd : ax_Sd) (x : ax_S) (a : Nat) (i v : Int32) : Option ax_S := (ax_len Sd 1 a).bind (fun n => if i < 0 ∨ n ≤ i.toNatClampNeg then none else some (ax_ui x a i.toNatClampNeg v))
def ax_sl (Sd : ax_Sd) (x : ax_S) (a : Nat) (i : Int32) (v : Int64) : Option ax_S := (ax_len Sd 2 a).bind (fun n => if i < 0 ∨ n ≤ i.toNatClampNeg then none else some (ax_ul x a i.toNatClampNeg v))
def ax_sb (Sd : ax_Sd) (x : ax_S) (a : Nat) (i v : Int32) : Option ax_S := (ax_len Sd 3 a).bind (fun n => if i < 0 ∨ n ≤ i.toNatClampNeg then none else some (ax_ui x a i.toNatClampNeg (vp_nar .boolean v)))
def ax_ln (Sd : ax_Sd) (a : Nat) : Option Int32 := (ax_len Sd 1 a).map Int32.ofNat
theorem ax_iald {V : ax_V} {μ : ax_Mu} (hV : ax_ok V μ) {pc nx : Nat} {lv : List (Option Value)} {st : List Value} {x : ax_S} {a : Nat} {i : Int32} (d : ax_D μ.2.1 pc .iaload 1 nx) (v : Int32) (ho : ax_ai V.1 x a i = some v) (k : ax_At V nx lv (.int v :: st) x) : ax_At V pc lv (.int i :: .ref (ax_ad V a) :: st) x := by
  obtain ⟨Sd, G, ⟨p, l, e, R, s, m, args, below, meth, c⟩, rv, sf⟩ := V
  obtain ⟨d, rfl⟩ := d
  obtain ⟨n, hn, hi⟩ := Option.bind_eq_some_iff.mp ho
  obtain ⟨fds, hL⟩ := ax_len_some hn
  split at hi
  · cases hi
  · rename_i hin
    cases hi
    intro H locs ls hP hS hl
    exact va_iald hV.1 hV.2.1 hV.2.2.2.2.2.1 hP a 0 (ax_ws_get (G := G) (s := x) hL) rfl hin d (k H locs ls hP hS hl)
theorem ax_lald {V : ax_V} {μ : ax_Mu} (hV : ax_ok V μ) {pc nx : Nat} {lv : List (Option Value)} {st : List Value} {x : ax_S} {a : Nat} {i : Int32} (d : ax_D μ.2.1 pc .laload 1 nx) (v : Int64) (ho : ax_al V.1 x a i = some v) (k : ax_At V nx lv (.long v :: st) x) : ax_At V pc lv (.int i :: .ref (ax_ad V a) :: st) x := by
  obtain ⟨Sd, G, ⟨p, l, e, R, s, m, args, below, meth, c⟩, rv, sf⟩ := V
  obtain ⟨d, rfl⟩ := d
  obtain ⟨n, hn, hi⟩ := Option.bind_eq_some_iff.mp ho
  obtain ⟨fds, hL⟩ := ax_len_some hn
  split at hi
  · cases hi
  · rename_i hin
    cases hi
    intro H locs ls hP hS hl
    exact va_lald hV.1 hV.2.1 hV.2.2.2.2.2.1 hP a 1 (ax_ws_get (G := G) (s := x) hL) rfl hin d (k H locs ls hP hS hl)
theorem ax_bald {V : ax_V} {μ : ax_Mu} (hV : ax_ok V μ) {pc nx : Nat} {lv : List (Option Value)} {st : List Value} {x : ax_S} {a : Nat} {i : Int32} (d : ax_D μ.2.1 pc .baload 1 nx) (v : Int32) (ho : ax_ab V.1 x a i = some v) (k : ax_At V nx lv (.int v :: st) x) : ax_At V pc lv (.int i :: .ref (ax_ad V a) :: st) x := by
  obtain ⟨Sd, G, ⟨p, l, e, R, s, m, args, below, meth, c⟩, rv, sf⟩ := V
  obtain ⟨d, rfl⟩ := d
  obtain ⟨n, hn, hi⟩ := Option.bind_eq_some_iff.mp ho
  obtain ⟨fds, hL⟩ := ax_len_some hn
  split at hi
  · cases hi
  · rename_i hin
    cases hi
    intro H locs ls hP hS hl
    exact va_zald hV.1 hV.2.1 hV.2.2.2.2.2.1 hP a 2 (ax_ws_get (G := G) (s := x) hL) rfl hin d (k H locs ls hP hS hl)
theorem ax_iast {V : ax_V} {μ : ax_Mu} (hV : ax_ok V μ) {pc nx : Nat} {lv : List (Option Value)} {st : List Value} {x : ax_S} {a : Nat} {i : Int32} {v : Int32} (d : ax_D μ.2.1 pc .iastore 1 nx) (x' : ax_S) (ho : ax_si V.1 x a i v = some x') (k : ax_At V nx lv st x') : ax_At V pc lv (.int v :: .int i :: .ref (ax_ad V a) :: st) x := by
  obtain ⟨Sd, G, ⟨p, l, e, R, s, m, args, below, meth, c⟩, rv, sf⟩ := V
  obtain ⟨d, rfl⟩ := d
  obtain ⟨n, hn, hi⟩ := Option.bind_eq_some_iff.mp ho
  obtain ⟨fds, hL⟩ := ax_len_some hn
  split at hi
  · cases hi
  · rename_i hin
    cases hi
    intro H locs ls hP hS hl
    refine va_iast hV.1 hV.2.1 hV.2.2.2.2.2.1 hP (ax_D_of hV.2.2.2.2.2.2.1 x) hS a 0 (ax_ws_get (G := G) (s := x) hL) rfl hin d (fun H1 locs1 hP1 _ hS1 => ?_)
    refine k H1 locs1 ls ?_ hS1 hl
    rw [ax_ws_set (s' := ax_ui x a i.toNatClampNeg v) hL (by
      simp only [ax_e]
      have : upd (x.1 a) i.toNatClampNeg v = (ax_ui x a i.toNatClampNeg v).1 a := by
        funext j
        simp [upd, ax_ui]
      rw [this]) (fun i d' hi => ax_e_congr (by exact ax_ui_ne hi) (by rfl) d')] at hP1
    exact hP1
theorem ax_last {V : ax_V} {μ : ax_Mu} (hV : ax_ok V μ) {pc nx : Nat} {lv : List (Option Value)} {st : List Value} {x : ax_S} {a : Nat} {i : Int32} {v : Int64} (d : ax_D μ.2.1 pc .lastore 1 nx) (x' : ax_S) (ho : ax_sl V.1 x a i v = some x') (k : ax_At V nx lv st x') : ax_At V pc lv (.long v :: .int i :: .ref (ax_ad V a) :: st) x := by
  obtain ⟨Sd, G, ⟨p, l, e, R, s, m, args, below, meth, c⟩, rv, sf⟩ := V
  obtain ⟨d, rfl⟩ := d
  obtain ⟨n, hn, hi⟩ := Option.bind_eq_some_iff.mp ho
  obtain ⟨fds, hL⟩ := ax_len_some hn
  split at hi
  · cases hi
  · rename_i hin
    cases hi
    intro H locs ls hP hS hl
    refine va_last hV.1 hV.2.1 hV.2.2.2.2.2.1 hP (ax_D_of hV.2.2.2.2.2.2.1 x) hS a 1 (ax_ws_get (G := G) (s := x) hL) rfl hin d (fun H1 locs1 hP1 _ hS1 => ?_)
    refine k H1 locs1 ls ?_ hS1 hl
    rw [ax_ws_set (s' := ax_ul x a i.toNatClampNeg v) hL (by
      simp only [ax_e]
      have : vp_updL (x.2 a) i.toNatClampNeg v = (ax_ul x a i.toNatClampNeg v).2 a := by
        funext j
        simp [vp_updL, ax_ul]
      rw [this]) (fun i d' hi => ax_e_congr (by rfl) (by exact ax_ul_ne hi) d')] at hP1
    exact hP1
theorem ax_bast {V : ax_V} {μ : ax_Mu} (hV : ax_ok V μ) {pc nx : Nat} {lv : List (Option Value)} {st : List Value} {x : ax_S} {a : Nat} {i : Int32} {v : Int32} (d : ax_D μ.2.1 pc .bastore 1 nx) (x' : ax_S) (ho : ax_sb V.1 x a i v = some x') (k : ax_At V nx lv st x') : ax_At V pc lv (.int v :: .int i :: .ref (ax_ad V a) :: st) x := by
  obtain ⟨Sd, G, ⟨p, l, e, R, s, m, args, below, meth, c⟩, rv, sf⟩ := V
  obtain ⟨d, rfl⟩ := d
  obtain ⟨n, hn, hi⟩ := Option.bind_eq_some_iff.mp ho
  obtain ⟨fds, hL⟩ := ax_len_some hn
  split at hi
  · cases hi
  · rename_i hin
    cases hi
    intro H locs ls hP hS hl
    refine va_zast hV.1 hV.2.1 hV.2.2.2.2.2.1 hP (ax_D_of hV.2.2.2.2.2.2.1 x) hS a 2 (ax_ws_get (G := G) (s := x) hL) rfl hin d (fun H1 locs1 hP1 _ hS1 => ?_)
    refine k H1 locs1 ls ?_ hS1 hl
    rw [ax_ws_set (s' := ax_ui x a i.toNatClampNeg (vp_nar .boolean v)) hL (by
      simp only [ax_e]
      have : upd (x.1 a) i.toNatClampNeg (vp_nar .boolean v) = (ax_ui x a i.toNatClampNeg (vp_nar .boolean v)).1 a := by
        funext j
        simp [upd, ax_ui]
      rw [this]) (fun i d' hi => ax_e_congr (by exact ax_ui_ne hi) (by rfl) d')] at hP1
    exact hP1
theorem ax_alen {V : ax_V} {μ : ax_Mu} (hV : ax_ok V μ) {pc nx : Nat} {lv : List (Option Value)} {st : List Value} {x : ax_S} {a : Nat} (d : ax_D μ.2.1 pc .arraylength 1 nx) (v : Int32) (ho : ax_ln V.1 a = some v) (k : ax_At V nx lv (.int v :: st) x) : ax_At V pc lv (.ref (ax_ad V a) :: st) x := by
  obtain ⟨Sd, G, ⟨p, l, e, R, s, m, args, below, meth, c⟩, rv, sf⟩ := V
  obtain ⟨d, rfl⟩ := d
  obtain ⟨n, hn, hi⟩ := Option.map_eq_some_iff.mp ho
  obtain ⟨fds, hL⟩ := ax_len_some hn
  intro H locs ls hP hS hl
  exact va_alen hV.1 hV.2.1 hV.2.2.2.2.2.1 hP a 0 (ax_ws_get (G := G) (s := x) hL) (ty := .int) rfl hi d (k H locs ls hP hS hl)
def ax_sa (N : Nat) (f : Nat → Int32) (i : Int32) : Option Int32 := if i < 0 ∨ N ≤ i.toNatClampNeg then none else some (f i.toNatClampNeg)
theorem ax_gst {V : ax_V} {μ : ax_Mu} (hV : ax_ok V μ) {pc nx : Nat} {lv : List (Option Value)} {st : List Value} {x : ax_S} {ix b N : Nat} {C n : String} {f : Nat → Int32} (hq : (C, n, b, N, f) ∈ V.1.2) (hlk : Cond.fieldLink μ.1.cls ix C n "[I" ∈ ax_tb) (d : ax_D μ.2.1 pc (.getstatic ix) 3 nx) (k : ax_At V nx lv (.ref (ax_ad V b) :: st) x) : ax_At V pc lv st x := by
  obtain ⟨Sd, G, ⟨p, l, e, R, s, m, args, below, meth, c⟩, rv, sf⟩ := V
  obtain ⟨d, rfl⟩ := d
  intro H locs ls hP hS hl
  exact va_gets hV.1 hV.2.1 (hV.2.2.2.2.2.2.2.1 _ hq).1 hS hV.2.2.2.1 (hV.2.2.2.2.1 _ hlk) (fun _ h => h) d (k H locs ls hP hS hl)
theorem ax_sald {V : ax_V} {μ : ax_Mu} (hV : ax_ok V μ) {pc nx : Nat} {lv : List (Option Value)} {st : List Value} {x : ax_S} {b N : Nat} {C n : String} {f : Nat → Int32} {i : Int32} (hq : (C, n, b, N, f) ∈ V.1.2) (d : ax_D μ.2.1 pc .iaload 1 nx) (v : Int32) (ho : ax_sa N f i = some v) (k : ax_At V nx lv (.int v :: st) x) : ax_At V pc lv (.int i :: .ref (ax_ad V b) :: st) x := by
  obtain ⟨Sd, G, ⟨p, l, e, R, s, m, args, below, meth, c⟩, rv, sf⟩ := V
  obtain ⟨d, rfl⟩ := d
  unfold ax_sa at ho
  split at ho
  · cases ho
  · rename_i hin
    cases ho
    intro H locs ls hP hS hl
    exact va_ti hV.1 hV.2.1 (hV.2.2.2.2.2.2.2.1 _ hq).2 hS hin rfl d (k H locs ls hP hS hl)
theorem ax_ir {V : ax_V} {μ : ax_Mu} (hV : ax_ok V μ) {pc nx : Nat} {lv : List (Option Value)} {x : ax_S} {a : Int32} (hr : μ.2.2.2.1 = some .int) (d : ax_D μ.2.1 pc .ireturn 1 nx) (ho : V.2.2.2 = (some (.int a), x)) : ax_At V pc lv [.int a] x := by
  obtain ⟨Sd, G, ⟨p, l, e, R, s, m, args, below, meth, c⟩, rv, sf⟩ := V
  obtain ⟨d, rfl⟩ := d
  cases ho
  intro H locs ls hP hS hl
  exact W.iret hV.1 hV.2.1 (hV.2.2.2.2.2.2.2.2.1.trans hr) (fun t ht _ => ⟨⟨a, (), rfl, rfl, (show va_P G.1 cx_cls (ax_ws Sd.1 G x) t.heap by rw [ht]; exact hP)⟩, by rw [ht]; exact hS.1, fun q hq hA => by rw [ht]; exact hS.2.1 q hq hA⟩) hS.2.2 d hV.2.2.2.2.2.2.2.2.2.1
theorem ax_lr {V : ax_V} {μ : ax_Mu} (hV : ax_ok V μ) {pc nx : Nat} {lv : List (Option Value)} {x : ax_S} {a : Int64} (hr : μ.2.2.2.1 = some .long) (d : ax_D μ.2.1 pc .lreturn 1 nx) (ho : V.2.2.2 = (some (.long a), x)) : ax_At V pc lv [.long a] x := by
  obtain ⟨Sd, G, ⟨p, l, e, R, s, m, args, below, meth, c⟩, rv, sf⟩ := V
  obtain ⟨d, rfl⟩ := d
  cases ho
  intro H locs ls hP hS hl
  exact W.lret hV.1 hV.2.1 (hV.2.2.2.2.2.2.2.2.1.trans hr) (fun t ht _ => ⟨⟨a, (), rfl, rfl, (show va_P G.1 cx_cls (ax_ws Sd.1 G x) t.heap by rw [ht]; exact hP)⟩, by rw [ht]; exact hS.1, fun q hq hA => by rw [ht]; exact hS.2.1 q hq hA⟩) hS.2.2 d hV.2.2.2.2.2.2.2.2.2.1
theorem ax_zr {V : ax_V} {μ : ax_Mu} (hV : ax_ok V μ) {pc nx : Nat} {lv : List (Option Value)} {x : ax_S} {a : Int32} (hr : μ.2.2.2.1 = some .boolean) (hz : a &&& 1 = a) (d : ax_D μ.2.1 pc .ireturn 1 nx) (ho : V.2.2.2 = (some (.int a), x)) : ax_At V pc lv [.int a] x := by
  obtain ⟨Sd, G, ⟨p, l, e, R, s, m, args, below, meth, c⟩, rv, sf⟩ := V
  obtain ⟨d, rfl⟩ := d
  cases ho
  intro H locs ls hP hS hl
  exact W.zret hV.1 hV.2.1 (hV.2.2.2.2.2.2.2.2.1.trans hr) (by simp only [narrow]; rw [hz]) (fun t ht _ => ⟨⟨a, (), rfl, rfl, (show va_P G.1 cx_cls (ax_ws Sd.1 G x) t.heap by rw [ht]; exact hP)⟩, by rw [ht]; exact hS.1, fun q hq hA => by rw [ht]; exact hS.2.1 q hq hA⟩) hS.2.2 d hV.2.2.2.2.2.2.2.2.2.1
theorem ax_zb_and {a b : Int32} (h : ax_zb a = some b) : b &&& 1 = b ∧ a = b := by
  unfold ax_zb at h
  split at h
  · rename_i q
    cases h
    exact ⟨q.1, rfl⟩
  · cases h
theorem ax_zr2 {V : ax_V} {μ : ax_Mu} (hV : ax_ok V μ) {pc nx : Nat} {lv : List (Option Value)} {x : ax_S} {a : Int32} (hr : μ.2.2.2.1 = some .boolean) (d : ax_D μ.2.1 pc .ireturn 1 nx) (b : Int32) (hz : ax_zb a = some b) (ho : V.2.2.2 = (some (.int b), x)) : ax_At V pc lv [.int a] x := by
  obtain ⟨h1, h2⟩ := ax_zb_and hz
  subst h2
  exact ax_zr hV hr h1 d ho
theorem ax_jz {V : ax_V} {ρ : Type} {P : ρ → Prop} {pc : Nat} {lv : List (Option Value)} {st : List Value} {x : ax_S} {o : Option Int32} {K : Int32 → ρ} (h : ∀ v, o = some v → P (K v) → ax_At V pc lv st x) : ax_J V P pc lv st x (o.bind (fun v => some (K v))) := fun r hr hp => by
  cases ho : o with
  | none => rw [ho] at hr; cases hr
  | some v =>
    rw [ho] at hr
    cases hr
    exact h v ho hp
theorem ax_vr {V : ax_V} {μ : ax_Mu} (hV : ax_ok V μ) {pc nx : Nat} {lv : List (Option Value)} {x : ax_S} (hr : μ.2.2.2.1 = none) (d : ax_D μ.2.1 pc .return_ 1 nx) (ho : V.2.2.2 = (none, x)) : ax_At V pc lv [] x := by
  obtain ⟨Sd, G, ⟨p, l, e, R, s, m, args, below, meth, c⟩, rv, sf⟩ := V
  obtain ⟨d, rfl⟩ := d
  cases ho
  intro H locs ls hP hS hl
  exact W.vret hV.1 hV.2.1 (hV.2.2.2.2.2.2.2.2.1.trans hr) (fun t ht _ => ⟨⟨(), rfl, trivial, (show va_P G.1 cx_cls (ax_ws Sd.1 G x) t.heap by rw [ht]; exact hP)⟩, by rw [ht]; exact hS.1, fun q hq hA => by rw [ht]; exact hS.2.1 q hq hA⟩) hS.2.2 d hV.2.2.2.2.2.2.2.2.2.1
theorem ax_Z_S {C n d : String} {v : Value} {A : Nat → Prop} {U : State} {H0 H : Heap} {locs : List Loc} (h : va_Z C n d v A U H0) (hS : va_S A H0 H locs) : va_Z C n d v A U H := by
  obtain ⟨cf, kf, fi, f, a, cell, h1, h2, h3, h4, h5, h6, h7, h8⟩ := h
  exact ⟨cf, kf, fi, f, a, cell, h1, h2, h3, h4, by rw [hS.2.1 a (Array.getElem?_eq_some_iff.mp h5).1 h8]; exact h5, h6, h7, h8⟩
theorem ax_T_S {ty : FieldType} {t N : Nat} {f : Nat → Value} {A : Nat → Prop} {U : State} {H0 H : Heap} {locs : List Loc} (h : va_T ty t N f A U H0) (hS : va_S A H0 H locs) : va_T ty t N f A U H := by
  obtain ⟨cell, h1, h2, h3, h4, h5, h6, h7⟩ := h
  exact ⟨cell, by rw [hS.2.1 t (Array.getElem?_eq_some_iff.mp h1).1 h7]; exact h1, h2, h3, h4, h5, h6, h7⟩
theorem ax_stat_to {St : ax_St} {A : Nat → Prop} {G : ax_G} {s U : State} {H0 H : Heap} {locs : List Loc} (h : ax_stat St A G s H0) (hS : va_S A H0 H locs) (hvm : s.vm.Alike U.vm) : ax_stat St A G U H := fun q hq => ⟨va_Z.moved hvm (ax_Z_S (h q hq).1 hS), va_T.moved hvm (ax_T_S (h q hq).2 hS)⟩
theorem ax_blind {Sd : ax_Sd} {G : ax_G} {av : List Value} {x : ax_S} : FrameBlind (va_Pc av (fun U => va_P G.1 cx_cls (ax_ws Sd.1 G x) U.heap ∧ ax_U Sd G U)) := fun a U g mk q => ⟨q.1, q.2.1, va_K.moved (u := U) (U := U.calling g mk a) (Vm.Alike.refl U.vm) q.2.2.1, fun z hz => ⟨va_Z.moved (u := U) (U := U.calling g mk a) (Vm.Alike.refl U.vm) (q.2.2.2 z hz).1, va_T.moved (u := U) (U := U.calling g mk a) (Vm.Alike.refl U.vm) (q.2.2.2 z hz).2⟩⟩
theorem ax_gw : ax_tb.all goodWord = true := List.all_eq_true.mpr (fun w h => (List.mem_filter.mp h).2)
theorem ax_good : GoodIn ax_tb ax_tb := fun w h => ⟨h, good_of_word (List.all_eq_true.mp ax_gw w h)⟩
theorem ax_goodw {μ : ax_Mu} (h : Cond.code μ.1 μ.2.1 μ.2.2.1 μ.2.2.2.1 ∈ ax_tb) : GoodIn ax_tb (ax_w μ) := fun w hw => by
  rcases List.mem_cons.mp hw with q | q
  · subst q
    exact ax_good _ h
  · exact ax_good w q
def ax_nam (μ : ax_Mu) (n : Nat) : Prop := μ.1.cls ≠ "java/lang/invoke/MethodHandle" ∧ μ.1.cls ≠ "java/lang/invoke/VarHandle" ∧ (parseMethodDescriptor μ.1.desc).map (fun d => d.parameters.length) = some n
def ax_lkV (own : String) (ix : Nat) (μ : ax_Mu) (C : String) (n : Nat) : Prop := GoodIn ax_tb (wsV own ix C μ.1 (ax_w μ)) ∧ μ.1.cls = C ∧ ax_nam μ n
def ax_lkS (own : String) (ix : Nat) (μ : ax_Mu) (n : Nat) : Prop := GoodIn ax_tb (va_wsS own ix μ.1 (ax_w μ)) ∧ ax_nam μ n
theorem ax_lkV_of {own : String} {ix : Nat} {μ : ax_Mu} {C : String} {n : Nat} (h1 : Cond.methodLink own ix μ.1 ∈ ax_tb) (h2 : Cond.instanceMethod μ.1 ∈ ax_tb) (h3 : Cond.selects C μ.1 μ.1 ∈ ax_tb) (h4 : Cond.initialized C ∈ ax_tb) (h5 : Cond.code μ.1 μ.2.1 μ.2.2.1 μ.2.2.2.1 ∈ ax_tb) (hc : μ.1.cls = C) (hn : ax_nam μ n) : ax_lkV own ix μ C n := by
  refine ⟨fun w hw => ?_, hc, hn⟩
  rcases List.mem_append.mp hw with q | q
  · simp only [List.mem_cons, List.not_mem_nil, or_false] at q
    rcases q with q | q | q | q <;> subst q
    · exact ax_good _ h1
    · exact ax_good _ h2
    · exact ax_good _ h3
    · exact ax_good _ h4
  · exact ax_goodw h5 w q
theorem ax_lkS_of {own : String} {ix : Nat} {μ : ax_Mu} {n : Nat} (h1 : Cond.methodLink own ix μ.1 ∈ ax_tb) (h2 : Cond.static μ.1 ∈ ax_tb) (h4 : Cond.initialized μ.1.cls ∈ ax_tb) (h5 : Cond.code μ.1 μ.2.1 μ.2.2.1 μ.2.2.2.1 ∈ ax_tb) (hn : ax_nam μ n) : ax_lkS own ix μ n := by
  refine ⟨fun w hw => ?_, hn⟩
  rcases List.mem_append.mp hw with q | q
  · simp only [List.mem_cons, List.not_mem_nil, or_false] at q
    rcases q with q | q | q <;> subst q
    · exact ax_good _ h1
    · exact ax_good _ h2
    · exact ax_good _ h4
  · exact ax_goodw h5 w q
def ax_rmle (μ' μ : ax_Mu) : Bool := Nat.ble (μ'.2.2.2.2.1 + 1) μ.2.2.2.2.1 && Nat.ble (8 + (μ'.2.2.1 + 11) + μ'.2.2.2.2.2) μ.2.2.2.2.2
theorem ax_rmle_R {μ' μ : ax_Mu} {R : Room} (h : ax_rmle μ' μ = true) (hR : R = ax_rm μ) : (ax_rm μ').frames + 1 ≤ R.frames ∧ 8 + (μ'.2.2.1 + 11) + (ax_rm μ').locals ≤ R.locals := by
  subst hR
  have h := Bool.and_eq_true _ _ ▸ h
  exact ⟨Nat.le_of_ble_eq_true h.1, Nat.le_of_ble_eq_true h.2⟩
theorem ax_cVi {V : ax_V} {μ : ax_Mu} (hV : ax_ok V μ) {pc nx : Nat} {lv : List (Option Value)} {st : List Value} {x : ax_S} {μ' : ax_Mu} {ix n a ci N : Nat} {C : String} {T : u_T} {fds : List Nat} (hlk : ax_lkV μ.1.cls ix μ' C n) (hrm : ax_rmle μ' μ = true) (d : ax_D μ.2.1 pc (.invokevirtual ix) 3 nx) (hL : V.1.1[a]? = some (0, ci, fds)) (hc : cx_cls[ci]? = some (C, T, N)) (As rest : List Value) (av : (Nat → Nat) → List Value) (hav : av (ax_ad V) = .ref (ax_ad V a) :: As) (hn : As.length = n) (hst : st = As.reverse ++ .ref (ax_ad V a) :: rest) (hw : Nat.ble ((rest.map fun v => v.category).sum) 8 = true) (r : Int32) (x' : ax_S) (hm : ax_M V.1 μ' av x (some (.int r)) x') (k : ax_At V nx lv (.int r :: rest) x') : ax_At V pc lv st x := by
  obtain ⟨Sd, G, ⟨p, l, e, R, s, m, args, below, meth, c⟩, rv, sf⟩ := V
  obtain ⟨d, rfl⟩ := d
  have hm := hm l G hV.2.2.2.2.2.2.1
  intro H locs ls hP hS hl
  have hm' : Met l μ'.1 (ax_w μ') (ax_rm μ') (va_Pc (av G.2.1) (fun U => va_P G.1 cx_cls (ax_ws Sd.1 G x) U.heap ∧ ax_U Sd G U)) (va_Qi (fun y (_ : Unit) => y = r) (fun _ t => va_P G.1 cx_cls (ax_ws Sd.1 G x') t.heap) (ax_A Sd.1 G)) 0 0 (ax_A Sd.1 G) := hm
  refine va_calli (va_runV (As := As) (rest := rest) ⟨hV.1, hV.2.1, rfl, hV.2.2.2.1, hV.2.2.2.2.1⟩ hm' (cwV n hV.2.2.2.2.1 hlk.1 rfl rfl rfl ⟨hlk.2.1, hlk.2.2⟩ (ax_rmle_R hrm hV.2.2.2.2.2.2.2.2.2.2)) ⟨ax_blind, va_recv hV.2.2.2.2.2.1 hP hc (ax_ws_get (G := G) (s := x) hL), fun U hU hW => ⟨?_, ?_, va_K.moved hW.alike hV.2.2.2.2.2.1, ?_⟩⟩ rfl hn hl.1 hst (lv_room (Nat.le_of_ble_eq_true hw)) d ⟨Nat.zero_le _, Nat.zero_le _⟩) hS (fun q _ h => h) (fun q h => h) (fun r' u t H1 locs1 ht hvm hpost hB hsz hk hS1 => ?_)
  · exact congrArg List.toArray hav.symm
  · rw [hU]; exact hP
  · rw [hU]; exact ax_stat_to hV.2.2.2.2.2.2.2.1 hS hW.alike
  · have hpost : r' = r := hpost
    subst hpost
    rw [ht] at hB
    exact k H1 locs1 ls hB hS1 hl
theorem ax_cSi {V : ax_V} {μ : ax_Mu} (hV : ax_ok V μ) {pc nx : Nat} {lv : List (Option Value)} {st : List Value} {x : ax_S} {μ' : ax_Mu} {ix n : Nat} (hlk : ax_lkS μ.1.cls ix μ' n) (hrm : ax_rmle μ' μ = true) (d : ax_D μ.2.1 pc (.invokestatic ix) 3 nx) (As rest : List Value) (av : (Nat → Nat) → List Value) (hav : av (ax_ad V) = As) (hn : As.length = n) (hst : st = As.reverse ++ rest) (hw : Nat.ble ((rest.map fun v => v.category).sum) 8 = true) (r : Int32) (x' : ax_S) (hm : ax_M V.1 μ' av x (some (.int r)) x') (k : ax_At V nx lv (.int r :: rest) x') : ax_At V pc lv st x := by
  obtain ⟨Sd, G, ⟨p, l, e, R, s, m, args, below, meth, c⟩, rv, sf⟩ := V
  obtain ⟨d, rfl⟩ := d
  have hm := hm l G hV.2.2.2.2.2.2.1
  intro H locs ls hP hS hl
  have hm' : Met l μ'.1 (ax_w μ') (ax_rm μ') (va_Pc (av G.2.1) (fun U => va_P G.1 cx_cls (ax_ws Sd.1 G x) U.heap ∧ ax_U Sd G U)) (va_Qi (fun y (_ : Unit) => y = r) (fun _ t => va_P G.1 cx_cls (ax_ws Sd.1 G x') t.heap) (ax_A Sd.1 G)) 0 0 (ax_A Sd.1 G) := hm
  refine va_calli (va_runS (As := As) (rest := rest) ⟨hV.1, hV.2.1, rfl, hV.2.2.2.1, hV.2.2.2.2.1⟩ hm' (va_cwS n hV.2.2.2.2.1 hlk.1 rfl rfl rfl hlk.2 (ax_rmle_R hrm hV.2.2.2.2.2.2.2.2.2.2)) ⟨ax_blind, fun U hU hW => ⟨?_, ?_, va_K.moved hW.alike hV.2.2.2.2.2.1, ?_⟩⟩ rfl hn hl.1 hst (lv_room (Nat.le_of_ble_eq_true hw)) d ⟨Nat.zero_le _, Nat.zero_le _⟩) hS (fun q _ h => h) (fun q h => h) (fun r' u t H1 locs1 ht hvm hpost hB hsz hk hS1 => ?_)
  · exact congrArg List.toArray hav.symm
  · rw [hU]; exact hP
  · rw [hU]; exact ax_stat_to hV.2.2.2.2.2.2.2.1 hS hW.alike
  · have hpost : r' = r := hpost
    subst hpost
    rw [ht] at hB
    exact k H1 locs1 ls hB hS1 hl
theorem ax_cVl {V : ax_V} {μ : ax_Mu} (hV : ax_ok V μ) {pc nx : Nat} {lv : List (Option Value)} {st : List Value} {x : ax_S} {μ' : ax_Mu} {ix n a ci N : Nat} {C : String} {T : u_T} {fds : List Nat} (hlk : ax_lkV μ.1.cls ix μ' C n) (hrm : ax_rmle μ' μ = true) (d : ax_D μ.2.1 pc (.invokevirtual ix) 3 nx) (hL : V.1.1[a]? = some (0, ci, fds)) (hc : cx_cls[ci]? = some (C, T, N)) (As rest : List Value) (av : (Nat → Nat) → List Value) (hav : av (ax_ad V) = .ref (ax_ad V a) :: As) (hn : As.length = n) (hst : st = As.reverse ++ .ref (ax_ad V a) :: rest) (hw : Nat.ble ((rest.map fun v => v.category).sum) 8 = true) (r : Int64) (x' : ax_S) (hm : ax_M V.1 μ' av x (some (.long r)) x') (k : ax_At V nx lv (.long r :: rest) x') : ax_At V pc lv st x := by
  obtain ⟨Sd, G, ⟨p, l, e, R, s, m, args, below, meth, c⟩, rv, sf⟩ := V
  obtain ⟨d, rfl⟩ := d
  have hm := hm l G hV.2.2.2.2.2.2.1
  intro H locs ls hP hS hl
  have hm' : Met l μ'.1 (ax_w μ') (ax_rm μ') (va_Pc (av G.2.1) (fun U => va_P G.1 cx_cls (ax_ws Sd.1 G x) U.heap ∧ ax_U Sd G U)) (va_Ql (fun y (_ : Unit) => y = r) (fun _ t => va_P G.1 cx_cls (ax_ws Sd.1 G x') t.heap) (ax_A Sd.1 G)) 0 0 (ax_A Sd.1 G) := hm
  refine va_calll (va_runV (As := As) (rest := rest) ⟨hV.1, hV.2.1, rfl, hV.2.2.2.1, hV.2.2.2.2.1⟩ hm' (cwV n hV.2.2.2.2.1 hlk.1 rfl rfl rfl ⟨hlk.2.1, hlk.2.2⟩ (ax_rmle_R hrm hV.2.2.2.2.2.2.2.2.2.2)) ⟨ax_blind, va_recv hV.2.2.2.2.2.1 hP hc (ax_ws_get (G := G) (s := x) hL), fun U hU hW => ⟨?_, ?_, va_K.moved hW.alike hV.2.2.2.2.2.1, ?_⟩⟩ rfl hn hl.1 hst (lv_room (Nat.le_of_ble_eq_true hw)) d ⟨Nat.zero_le _, Nat.zero_le _⟩) hS (fun q _ h => h) (fun q h => h) (fun r' u t H1 locs1 ht hvm hpost hB hsz hk hS1 => ?_)
  · exact congrArg List.toArray hav.symm
  · rw [hU]; exact hP
  · rw [hU]; exact ax_stat_to hV.2.2.2.2.2.2.2.1 hS hW.alike
  · have hpost : r' = r := hpost
    subst hpost
    rw [ht] at hB
    exact k H1 locs1 ls hB hS1 hl
theorem ax_cSl {V : ax_V} {μ : ax_Mu} (hV : ax_ok V μ) {pc nx : Nat} {lv : List (Option Value)} {st : List Value} {x : ax_S} {μ' : ax_Mu} {ix n : Nat} (hlk : ax_lkS μ.1.cls ix μ' n) (hrm : ax_rmle μ' μ = true) (d : ax_D μ.2.1 pc (.invokestatic ix) 3 nx) (As rest : List Value) (av : (Nat → Nat) → List Value) (hav : av (ax_ad V) = As) (hn : As.length = n) (hst : st = As.reverse ++ rest) (hw : Nat.ble ((rest.map fun v => v.category).sum) 8 = true) (r : Int64) (x' : ax_S) (hm : ax_M V.1 μ' av x (some (.long r)) x') (k : ax_At V nx lv (.long r :: rest) x') : ax_At V pc lv st x := by
  obtain ⟨Sd, G, ⟨p, l, e, R, s, m, args, below, meth, c⟩, rv, sf⟩ := V
  obtain ⟨d, rfl⟩ := d
  have hm := hm l G hV.2.2.2.2.2.2.1
  intro H locs ls hP hS hl
  have hm' : Met l μ'.1 (ax_w μ') (ax_rm μ') (va_Pc (av G.2.1) (fun U => va_P G.1 cx_cls (ax_ws Sd.1 G x) U.heap ∧ ax_U Sd G U)) (va_Ql (fun y (_ : Unit) => y = r) (fun _ t => va_P G.1 cx_cls (ax_ws Sd.1 G x') t.heap) (ax_A Sd.1 G)) 0 0 (ax_A Sd.1 G) := hm
  refine va_calll (va_runS (As := As) (rest := rest) ⟨hV.1, hV.2.1, rfl, hV.2.2.2.1, hV.2.2.2.2.1⟩ hm' (va_cwS n hV.2.2.2.2.1 hlk.1 rfl rfl rfl hlk.2 (ax_rmle_R hrm hV.2.2.2.2.2.2.2.2.2.2)) ⟨ax_blind, fun U hU hW => ⟨?_, ?_, va_K.moved hW.alike hV.2.2.2.2.2.1, ?_⟩⟩ rfl hn hl.1 hst (lv_room (Nat.le_of_ble_eq_true hw)) d ⟨Nat.zero_le _, Nat.zero_le _⟩) hS (fun q _ h => h) (fun q h => h) (fun r' u t H1 locs1 ht hvm hpost hB hsz hk hS1 => ?_)
  · exact congrArg List.toArray hav.symm
  · rw [hU]; exact hP
  · rw [hU]; exact ax_stat_to hV.2.2.2.2.2.2.2.1 hS hW.alike
  · have hpost : r' = r := hpost
    subst hpost
    rw [ht] at hB
    exact k H1 locs1 ls hB hS1 hl
theorem ax_cVv {V : ax_V} {μ : ax_Mu} (hV : ax_ok V μ) {pc nx : Nat} {lv : List (Option Value)} {st : List Value} {x : ax_S} {μ' : ax_Mu} {ix n a ci N : Nat} {C : String} {T : u_T} {fds : List Nat} (hlk : ax_lkV μ.1.cls ix μ' C n) (hrm : ax_rmle μ' μ = true) (d : ax_D μ.2.1 pc (.invokevirtual ix) 3 nx) (hL : V.1.1[a]? = some (0, ci, fds)) (hc : cx_cls[ci]? = some (C, T, N)) (As rest : List Value) (av : (Nat → Nat) → List Value) (hav : av (ax_ad V) = .ref (ax_ad V a) :: As) (hn : As.length = n) (hst : st = As.reverse ++ .ref (ax_ad V a) :: rest) (hw : Nat.ble ((rest.map fun v => v.category).sum) 8 = true) (x' : ax_S) (hm : ax_M V.1 μ' av x none x') (k : ax_At V nx lv (rest) x') : ax_At V pc lv st x := by
  obtain ⟨Sd, G, ⟨p, l, e, R, s, m, args, below, meth, c⟩, rv, sf⟩ := V
  obtain ⟨d, rfl⟩ := d
  have hm := hm l G hV.2.2.2.2.2.2.1
  intro H locs ls hP hS hl
  have hm' : Met l μ'.1 (ax_w μ') (ax_rm μ') (va_Pc (av G.2.1) (fun U => va_P G.1 cx_cls (ax_ws Sd.1 G x) U.heap ∧ ax_U Sd G U)) (va_Qv (fun (_ : Unit) => True) (fun _ t => va_P G.1 cx_cls (ax_ws Sd.1 G x') t.heap) (ax_A Sd.1 G)) 0 0 (ax_A Sd.1 G) := hm
  refine va_callv (va_runV (As := As) (rest := rest) ⟨hV.1, hV.2.1, rfl, hV.2.2.2.1, hV.2.2.2.2.1⟩ hm' (cwV n hV.2.2.2.2.1 hlk.1 rfl rfl rfl ⟨hlk.2.1, hlk.2.2⟩ (ax_rmle_R hrm hV.2.2.2.2.2.2.2.2.2.2)) ⟨ax_blind, va_recv hV.2.2.2.2.2.1 hP hc (ax_ws_get (G := G) (s := x) hL), fun U hU hW => ⟨?_, ?_, va_K.moved hW.alike hV.2.2.2.2.2.1, ?_⟩⟩ rfl hn hl.1 hst (lv_room (Nat.le_of_ble_eq_true hw)) d ⟨Nat.zero_le _, Nat.zero_le _⟩) hS (fun q _ h => h) (fun q h => h) (fun u t H1 locs1 ht hvm hpost hB hsz hk hS1 => ?_)
  · exact congrArg List.toArray hav.symm
  · rw [hU]; exact hP
  · rw [hU]; exact ax_stat_to hV.2.2.2.2.2.2.2.1 hS hW.alike
  · rw [ht] at hB
    exact k H1 locs1 ls hB hS1 hl
theorem ax_cSv {V : ax_V} {μ : ax_Mu} (hV : ax_ok V μ) {pc nx : Nat} {lv : List (Option Value)} {st : List Value} {x : ax_S} {μ' : ax_Mu} {ix n : Nat} (hlk : ax_lkS μ.1.cls ix μ' n) (hrm : ax_rmle μ' μ = true) (d : ax_D μ.2.1 pc (.invokestatic ix) 3 nx) (As rest : List Value) (av : (Nat → Nat) → List Value) (hav : av (ax_ad V) = As) (hn : As.length = n) (hst : st = As.reverse ++ rest) (hw : Nat.ble ((rest.map fun v => v.category).sum) 8 = true) (x' : ax_S) (hm : ax_M V.1 μ' av x none x') (k : ax_At V nx lv (rest) x') : ax_At V pc lv st x := by
  obtain ⟨Sd, G, ⟨p, l, e, R, s, m, args, below, meth, c⟩, rv, sf⟩ := V
  obtain ⟨d, rfl⟩ := d
  have hm := hm l G hV.2.2.2.2.2.2.1
  intro H locs ls hP hS hl
  have hm' : Met l μ'.1 (ax_w μ') (ax_rm μ') (va_Pc (av G.2.1) (fun U => va_P G.1 cx_cls (ax_ws Sd.1 G x) U.heap ∧ ax_U Sd G U)) (va_Qv (fun (_ : Unit) => True) (fun _ t => va_P G.1 cx_cls (ax_ws Sd.1 G x') t.heap) (ax_A Sd.1 G)) 0 0 (ax_A Sd.1 G) := hm
  refine va_callv (va_runS (As := As) (rest := rest) ⟨hV.1, hV.2.1, rfl, hV.2.2.2.1, hV.2.2.2.2.1⟩ hm' (va_cwS n hV.2.2.2.2.1 hlk.1 rfl rfl rfl hlk.2 (ax_rmle_R hrm hV.2.2.2.2.2.2.2.2.2.2)) ⟨ax_blind, fun U hU hW => ⟨?_, ?_, va_K.moved hW.alike hV.2.2.2.2.2.1, ?_⟩⟩ rfl hn hl.1 hst (lv_room (Nat.le_of_ble_eq_true hw)) d ⟨Nat.zero_le _, Nat.zero_le _⟩) hS (fun q _ h => h) (fun q h => h) (fun u t H1 locs1 ht hvm hpost hB hsz hk hS1 => ?_)
  · exact congrArg List.toArray hav.symm
  · rw [hU]; exact hP
  · rw [hU]; exact ax_stat_to hV.2.2.2.2.2.2.2.1 hS hW.alike
  · rw [ht] at hB
    exact k H1 locs1 ls hB hS1 hl
def ax_min (a b : Int32) : Int32 := if b < a then b else a
def ax_max (a b : Int32) : Int32 := if a < b then b else a
def ax_lkM (own : String) (ix : Nat) (y : MethodName) (bs : ByteArray) : Prop := Cond.methodLink own ix y ∈ ax_tb ∧ Cond.static y ∈ ax_tb ∧ Cond.initialized "java/lang/Math" ∈ ax_tb ∧ Cond.code y bs 2 (some .int) ∈ ax_tb
theorem ax_mmin {V : ax_V} {μ : ax_Mu} (hV : ax_ok V μ) {pc nx : Nat} {lv : List (Option Value)} {st : List Value} {x : ax_S} {ix : Nat} {a b : Int32} (hlk : ax_lkM μ.1.cls ix Lib.Math.min.name Lib.Math.min.code) (hrm : (Nat.ble 1 μ.2.2.2.2.1 && Nat.ble ((st.map fun v => v.category).sum + 13) μ.2.2.2.2.2) = true) (d : ax_D μ.2.1 pc (.invokestatic ix) 3 nx) (k : ax_At V nx lv (.int (ax_min a b) :: st) x) : ax_At V pc lv (.int b :: .int a :: st) x := by
  obtain ⟨Sd, G, ⟨p, l, e, R, s, m, args, below, meth, c⟩, rv, sf⟩ := V
  obtain ⟨d, rfl⟩ := d
  have hrm := Bool.and_eq_true _ _ ▸ hrm
  have hR : R = ax_rm μ := hV.2.2.2.2.2.2.2.2.2.2
  subst hR
  intro H locs ls hP hS hl
  exact va_mmin hV.1 hV.2.1 hl.1.symm hV.2.2.2.1 (hV.2.2.2.2.1 _ hlk.1) (hV.2.2.2.2.1 _ hlk.2.1) (hV.2.2.2.2.1 _ hlk.2.2.1) (hV.2.2.2.2.1 _ hlk.2.2.2) (Nat.le_of_ble_eq_true hrm.1) (Nat.le_of_ble_eq_true hrm.2) (Nat.zero_le _) (Nat.zero_le _) d (k H locs ls hP hS hl)
theorem ax_mmax {V : ax_V} {μ : ax_Mu} (hV : ax_ok V μ) {pc nx : Nat} {lv : List (Option Value)} {st : List Value} {x : ax_S} {ix : Nat} {a b : Int32} (hlk : ax_lkM μ.1.cls ix Lib.Math.max.name Lib.Math.max.code) (hrm : (Nat.ble 1 μ.2.2.2.2.1 && Nat.ble ((st.map fun v => v.category).sum + 13) μ.2.2.2.2.2) = true) (d : ax_D μ.2.1 pc (.invokestatic ix) 3 nx) (k : ax_At V nx lv (.int (ax_max a b) :: st) x) : ax_At V pc lv (.int b :: .int a :: st) x := by
  obtain ⟨Sd, G, ⟨p, l, e, R, s, m, args, below, meth, c⟩, rv, sf⟩ := V
  obtain ⟨d, rfl⟩ := d
  have hrm := Bool.and_eq_true _ _ ▸ hrm
  have hR : R = ax_rm μ := hV.2.2.2.2.2.2.2.2.2.2
  subst hR
  intro H locs ls hP hS hl
  exact va_mmax hV.1 hV.2.1 hl.1.symm hV.2.2.2.1 (hV.2.2.2.2.1 _ hlk.1) (hV.2.2.2.2.1 _ hlk.2.1) (hV.2.2.2.2.1 _ hlk.2.2.1) (hV.2.2.2.2.1 _ hlk.2.2.2) (Nat.le_of_ble_eq_true hrm.1) (Nat.le_of_ble_eq_true hrm.2) (Nat.zero_le _) (Nat.zero_le _) d (k H locs ls hP hS hl)
def ax_cp (Sd : ax_Sd) (x : ax_S) (a : Nat) (sp : Int32) (b : Nat) (dp n : Int32) : Option ax_S := (ax_len Sd 1 a).bind (fun na => (ax_len Sd 1 b).bind (fun nb => if sp < 0 ∨ dp < 0 ∨ n < 0 ∨ na < sp.toNatClampNeg + n.toNatClampNeg ∨ nb < dp.toNatClampNeg + n.toNatClampNeg then none else some (ax_wi x b (va_cpy (x.1 a) (x.1 b) sp.toNatClampNeg dp.toNatClampNeg n.toNatClampNeg))))
def ax_lkC (own : String) (ix : Nat) : Prop := Cond.methodLink own ix arraycopyName ∈ ax_tb ∧ Cond.native arraycopyName ∈ ax_tb ∧ Cond.static arraycopyName ∈ ax_tb ∧ Cond.initialized "java/lang/System" ∈ ax_tb
theorem ax_copy {V : ax_V} {μ : ax_Mu} (hV : ax_ok V μ) {pc nx : Nat} {lv : List (Option Value)} {st : List Value} {x : ax_S} {ix a b : Nat} {sp dp n : Int32} (hlk : ax_lkC μ.1.cls ix) (hrm : (Nat.ble 1 μ.2.2.2.2.1 && Nat.ble ((st.map fun v => v.category).sum + (nativeFrameWords "java/lang/System" "arraycopy" 5 + 11)) μ.2.2.2.2.2) = true) (d : ax_D μ.2.1 pc (.invokestatic ix) 3 nx) (x' : ax_S) (ho : ax_cp V.1 x a sp b dp n = some x') (k : ax_At V nx lv st x') : ax_At V pc lv (.int n :: .int dp :: .ref (ax_ad V b) :: .int sp :: .ref (ax_ad V a) :: st) x := by
  obtain ⟨Sd, G, ⟨p, l, e, R, s, m, args, below, meth, c⟩, rv, sf⟩ := V
  obtain ⟨d, rfl⟩ := d
  obtain ⟨na, hna, ho⟩ := Option.bind_eq_some_iff.mp ho
  obtain ⟨nb, hnb, ho⟩ := Option.bind_eq_some_iff.mp ho
  obtain ⟨fa, hLa⟩ := ax_len_some hna
  obtain ⟨fb, hLb⟩ := ax_len_some hnb
  split at ho
  · cases ho
  · rename_i hin
    simp only [not_or, Nat.not_lt] at hin
    cases ho
    have hrm := Bool.and_eq_true _ _ ▸ hrm
    have hR : R = ax_rm μ := hV.2.2.2.2.2.2.2.2.2.2
    subst hR
    intro H locs ls hP hS hl
    refine va_copyi hV.1 hV.2.1 hl.1.symm hV.2.2.2.1 (hV.2.2.2.2.1 _ hlk.1) (hV.2.2.2.2.1 _ hlk.2.1) (hV.2.2.2.2.1 _ hlk.2.2.1) (hV.2.2.2.2.1 _ hlk.2.2.2) hV.2.2.2.2.2.1 hP (ax_D_of hV.2.2.2.2.2.2.1 x) hS a b 0 0 (ax_ws_get (G := G) (s := x) hLa) (ax_ws_get (G := G) (s := x) hLb) (ty := .int) rfl rfl rfl hin.1 hin.2.1 hin.2.2.1 hin.2.2.2.1 hin.2.2.2.2 (fun _ _ => rfl) (Nat.le_of_ble_eq_true hrm.1) (Nat.le_of_ble_eq_true hrm.2) d (fun H1 locs1 hP1 _ hS1 => ?_)
    refine k H1 locs1 ls ?_ hS1 hl
    rw [ax_ws_set (s' := ax_wi x b (va_cpy (x.1 a) (x.1 b) sp.toNatClampNeg dp.toNatClampNeg n.toNatClampNeg)) hLb (by simp [ax_e, ax_wi]) (fun i d' hi => ax_e_congr (by exact ax_wi_ne hi) (by rfl) d')] at hP1
    exact hP1
def ax_en (vs : List Value) : List (Option Value) := vs.flatMap (fun v => if v.category = 2 then [some v, none] else [some v])
theorem ax_en_args (vs : List Value) : ∀ (k i : Nat) (v : Value), (ax_en vs)[i]? = some (some v) → (k + i, v) ∈ lv_args k vs := by
  induction vs with
  | nil => intro k i v h; simp [ax_en] at h
  | cons a vs ih =>
    intro k i v h
    have e : ax_en (a :: vs) = (if a.category = 2 then [some a, none] else [some a]) ++ ax_en vs := by simp [ax_en]
    rw [e] at h
    by_cases hc : a.category = 2
    · rw [if_pos hc] at h
      match i, h with
      | 0, h => cases h; simp [lv_args]
      | 1, h => cases h
      | i + 2, h =>
        have h' : (ax_en vs)[i]? = some (some v) := h
        have := ih (k + 2) i v h'
        simp only [lv_args, hc, List.mem_cons]
        right
        have e2 : k + (i + 2) = k + 2 + i := by omega
        rw [e2]
        simpa using this
    · rw [if_neg hc] at h
      match i, h with
      | 0, h => cases h; simp [lv_args]
      | i + 1, h =>
        have h' : (ax_en vs)[i]? = some (some v) := h
        have hc1 : a.category = 1 := (lv_cat a).resolve_right hc
        have := ih (k + 1) i v h'
        simp only [lv_args, hc1, List.mem_cons]
        right
        have e2 : k + (i + 1) = k + 1 + i := by omega
        rw [e2]
        simpa using this
theorem ax_enter {Sd : ax_Sd} {μ : ax_Mu} {av : (Nat → Nat) → List Value} {s : ax_S} {rv : Option Value} {sf : ax_S} (hy : plainName μ.1.cls = true) (r : Nat) (lv0 : (Nat → Nat) → List (Option Value)) (hlv : ∀ ad, ax_en (av ad) ++ List.replicate r none = lv0 ad) (hn : ∀ ad, (lg_sl (av ad)).length ≤ μ.2.2.1)
    (hb : ∀ X : ax_G × ax_K × Option Value × ax_S, ax_ok (Sd, X) μ → X.2.2 = (rv, sf) → ax_At (Sd, X) 0 (lv0 (ax_ad (Sd, X))) [] s) : ax_M Sd μ av s rv sf := by
  intro l G hinj
  refine Met.ofW (cc := μ.2.1) (maxL := μ.2.2.1) (ret := μ.2.2.2.1) hy rfl ?_
  intro p e s₀ m args below meth c s₁ B hml hv
  obtain ⟨rfl, hP, hK, hst⟩ := hv
  have hts := atoms_spec (ws := ax_w μ) B.pre
  have hl := lv_entry (av G.2.1) (n := μ.2.2.1) (hn G.2.1)
  rw [lg_entry_eq]
  generalize (lg_sl (av G.2.1) ++ List.replicate (μ.2.2.1 - (lg_sl (av G.2.1)).length) Slot.unset).toArray = ls at hl ⊢
  have k := hb (G, (p, l, e, ax_rm μ, s₀, m, (av G.2.1).toArray, below, meth, c), rv, sf) ⟨B.exec, B.bytes, hml, findClass_of_methodNamed B.named, fun w hw => hts w (List.mem_cons_of_mem _ hw), hK, hinj, hst, B.returns, B.notSynchronized, rfl⟩ rfl
  refine k s₀.heap [] ls hP va_S.rf ⟨by rw [hl.1]; exact hml.symm, hl.2.1, fun i v hi => ?_⟩
  have hi : (lv0 G.2.1)[i]? = some (some v) := hi
  rw [← hlv G.2.1] at hi
  rcases Nat.lt_or_ge i (ax_en (av G.2.1)).length with q | q
  · rw [List.getElem?_append_left q] at hi
    have := ax_en_args (av G.2.1) 0 i v hi
    rw [Nat.zero_add] at this
    exact hl.2.2 _ this
  · rw [List.getElem?_append_right q, List.getElem?_replicate] at hi
    split at hi
    · cases hi
    · cases hi

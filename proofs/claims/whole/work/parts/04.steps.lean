theorem ax_j {V : ax_V} {ρ : Type} {P : ρ → Prop} {pc pc2 : Nat} {lv lv2 : List (Option Value)} {st st2 : List Value} {x x2 : ax_S} {o : Option ρ} (h : ax_At V pc2 lv2 st2 x2 → ax_At V pc lv st x) (k : ax_J V P pc2 lv2 st2 x2 o) : ax_J V P pc lv st x o := fun r hr hp => h (k r hr hp)
theorem ax_jl {V : ax_V} {ρ : Type} {P : ρ → Prop} {pc : Nat} {lv : List (Option Value)} {st : List Value} {x : ax_S} {r : ρ} (h : P r → ax_At V pc lv st x) : ax_J V P pc lv st x (some r) := fun r' hr hp => by
  cases hr
  exact h hp
theorem ax_jn {V : ax_V} {ρ : Type} {P : ρ → Prop} {pc : Nat} {lv : List (Option Value)} {st : List Value} {x : ax_S} : ax_J V P pc lv st x none := fun r' hr hp => by cases hr
theorem ax_jif {V : ax_V} {ρ : Type} {P : ρ → Prop} {pc pc2 pc3 : Nat} {lv lv2 lv3 : List (Option Value)} {st st2 st3 : List Value} {x x2 x3 : ax_S} {o o2 : Option ρ} {c : Prop} [Decidable c] (h : (c → ax_At V pc2 lv2 st2 x2) → (¬ c → ax_At V pc3 lv3 st3 x3) → ax_At V pc lv st x) (k : ax_J V P pc2 lv2 st2 x2 o) (k2 : ax_J V P pc3 lv3 st3 x3 o2) : ax_J V P pc lv st x (if c then o else o2) := fun r hr hp => by
  by_cases hc : c
  · rw [if_pos hc] at hr
    exact h (fun _ => k r hr hp) (fun q => absurd hc q)
  · rw [if_neg hc] at hr
    exact h (fun q => absurd q hc) (fun _ => k2 r hr hp)
theorem ax_jc {V : ax_V} {ρ : Type} {P : ρ → Prop} {pc : Nat} {lv : List (Option Value)} {st : List Value} {x : ax_S} {o o2 : Option ρ} {c : Prop} [Decidable c] (k : c → ax_J V P pc lv st x o) (k2 : ¬ c → ax_J V P pc lv st x o2) : ax_J V P pc lv st x (if c then o else o2) := by
  by_cases hc : c
  · rw [if_pos hc]
    exact k hc
  · rw [if_neg hc]
    exact k2 hc
theorem ax_jb {V : ax_V} {ρ τ : Type} {P : ρ → Prop} {pc : Nat} {pc2 : τ → Nat} {lv : List (Option Value)} {lv2 : τ → List (Option Value)} {st : List Value} {st2 : τ → List Value} {x : ax_S} {x2 : τ → ax_S} {o : Option τ} {K : τ → Option ρ} (h : ∀ v, o = some v → ax_At V (pc2 v) (lv2 v) (st2 v) (x2 v) → ax_At V pc lv st x) (k : ∀ v, ax_J V P (pc2 v) (lv2 v) (st2 v) (x2 v) (K v)) : ax_J V P pc lv st x (o.bind K) := fun r hr hp => by
  cases ho : o with
  | none => rw [ho] at hr; cases hr
  | some v =>
    rw [ho] at hr
    exact h v ho (k v r hr hp)
theorem ax_jf {V : ax_V} {ρ : Type} {P : ρ → Prop} {pc : Nat} {lv : List (Option Value)} {st : List Value} {x : ax_S} {o : Option ρ} (ks : List Bool) {lv' : List (Option Value)} (hm : ax_mk ks lv = lv') (k : ax_J V P pc lv' st x o) : ax_J V P pc lv st x o := fun r hr hp => by
  have k' := k r hr hp
  obtain ⟨Sd, G, ⟨p, l, e, R, s, m, args, below, meth, c⟩, rv, sf⟩ := V
  subst hm
  intro H locs ls hP hS hl
  exact k' H locs ls hP hS (ax_lv_mk ks hl)
theorem ax_af {V : ax_V} {pc : Nat} {lv : List (Option Value)} {st : List Value} {x : ax_S} (ks : List Bool) {lv' : List (Option Value)} (hm : ax_mk ks lv = lv') (k : ax_At V pc lv' st x) : ax_At V pc lv st x := by
  obtain ⟨Sd, G, ⟨p, l, e, R, s, m, args, below, meth, c⟩, rv, sf⟩ := V
  subst hm
  intro H locs ls hP hS hl
  exact k H locs ls hP hS (ax_lv_mk ks hl)
/-- a loop's answer: the body again and again until it goes out -/
def ax_itn {α ε : Type} (f : α → Option (α ⊕ ε)) : Nat → α → Option ε
  | 0, _ => none
  | n + 1, a => (f a).bind (fun q => match q with
    | .inl a' => ax_itn f n a'
    | .inr e => some e)
noncomputable def ax_lp {α ε : Type} (f : α → Option (α ⊕ ε)) (a : α) : Option ε := by
  classical exact if h : ∃ e, ∃ n, ax_itn f n a = some e then some h.choose else none
theorem ax_lp_some {α ε : Type} {f : α → Option (α ⊕ ε)} {a : α} {e : ε} (h : ax_lp f a = some e) : ∃ n, ax_itn f n a = some e := by
  unfold ax_lp at h
  split at h
  · rename_i q
    cases h
    exact q.choose_spec
  · cases h
theorem ax_lp_end {V : ax_V} {α ε : Type} {P' : α ⊕ ε → Prop} {pc : Nat} {lv : α → List (Option Value)} {x : α → ax_S} {f : α → Option (α ⊕ ε)} {a : α} {e : ε} (hI : ∀ a, ax_At V pc (lv a) [] (x a) → P' (.inl a)) (hO : P' (.inr e))
    (hb : ∀ a, ax_J V P' pc (lv a) [] (x a) (f a)) (h : ax_lp f a = some e) : ax_At V pc (lv a) [] (x a) := by
  obtain ⟨n, hn⟩ := ax_lp_some h
  clear h
  induction n generalizing a with
  | zero => cases hn
  | succ n ih =>
    simp only [ax_itn] at hn
    cases hf : f a with
    | none => rw [hf] at hn; cases hn
    | some q =>
      rw [hf] at hn
      match q, hf, hn with
      | .inl a', hf, hn => exact hb a _ hf (hI _ (ih hn))
      | .inr e', hf, hn =>
        cases hn
        exact hb a _ hf hO
theorem ax_jlp {V : ax_V} {ρ α ε : Type} {P : ρ → Prop} {pc pcx : Nat} (a : α) (lv : α → List (Option Value)) (x : α → ax_S) (lvx : ε → List (Option Value)) (xx : ε → ax_S) {f : α → Option (α ⊕ ε)} {K : ε → Option ρ}
    (hb : ∀ P' : α ⊕ ε → Prop, (∀ a, P' (.inl a) → ax_At V pc (lv a) [] (x a)) → (∀ e, P' (.inr e) → ax_At V pcx (lvx e) [] (xx e)) → ∀ a, ax_J V P' pc (lv a) [] (x a) (f a))
    (k : ∀ e, ax_J V P pcx (lvx e) [] (xx e) (K e)) : ax_J V P pc (lv a) [] (x a) ((ax_lp f a).bind K) := fun r hr hp => by
  obtain ⟨e, he, hk⟩ := Option.bind_eq_some_iff.mp hr
  exact ax_lp_end (P' := Sum.elim (fun a => ax_At V pc (lv a) [] (x a)) (fun e => ax_At V pcx (lvx e) [] (xx e))) (fun a h => h) (k e r hk hp) (fun a => hb _ (fun a h => h) (fun e h => h) a) he
/-- a loop that may also end in the method's own answer -/
theorem ax_jlr {V : ax_V} {ρ ρm α ε : Type} {P : ρ → Prop} {pc pcx : Nat} (a : α) (lv : α → List (Option Value)) (x : α → ax_S) (lvx : ε → List (Option Value)) (xx : ε → ax_S) {f : α → Option (α ⊕ (ε ⊕ ρm))} {K : ε → Option ρ} {em : ρm → ρ}
    (hb : ∀ P' : α ⊕ (ε ⊕ ρm) → Prop, (∀ a, P' (.inl a) → ax_At V pc (lv a) [] (x a)) → (∀ e, P' (.inr (.inl e)) → ax_At V pcx (lvx e) [] (xx e)) → (∀ r, P' (.inr (.inr r)) → P (em r)) → ∀ a, ax_J V P' pc (lv a) [] (x a) (f a))
    (k : ∀ e, ax_J V P pcx (lvx e) [] (xx e) (K e)) : ax_J V P pc (lv a) [] (x a) ((ax_lp f a).bind (Sum.elim K (fun r => some (em r)))) := fun r hr hp => by
  obtain ⟨q, hq, hk⟩ := Option.bind_eq_some_iff.mp hr
  refine ax_lp_end (P' := Sum.elim (fun a => ax_At V pc (lv a) [] (x a)) (Sum.elim (fun e => ax_At V pcx (lvx e) [] (xx e)) (fun r => P (em r)))) (fun a h => h) ?_ (fun a => hb _ (fun a h => h) (fun e h => h) (fun r h => h) a) hq
  cases q with
  | inl e => exact k e r hk hp
  | inr r' =>
    cases hk
    exact hp
theorem ax_go {V : ax_V} {ρ : Type} {pc : Nat} {lv : List (Option Value)} {st : List Value} {x : ax_S} {o : Option ρ} {r : ρ} (em : ρ → Option Value × ax_S) (hb : ∀ P : ρ → Prop, (∀ r, P r → V.2.2.2 = em r) → ax_J V P pc lv st x o) (h : o = some r) (ho : V.2.2.2 = em r) : ax_At V pc lv st x := hb (fun r => V.2.2.2 = em r) (fun _ h => h) r h ho
theorem ax_iconst {V : ax_V} {μ : ax_Mu} (hV : ax_ok V μ) {pc nx : Nat} {lv : List (Option Value)} {st : List Value} {x : ax_S} {n : Int} (v : Int32) (d : ax_D μ.2.1 pc (.iconst n) 1 nx) (hv : Int32.ofInt n = v) (k : ax_At V nx lv (.int v :: st) x) : ax_At V pc lv (st) x := by
  obtain ⟨Sd, G, ⟨p, l, e, R, s, m, args, below, meth, c⟩, rv, sf⟩ := V
  obtain ⟨d, rfl⟩ := d
  intro H locs ls hP hS hl
  exact lv_iconst hV.1 hV.2.1 d hv (k H locs ls hP hS hl)
theorem ax_bipush {V : ax_V} {μ : ax_Mu} (hV : ax_ok V μ) {pc nx : Nat} {lv : List (Option Value)} {st : List Value} {x : ax_S} {n : Int} (v : Int32) (d : ax_D μ.2.1 pc (.bipush n) 2 nx) (hv : (Int8.ofInt n).toInt32 = v) (k : ax_At V nx lv (.int v :: st) x) : ax_At V pc lv (st) x := by
  obtain ⟨Sd, G, ⟨p, l, e, R, s, m, args, below, meth, c⟩, rv, sf⟩ := V
  obtain ⟨d, rfl⟩ := d
  intro H locs ls hP hS hl
  exact lv_bipush hV.1 hV.2.1 d hv (k H locs ls hP hS hl)
theorem ax_sipush {V : ax_V} {μ : ax_Mu} (hV : ax_ok V μ) {pc nx : Nat} {lv : List (Option Value)} {st : List Value} {x : ax_S} {n : Int} (v : Int32) (d : ax_D μ.2.1 pc (.sipush n) 3 nx) (hv : (Int16.ofInt n).toInt32 = v) (k : ax_At V nx lv (.int v :: st) x) : ax_At V pc lv (st) x := by
  obtain ⟨Sd, G, ⟨p, l, e, R, s, m, args, below, meth, c⟩, rv, sf⟩ := V
  obtain ⟨d, rfl⟩ := d
  intro H locs ls hP hS hl
  exact lv_sipush hV.1 hV.2.1 d hv (k H locs ls hP hS hl)
theorem ax_lconst {V : ax_V} {μ : ax_Mu} (hV : ax_ok V μ) {pc nx : Nat} {lv : List (Option Value)} {st : List Value} {x : ax_S} {n : Fin 2} (v : Int64) (d : ax_D μ.2.1 pc (.lconst n) 1 nx) (hv : Int64.ofNat (n : Nat) = v) (k : ax_At V nx lv (.long v :: st) x) : ax_At V pc lv (st) x := by
  obtain ⟨Sd, G, ⟨p, l, e, R, s, m, args, below, meth, c⟩, rv, sf⟩ := V
  obtain ⟨d, rfl⟩ := d
  intro H locs ls hP hS hl
  exact lv_lconst hV.1 hV.2.1 d hv (k H locs ls hP hS hl)
theorem ax_ldc {V : ax_V} {μ : ax_Mu} (hV : ax_ok V μ) {pc nx : Nat} {lv : List (Option Value)} {st : List Value} {x : ax_S} {ix : Nat} {v : Int32} (hc : Cond.constant μ.1.cls ix v ∈ ax_tb) (d : ax_D μ.2.1 pc (.ldc ix) 2 nx) (k : ax_At V nx lv (.int v :: st) x) : ax_At V pc lv (st) x := by
  obtain ⟨Sd, G, ⟨p, l, e, R, s, m, args, below, meth, c⟩, rv, sf⟩ := V
  obtain ⟨d, rfl⟩ := d
  intro H locs ls hP hS hl
  exact lv_ldc hV.1 hV.2.1 hV.2.2.2.1 (hV.2.2.2.2.1 _ hc) d (k H locs ls hP hS hl)
theorem ax_ldcw {V : ax_V} {μ : ax_Mu} (hV : ax_ok V μ) {pc nx : Nat} {lv : List (Option Value)} {st : List Value} {x : ax_S} {ix : Nat} {v : Int32} (hc : Cond.constant μ.1.cls ix v ∈ ax_tb) (d : ax_D μ.2.1 pc (.ldc_w ix) 3 nx) (k : ax_At V nx lv (.int v :: st) x) : ax_At V pc lv (st) x := by
  obtain ⟨Sd, G, ⟨p, l, e, R, s, m, args, below, meth, c⟩, rv, sf⟩ := V
  obtain ⟨d, rfl⟩ := d
  intro H locs ls hP hS hl
  exact lv_ldcw hV.1 hV.2.1 hV.2.2.2.1 (hV.2.2.2.2.1 _ hc) d (k H locs ls hP hS hl)
theorem ax_ldc2 {V : ax_V} {μ : ax_Mu} (hV : ax_ok V μ) {pc nx : Nat} {lv : List (Option Value)} {st : List Value} {x : ax_S} {ix : Nat} {v : Int64} (hc : Cond.constantLong μ.1.cls ix v ∈ ax_tb) (d : ax_D μ.2.1 pc (.ldc2_w ix) 3 nx) (k : ax_At V nx lv (.long v :: st) x) : ax_At V pc lv (st) x := by
  obtain ⟨Sd, G, ⟨p, l, e, R, s, m, args, below, meth, c⟩, rv, sf⟩ := V
  obtain ⟨d, rfl⟩ := d
  intro H locs ls hP hS hl
  exact lv_ldc2 hV.1 hV.2.1 hV.2.2.2.1 (hV.2.2.2.2.1 _ hc) d (k H locs ls hP hS hl)
theorem ax_iload_n {V : ax_V} {μ : ax_Mu} (hV : ax_ok V μ) {pc nx : Nat} {lv : List (Option Value)} {st : List Value} {x : ax_S} {k0 : Fin 4} {a : Int32} (d : ax_D μ.2.1 pc (.iload_n k0) 1 nx) (hi : lv[(k0 : Nat)]? = some (some (.int a))) (k : ax_At V nx lv (.int a :: st) x) : ax_At V pc lv (st) x := by
  obtain ⟨Sd, G, ⟨p, l, e, R, s, m, args, below, meth, c⟩, rv, sf⟩ := V
  obtain ⟨d, rfl⟩ := d
  intro H locs ls hP hS hl
  exact lv_iload_n hV.1 hV.2.1 d rfl (hl.2.2 _ _ hi) (k H locs ls hP hS hl)
theorem ax_iload {V : ax_V} {μ : ax_Mu} (hV : ax_ok V μ) {pc nx : Nat} {lv : List (Option Value)} {st : List Value} {x : ax_S} {i : Nat} {a : Int32} (d : ax_D μ.2.1 pc (.iload i) 2 nx) (hi : lv[i]? = some (some (.int a))) (k : ax_At V nx lv (.int a :: st) x) : ax_At V pc lv (st) x := by
  obtain ⟨Sd, G, ⟨p, l, e, R, s, m, args, below, meth, c⟩, rv, sf⟩ := V
  obtain ⟨d, rfl⟩ := d
  intro H locs ls hP hS hl
  exact lv_iload hV.1 hV.2.1 d (hl.2.2 _ _ hi) (k H locs ls hP hS hl)
theorem ax_lload_n {V : ax_V} {μ : ax_Mu} (hV : ax_ok V μ) {pc nx : Nat} {lv : List (Option Value)} {st : List Value} {x : ax_S} {k0 : Fin 4} {a : Int64} (d : ax_D μ.2.1 pc (.lload_n k0) 1 nx) (hi : lv[(k0 : Nat)]? = some (some (.long a))) (k : ax_At V nx lv (.long a :: st) x) : ax_At V pc lv (st) x := by
  obtain ⟨Sd, G, ⟨p, l, e, R, s, m, args, below, meth, c⟩, rv, sf⟩ := V
  obtain ⟨d, rfl⟩ := d
  intro H locs ls hP hS hl
  exact lv_lload_n hV.1 hV.2.1 d rfl (hl.2.2 _ _ hi) (k H locs ls hP hS hl)
theorem ax_lload {V : ax_V} {μ : ax_Mu} (hV : ax_ok V μ) {pc nx : Nat} {lv : List (Option Value)} {st : List Value} {x : ax_S} {i : Nat} {a : Int64} (d : ax_D μ.2.1 pc (.lload i) 2 nx) (hi : lv[i]? = some (some (.long a))) (k : ax_At V nx lv (.long a :: st) x) : ax_At V pc lv (st) x := by
  obtain ⟨Sd, G, ⟨p, l, e, R, s, m, args, below, meth, c⟩, rv, sf⟩ := V
  obtain ⟨d, rfl⟩ := d
  intro H locs ls hP hS hl
  exact lv_lload hV.1 hV.2.1 d (hl.2.2 _ _ hi) (k H locs ls hP hS hl)
theorem ax_aload_n {V : ax_V} {μ : ax_Mu} (hV : ax_ok V μ) {pc nx : Nat} {lv : List (Option Value)} {st : List Value} {x : ax_S} {k0 : Fin 4} {a : Nat} (d : ax_D μ.2.1 pc (.aload_n k0) 1 nx) (hi : lv[(k0 : Nat)]? = some (some (.ref a))) (k : ax_At V nx lv (.ref a :: st) x) : ax_At V pc lv (st) x := by
  obtain ⟨Sd, G, ⟨p, l, e, R, s, m, args, below, meth, c⟩, rv, sf⟩ := V
  obtain ⟨d, rfl⟩ := d
  intro H locs ls hP hS hl
  exact lv_aload_n hV.1 hV.2.1 d rfl (hl.2.2 _ _ hi) (k H locs ls hP hS hl)
theorem ax_aload {V : ax_V} {μ : ax_Mu} (hV : ax_ok V μ) {pc nx : Nat} {lv : List (Option Value)} {st : List Value} {x : ax_S} {i : Nat} {a : Nat} (d : ax_D μ.2.1 pc (.aload i) 2 nx) (hi : lv[i]? = some (some (.ref a))) (k : ax_At V nx lv (.ref a :: st) x) : ax_At V pc lv (st) x := by
  obtain ⟨Sd, G, ⟨p, l, e, R, s, m, args, below, meth, c⟩, rv, sf⟩ := V
  obtain ⟨d, rfl⟩ := d
  intro H locs ls hP hS hl
  exact lv_aload hV.1 hV.2.1 d (hl.2.2 _ _ hi) (k H locs ls hP hS hl)
theorem ax_istore_n {V : ax_V} {μ : ax_Mu} (hV : ax_ok V μ) {pc nx : Nat} {lv : List (Option Value)} {st : List Value} {x : ax_S} {k0 : Fin 4} {a : Int32} (lv' : List (Option Value)) (d : ax_D μ.2.1 pc (.istore_n k0) 1 nx) (hs : (lv.set (k0 : Nat) (some (.int a))) = lv') (hc : (ax_ok1 lv (k0 : Nat) && Nat.blt ((k0 : Nat) + 0) μ.2.2.1) = true) (k : ax_At V nx lv' st x) : ax_At V pc lv (.int a :: st) x := by
  obtain ⟨Sd, G, ⟨p, l, e, R, s, m, args, below, meth, c⟩, rv, sf⟩ := V
  obtain ⟨d, rfl⟩ := d
  subst hs
  rw [Bool.and_eq_true] at hc
  intro H locs ls hP hS hl
  refine lv_istore_n hV.1 hV.2.1 d rfl (ax_lv_has hl) ?_ rfl (fun ls' hl' => k H locs ls' hP hS (ax_lv_st1 hc.1 hl'))
  have := Nat.le_of_ble_eq_true hc.2
  rw [show c.maxLocals = μ.2.2.1 from hV.2.2.1]
  omega
theorem ax_istore {V : ax_V} {μ : ax_Mu} (hV : ax_ok V μ) {pc nx : Nat} {lv : List (Option Value)} {st : List Value} {x : ax_S} {i : Nat} {a : Int32} (lv' : List (Option Value)) (d : ax_D μ.2.1 pc (.istore i) 2 nx) (hs : (lv.set i (some (.int a))) = lv') (hc : (ax_ok1 lv i && Nat.blt (i + 0) μ.2.2.1) = true) (k : ax_At V nx lv' st x) : ax_At V pc lv (.int a :: st) x := by
  obtain ⟨Sd, G, ⟨p, l, e, R, s, m, args, below, meth, c⟩, rv, sf⟩ := V
  obtain ⟨d, rfl⟩ := d
  subst hs
  rw [Bool.and_eq_true] at hc
  intro H locs ls hP hS hl
  refine lv_istore hV.1 hV.2.1 d (ax_lv_has hl) ?_ rfl (fun ls' hl' => k H locs ls' hP hS (ax_lv_st1 hc.1 hl'))
  have := Nat.le_of_ble_eq_true hc.2
  rw [show c.maxLocals = μ.2.2.1 from hV.2.2.1]
  omega
theorem ax_lstore_n {V : ax_V} {μ : ax_Mu} (hV : ax_ok V μ) {pc nx : Nat} {lv : List (Option Value)} {st : List Value} {x : ax_S} {k0 : Fin 4} {a : Int64} (lv' : List (Option Value)) (d : ax_D μ.2.1 pc (.lstore_n k0) 1 nx) (hs : ((lv.set (k0 : Nat) (some (.long a))).set ((k0 : Nat) + 1) none) = lv') (hc : (ax_ok1 lv (k0 : Nat) && Nat.blt ((k0 : Nat) + 1) μ.2.2.1) = true) (k : ax_At V nx lv' st x) : ax_At V pc lv (.long a :: st) x := by
  obtain ⟨Sd, G, ⟨p, l, e, R, s, m, args, below, meth, c⟩, rv, sf⟩ := V
  obtain ⟨d, rfl⟩ := d
  subst hs
  rw [Bool.and_eq_true] at hc
  intro H locs ls hP hS hl
  refine lv_lstore_n hV.1 hV.2.1 d rfl (ax_lv_has hl) ?_ rfl (fun ls' hl' => k H locs ls' hP hS (ax_lv_st2 hc.1 hl'))
  have := Nat.le_of_ble_eq_true hc.2
  rw [show c.maxLocals = μ.2.2.1 from hV.2.2.1]
  omega
theorem ax_lstore {V : ax_V} {μ : ax_Mu} (hV : ax_ok V μ) {pc nx : Nat} {lv : List (Option Value)} {st : List Value} {x : ax_S} {i : Nat} {a : Int64} (lv' : List (Option Value)) (d : ax_D μ.2.1 pc (.lstore i) 2 nx) (hs : ((lv.set i (some (.long a))).set (i + 1) none) = lv') (hc : (ax_ok1 lv i && Nat.blt (i + 1) μ.2.2.1) = true) (k : ax_At V nx lv' st x) : ax_At V pc lv (.long a :: st) x := by
  obtain ⟨Sd, G, ⟨p, l, e, R, s, m, args, below, meth, c⟩, rv, sf⟩ := V
  obtain ⟨d, rfl⟩ := d
  subst hs
  rw [Bool.and_eq_true] at hc
  intro H locs ls hP hS hl
  refine lv_lstore hV.1 hV.2.1 d (ax_lv_has hl) ?_ rfl (fun ls' hl' => k H locs ls' hP hS (ax_lv_st2 hc.1 hl'))
  have := Nat.le_of_ble_eq_true hc.2
  rw [show c.maxLocals = μ.2.2.1 from hV.2.2.1]
  omega
theorem ax_iinc {V : ax_V} {μ : ax_Mu} (hV : ax_ok V μ) {pc nx : Nat} {lv : List (Option Value)} {st : List Value} {x : ax_S} {i : Nat} {n : Int} {a : Int32} (b : Int32) (lv' : List (Option Value)) (d : ax_D μ.2.1 pc (.iinc i n) 3 nx) (hi : lv[i]? = some (some (.int a))) (hv : a + Int32.ofInt n = b) (hs : lv.set i (some (.int b)) = lv') (hc : (ax_ok1 lv i && Nat.blt (i + 0) μ.2.2.1) = true) (k : ax_At V nx lv' st x) : ax_At V pc lv st x := by
  obtain ⟨Sd, G, ⟨p, l, e, R, s, m, args, below, meth, c⟩, rv, sf⟩ := V
  obtain ⟨d, rfl⟩ := d
  subst hs
  rw [Bool.and_eq_true] at hc
  intro H locs ls hP hS hl
  obtain ⟨j, hj⟩ := List.getElem?_of_mem (ax_as_mem.mpr (show lv[((i, Value.int a) : Nat × Value).1]? = some (some (i, Value.int a).2) from hi))
  refine lv_iinc hV.1 hV.2.1 d (ax_lv_has hl) hj hv ?_ rfl (fun ls' hl' => k H locs ls' hP hS (ax_lv_st1 hc.1 hl'))
  have := Nat.le_of_ble_eq_true hc.2
  rw [show c.maxLocals = μ.2.2.1 from hV.2.2.1]
  omega
theorem ax_iadd {V : ax_V} {μ : ax_Mu} (hV : ax_ok V μ) {pc nx : Nat} {lv : List (Option Value)} {st : List Value} {x : ax_S} {a b : Int32} (d : ax_D μ.2.1 pc (.iadd) 1 nx) (k : ax_At V nx lv (.int (a + b) :: st) x) : ax_At V pc lv (.int b :: .int a :: st) x := by
  obtain ⟨Sd, G, ⟨p, l, e, R, s, m, args, below, meth, c⟩, rv, sf⟩ := V
  obtain ⟨d, rfl⟩ := d
  intro H locs ls hP hS hl
  exact lv_iadd hV.1 hV.2.1 d (k H locs ls hP hS hl)
theorem ax_isub {V : ax_V} {μ : ax_Mu} (hV : ax_ok V μ) {pc nx : Nat} {lv : List (Option Value)} {st : List Value} {x : ax_S} {a b : Int32} (d : ax_D μ.2.1 pc (.isub) 1 nx) (k : ax_At V nx lv (.int (a - b) :: st) x) : ax_At V pc lv (.int b :: .int a :: st) x := by
  obtain ⟨Sd, G, ⟨p, l, e, R, s, m, args, below, meth, c⟩, rv, sf⟩ := V
  obtain ⟨d, rfl⟩ := d
  intro H locs ls hP hS hl
  exact lv_isub hV.1 hV.2.1 d (k H locs ls hP hS hl)
theorem ax_imul {V : ax_V} {μ : ax_Mu} (hV : ax_ok V μ) {pc nx : Nat} {lv : List (Option Value)} {st : List Value} {x : ax_S} {a b : Int32} (d : ax_D μ.2.1 pc (.imul) 1 nx) (k : ax_At V nx lv (.int (a * b) :: st) x) : ax_At V pc lv (.int b :: .int a :: st) x := by
  obtain ⟨Sd, G, ⟨p, l, e, R, s, m, args, below, meth, c⟩, rv, sf⟩ := V
  obtain ⟨d, rfl⟩ := d
  intro H locs ls hP hS hl
  exact lv_imul hV.1 hV.2.1 d (k H locs ls hP hS hl)
theorem ax_iand {V : ax_V} {μ : ax_Mu} (hV : ax_ok V μ) {pc nx : Nat} {lv : List (Option Value)} {st : List Value} {x : ax_S} {a b : Int32} (d : ax_D μ.2.1 pc (.iand) 1 nx) (k : ax_At V nx lv (.int (a &&& b) :: st) x) : ax_At V pc lv (.int b :: .int a :: st) x := by
  obtain ⟨Sd, G, ⟨p, l, e, R, s, m, args, below, meth, c⟩, rv, sf⟩ := V
  obtain ⟨d, rfl⟩ := d
  intro H locs ls hP hS hl
  exact lv_iand hV.1 hV.2.1 d (k H locs ls hP hS hl)
theorem ax_ior {V : ax_V} {μ : ax_Mu} (hV : ax_ok V μ) {pc nx : Nat} {lv : List (Option Value)} {st : List Value} {x : ax_S} {a b : Int32} (d : ax_D μ.2.1 pc (.ior) 1 nx) (k : ax_At V nx lv (.int (a ||| b) :: st) x) : ax_At V pc lv (.int b :: .int a :: st) x := by
  obtain ⟨Sd, G, ⟨p, l, e, R, s, m, args, below, meth, c⟩, rv, sf⟩ := V
  obtain ⟨d, rfl⟩ := d
  intro H locs ls hP hS hl
  exact lv_ior hV.1 hV.2.1 d (k H locs ls hP hS hl)
theorem ax_ixor {V : ax_V} {μ : ax_Mu} (hV : ax_ok V μ) {pc nx : Nat} {lv : List (Option Value)} {st : List Value} {x : ax_S} {a b : Int32} (d : ax_D μ.2.1 pc (.ixor) 1 nx) (k : ax_At V nx lv (.int (a ^^^ b) :: st) x) : ax_At V pc lv (.int b :: .int a :: st) x := by
  obtain ⟨Sd, G, ⟨p, l, e, R, s, m, args, below, meth, c⟩, rv, sf⟩ := V
  obtain ⟨d, rfl⟩ := d
  intro H locs ls hP hS hl
  exact lv_ixor hV.1 hV.2.1 d (k H locs ls hP hS hl)
theorem ax_ishl {V : ax_V} {μ : ax_Mu} (hV : ax_ok V μ) {pc nx : Nat} {lv : List (Option Value)} {st : List Value} {x : ax_S} {a b : Int32} (d : ax_D μ.2.1 pc (.ishl) 1 nx) (k : ax_At V nx lv (.int (a <<< (b &&& 31)) :: st) x) : ax_At V pc lv (.int b :: .int a :: st) x := by
  obtain ⟨Sd, G, ⟨p, l, e, R, s, m, args, below, meth, c⟩, rv, sf⟩ := V
  obtain ⟨d, rfl⟩ := d
  intro H locs ls hP hS hl
  exact lv_ishl hV.1 hV.2.1 d (k H locs ls hP hS hl)
theorem ax_ishr {V : ax_V} {μ : ax_Mu} (hV : ax_ok V μ) {pc nx : Nat} {lv : List (Option Value)} {st : List Value} {x : ax_S} {a b : Int32} (d : ax_D μ.2.1 pc (.ishr) 1 nx) (k : ax_At V nx lv (.int (a >>> (b &&& 31)) :: st) x) : ax_At V pc lv (.int b :: .int a :: st) x := by
  obtain ⟨Sd, G, ⟨p, l, e, R, s, m, args, below, meth, c⟩, rv, sf⟩ := V
  obtain ⟨d, rfl⟩ := d
  intro H locs ls hP hS hl
  exact lv_ishr hV.1 hV.2.1 d (k H locs ls hP hS hl)
theorem ax_ladd {V : ax_V} {μ : ax_Mu} (hV : ax_ok V μ) {pc nx : Nat} {lv : List (Option Value)} {st : List Value} {x : ax_S} {a b : Int64} (d : ax_D μ.2.1 pc (.ladd) 1 nx) (k : ax_At V nx lv (.long (a + b) :: st) x) : ax_At V pc lv (.long b :: .long a :: st) x := by
  obtain ⟨Sd, G, ⟨p, l, e, R, s, m, args, below, meth, c⟩, rv, sf⟩ := V
  obtain ⟨d, rfl⟩ := d
  intro H locs ls hP hS hl
  exact lv_ladd hV.1 hV.2.1 d (k H locs ls hP hS hl)
theorem ax_lsub {V : ax_V} {μ : ax_Mu} (hV : ax_ok V μ) {pc nx : Nat} {lv : List (Option Value)} {st : List Value} {x : ax_S} {a b : Int64} (d : ax_D μ.2.1 pc (.lsub) 1 nx) (k : ax_At V nx lv (.long (a - b) :: st) x) : ax_At V pc lv (.long b :: .long a :: st) x := by
  obtain ⟨Sd, G, ⟨p, l, e, R, s, m, args, below, meth, c⟩, rv, sf⟩ := V
  obtain ⟨d, rfl⟩ := d
  intro H locs ls hP hS hl
  exact lv_lsub hV.1 hV.2.1 d (k H locs ls hP hS hl)
theorem ax_lmul {V : ax_V} {μ : ax_Mu} (hV : ax_ok V μ) {pc nx : Nat} {lv : List (Option Value)} {st : List Value} {x : ax_S} {a b : Int64} (d : ax_D μ.2.1 pc (.lmul) 1 nx) (k : ax_At V nx lv (.long (a * b) :: st) x) : ax_At V pc lv (.long b :: .long a :: st) x := by
  obtain ⟨Sd, G, ⟨p, l, e, R, s, m, args, below, meth, c⟩, rv, sf⟩ := V
  obtain ⟨d, rfl⟩ := d
  intro H locs ls hP hS hl
  exact lv_lmul hV.1 hV.2.1 d (k H locs ls hP hS hl)
theorem ax_land {V : ax_V} {μ : ax_Mu} (hV : ax_ok V μ) {pc nx : Nat} {lv : List (Option Value)} {st : List Value} {x : ax_S} {a b : Int64} (d : ax_D μ.2.1 pc (.land) 1 nx) (k : ax_At V nx lv (.long (a &&& b) :: st) x) : ax_At V pc lv (.long b :: .long a :: st) x := by
  obtain ⟨Sd, G, ⟨p, l, e, R, s, m, args, below, meth, c⟩, rv, sf⟩ := V
  obtain ⟨d, rfl⟩ := d
  intro H locs ls hP hS hl
  exact lv_land hV.1 hV.2.1 d (k H locs ls hP hS hl)
theorem ax_lor {V : ax_V} {μ : ax_Mu} (hV : ax_ok V μ) {pc nx : Nat} {lv : List (Option Value)} {st : List Value} {x : ax_S} {a b : Int64} (d : ax_D μ.2.1 pc (.lor) 1 nx) (k : ax_At V nx lv (.long (a ||| b) :: st) x) : ax_At V pc lv (.long b :: .long a :: st) x := by
  obtain ⟨Sd, G, ⟨p, l, e, R, s, m, args, below, meth, c⟩, rv, sf⟩ := V
  obtain ⟨d, rfl⟩ := d
  intro H locs ls hP hS hl
  exact lv_lor hV.1 hV.2.1 d (k H locs ls hP hS hl)
theorem ax_lxor {V : ax_V} {μ : ax_Mu} (hV : ax_ok V μ) {pc nx : Nat} {lv : List (Option Value)} {st : List Value} {x : ax_S} {a b : Int64} (d : ax_D μ.2.1 pc (.lxor) 1 nx) (k : ax_At V nx lv (.long (a ^^^ b) :: st) x) : ax_At V pc lv (.long b :: .long a :: st) x := by
  obtain ⟨Sd, G, ⟨p, l, e, R, s, m, args, below, meth, c⟩, rv, sf⟩ := V
  obtain ⟨d, rfl⟩ := d
  intro H locs ls hP hS hl
  exact lv_lxor hV.1 hV.2.1 d (k H locs ls hP hS hl)
def ax_iushr (a b : Int32) : Int32 := (a.toUInt32 >>> (b.toUInt32 &&& Int32.toUInt32 31)).toInt32
def ax_lushr (a : Int64) (b : Int32) : Int64 := (a.toUInt64 >>> (b.toInt64.toUInt64 &&& Int64.toUInt64 63)).toInt64
def ax_lshl (a : Int64) (b : Int32) : Int64 := a <<< (b.toInt64 &&& 63)
def ax_lshr (a : Int64) (b : Int32) : Int64 := a >>> (b.toInt64 &&& 63)
theorem ax_iushr_ {V : ax_V} {μ : ax_Mu} (hV : ax_ok V μ) {pc nx : Nat} {lv : List (Option Value)} {st : List Value} {x : ax_S} {a b : Int32} (d : ax_D μ.2.1 pc (.iushr) 1 nx) (k : ax_At V nx lv (.int (ax_iushr a b) :: st) x) : ax_At V pc lv (.int b :: .int a :: st) x := by
  obtain ⟨Sd, G, ⟨p, l, e, R, s, m, args, below, meth, c⟩, rv, sf⟩ := V
  obtain ⟨d, rfl⟩ := d
  intro H locs ls hP hS hl
  exact lv_iushr hV.1 hV.2.1 d rfl (k H locs ls hP hS hl)
theorem ax_lushr_ {V : ax_V} {μ : ax_Mu} (hV : ax_ok V μ) {pc nx : Nat} {lv : List (Option Value)} {st : List Value} {x : ax_S} {a : Int64} {b : Int32} (d : ax_D μ.2.1 pc (.lushr) 1 nx) (k : ax_At V nx lv (.long (ax_lushr a b) :: st) x) : ax_At V pc lv (.int b :: .long a :: st) x := by
  obtain ⟨Sd, G, ⟨p, l, e, R, s, m, args, below, meth, c⟩, rv, sf⟩ := V
  obtain ⟨d, rfl⟩ := d
  intro H locs ls hP hS hl
  exact lv_lushr hV.1 hV.2.1 d rfl (k H locs ls hP hS hl)
theorem ax_lshl_ {V : ax_V} {μ : ax_Mu} (hV : ax_ok V μ) {pc nx : Nat} {lv : List (Option Value)} {st : List Value} {x : ax_S} {a : Int64} {b : Int32} (d : ax_D μ.2.1 pc (.lshl) 1 nx) (k : ax_At V nx lv (.long (ax_lshl a b) :: st) x) : ax_At V pc lv (.int b :: .long a :: st) x := by
  obtain ⟨Sd, G, ⟨p, l, e, R, s, m, args, below, meth, c⟩, rv, sf⟩ := V
  obtain ⟨d, rfl⟩ := d
  intro H locs ls hP hS hl
  exact lv_lshl hV.1 hV.2.1 d rfl (k H locs ls hP hS hl)
theorem ax_lshr_ {V : ax_V} {μ : ax_Mu} (hV : ax_ok V μ) {pc nx : Nat} {lv : List (Option Value)} {st : List Value} {x : ax_S} {a : Int64} {b : Int32} (d : ax_D μ.2.1 pc (.lshr) 1 nx) (k : ax_At V nx lv (.long (ax_lshr a b) :: st) x) : ax_At V pc lv (.int b :: .long a :: st) x := by
  obtain ⟨Sd, G, ⟨p, l, e, R, s, m, args, below, meth, c⟩, rv, sf⟩ := V
  obtain ⟨d, rfl⟩ := d
  intro H locs ls hP hS hl
  exact lv_lshr hV.1 hV.2.1 d rfl (k H locs ls hP hS hl)
theorem ax_ineg {V : ax_V} {μ : ax_Mu} (hV : ax_ok V μ) {pc nx : Nat} {lv : List (Option Value)} {st : List Value} {x : ax_S} {a : Int32} (d : ax_D μ.2.1 pc (.ineg) 1 nx) (k : ax_At V nx lv (.int (-a) :: st) x) : ax_At V pc lv (.int a :: st) x := by
  obtain ⟨Sd, G, ⟨p, l, e, R, s, m, args, below, meth, c⟩, rv, sf⟩ := V
  obtain ⟨d, rfl⟩ := d
  intro H locs ls hP hS hl
  exact lv_ineg hV.1 hV.2.1 d (k H locs ls hP hS hl)
theorem ax_i2l {V : ax_V} {μ : ax_Mu} (hV : ax_ok V μ) {pc nx : Nat} {lv : List (Option Value)} {st : List Value} {x : ax_S} {a : Int32} (d : ax_D μ.2.1 pc (.i2l) 1 nx) (k : ax_At V nx lv (.long a.toInt64 :: st) x) : ax_At V pc lv (.int a :: st) x := by
  obtain ⟨Sd, G, ⟨p, l, e, R, s, m, args, below, meth, c⟩, rv, sf⟩ := V
  obtain ⟨d, rfl⟩ := d
  intro H locs ls hP hS hl
  exact lv_i2l hV.1 hV.2.1 d rfl (k H locs ls hP hS hl)
theorem ax_l2i {V : ax_V} {μ : ax_Mu} (hV : ax_ok V μ) {pc nx : Nat} {lv : List (Option Value)} {st : List Value} {x : ax_S} {a : Int64} (d : ax_D μ.2.1 pc (.l2i) 1 nx) (k : ax_At V nx lv (.int a.toInt32 :: st) x) : ax_At V pc lv (.long a :: st) x := by
  obtain ⟨Sd, G, ⟨p, l, e, R, s, m, args, below, meth, c⟩, rv, sf⟩ := V
  obtain ⟨d, rfl⟩ := d
  intro H locs ls hP hS hl
  exact lv_l2i hV.1 hV.2.1 d rfl (k H locs ls hP hS hl)
theorem ax_i2b {V : ax_V} {μ : ax_Mu} (hV : ax_ok V μ) {pc nx : Nat} {lv : List (Option Value)} {st : List Value} {x : ax_S} {a : Int32} (d : ax_D μ.2.1 pc (.i2b) 1 nx) (k : ax_At V nx lv (.int a.toInt8.toInt32 :: st) x) : ax_At V pc lv (.int a :: st) x := by
  obtain ⟨Sd, G, ⟨p, l, e, R, s, m, args, below, meth, c⟩, rv, sf⟩ := V
  obtain ⟨d, rfl⟩ := d
  intro H locs ls hP hS hl
  exact lv_i2b hV.1 hV.2.1 d rfl (k H locs ls hP hS hl)
theorem ax_i2s {V : ax_V} {μ : ax_Mu} (hV : ax_ok V μ) {pc nx : Nat} {lv : List (Option Value)} {st : List Value} {x : ax_S} {a : Int32} (d : ax_D μ.2.1 pc (.i2s) 1 nx) (k : ax_At V nx lv (.int a.toInt16.toInt32 :: st) x) : ax_At V pc lv (.int a :: st) x := by
  obtain ⟨Sd, G, ⟨p, l, e, R, s, m, args, below, meth, c⟩, rv, sf⟩ := V
  obtain ⟨d, rfl⟩ := d
  intro H locs ls hP hS hl
  exact lv_i2s hV.1 hV.2.1 d rfl (k H locs ls hP hS hl)
theorem ax_lcmp {V : ax_V} {μ : ax_Mu} (hV : ax_ok V μ) {pc nx : Nat} {lv : List (Option Value)} {st : List Value} {x : ax_S} {a b : Int64} (d : ax_D μ.2.1 pc (.lcmp) 1 nx) (k : ax_At V nx lv (.int (lg_cmp a b) :: st) x) : ax_At V pc lv (.long b :: .long a :: st) x := by
  obtain ⟨Sd, G, ⟨p, l, e, R, s, m, args, below, meth, c⟩, rv, sf⟩ := V
  obtain ⟨d, rfl⟩ := d
  intro H locs ls hP hS hl
  exact W.lcmp hV.1 hV.2.1 d (k H locs ls hP hS hl)
theorem ax_dup {V : ax_V} {μ : ax_Mu} (hV : ax_ok V μ) {pc nx : Nat} {lv : List (Option Value)} {st : List Value} {x : ax_S} {va : Value} (d : ax_D μ.2.1 pc (.dup) 1 nx) (hva : va.category = 1) (k : ax_At V nx lv (va :: va :: st) x) : ax_At V pc lv (va :: st) x := by
  obtain ⟨Sd, G, ⟨p, l, e, R, s, m, args, below, meth, c⟩, rv, sf⟩ := V
  obtain ⟨d, rfl⟩ := d
  intro H locs ls hP hS hl
  exact lv_dup hV.1 hV.2.1 d hva (k H locs ls hP hS hl)
theorem ax_pop {V : ax_V} {μ : ax_Mu} (hV : ax_ok V μ) {pc nx : Nat} {lv : List (Option Value)} {st : List Value} {x : ax_S} {va : Value} (d : ax_D μ.2.1 pc (.pop) 1 nx) (hva : va.category = 1) (k : ax_At V nx lv (st) x) : ax_At V pc lv (va :: st) x := by
  obtain ⟨Sd, G, ⟨p, l, e, R, s, m, args, below, meth, c⟩, rv, sf⟩ := V
  obtain ⟨d, rfl⟩ := d
  intro H locs ls hP hS hl
  exact lv_pop hV.1 hV.2.1 d hva (k H locs ls hP hS hl)
theorem ax_dup2 {V : ax_V} {μ : ax_Mu} (hV : ax_ok V μ) {pc nx : Nat} {lv : List (Option Value)} {st : List Value} {x : ax_S} {va vb : Value} (d : ax_D μ.2.1 pc (.dup2) 1 nx) (hva : va.category = 1) (hvb : vb.category = 1) (k : ax_At V nx lv (va :: vb :: va :: vb :: st) x) : ax_At V pc lv (va :: vb :: st) x := by
  obtain ⟨Sd, G, ⟨p, l, e, R, s, m, args, below, meth, c⟩, rv, sf⟩ := V
  obtain ⟨d, rfl⟩ := d
  intro H locs ls hP hS hl
  exact lv_dup2_11 hV.1 hV.2.1 d hva hvb (k H locs ls hP hS hl)
def ax_idiv (a b : Int32) : Option Int32 := if b = 0 then none else some (a / b)
theorem ax_idiv_ {V : ax_V} {μ : ax_Mu} (hV : ax_ok V μ) {pc nx : Nat} {lv : List (Option Value)} {st : List Value} {x : ax_S} {a b : Int32} (d : ax_D μ.2.1 pc (.idiv) 1 nx) (v : Int32) (ho : ax_idiv a b = some v) (k : ax_At V nx lv (.int v :: st) x) : ax_At V pc lv (.int b :: .int a :: st) x := by
  obtain ⟨Sd, G, ⟨p, l, e, R, s, m, args, below, meth, c⟩, rv, sf⟩ := V
  obtain ⟨d, rfl⟩ := d
  unfold ax_idiv at ho
  split at ho
  · cases ho
  · rename_i hb
    cases ho
    intro H locs ls hP hS hl
    exact lv_idiv hV.1 hV.2.1 d hb (k H locs ls hP hS hl)
def ax_irem (a b : Int32) : Option Int32 := if b = 0 then none else some (a - a / b * b)
theorem ax_irem_ {V : ax_V} {μ : ax_Mu} (hV : ax_ok V μ) {pc nx : Nat} {lv : List (Option Value)} {st : List Value} {x : ax_S} {a b : Int32} (d : ax_D μ.2.1 pc (.irem) 1 nx) (v : Int32) (ho : ax_irem a b = some v) (k : ax_At V nx lv (.int v :: st) x) : ax_At V pc lv (.int b :: .int a :: st) x := by
  obtain ⟨Sd, G, ⟨p, l, e, R, s, m, args, below, meth, c⟩, rv, sf⟩ := V
  obtain ⟨d, rfl⟩ := d
  unfold ax_irem at ho
  split at ho
  · cases ho
  · rename_i hb
    cases ho
    intro H locs ls hP hS hl
    exact lv_irem hV.1 hV.2.1 d hb (k H locs ls hP hS hl)
def ax_ldiv (a b : Int64) : Option Int64 := if b = 0 then none else some (a / b)
theorem ax_ldiv_ {V : ax_V} {μ : ax_Mu} (hV : ax_ok V μ) {pc nx : Nat} {lv : List (Option Value)} {st : List Value} {x : ax_S} {a b : Int64} (d : ax_D μ.2.1 pc (.ldiv) 1 nx) (v : Int64) (ho : ax_ldiv a b = some v) (k : ax_At V nx lv (.long v :: st) x) : ax_At V pc lv (.long b :: .long a :: st) x := by
  obtain ⟨Sd, G, ⟨p, l, e, R, s, m, args, below, meth, c⟩, rv, sf⟩ := V
  obtain ⟨d, rfl⟩ := d
  unfold ax_ldiv at ho
  split at ho
  · cases ho
  · rename_i hb
    cases ho
    intro H locs ls hP hS hl
    exact lv_ldiv hV.1 hV.2.1 d hb (k H locs ls hP hS hl)
def ax_lrem (a b : Int64) : Option Int64 := if b = 0 then none else some (a - a / b * b)
theorem ax_lrem_ {V : ax_V} {μ : ax_Mu} (hV : ax_ok V μ) {pc nx : Nat} {lv : List (Option Value)} {st : List Value} {x : ax_S} {a b : Int64} (d : ax_D μ.2.1 pc (.lrem) 1 nx) (v : Int64) (ho : ax_lrem a b = some v) (k : ax_At V nx lv (.long v :: st) x) : ax_At V pc lv (.long b :: .long a :: st) x := by
  obtain ⟨Sd, G, ⟨p, l, e, R, s, m, args, below, meth, c⟩, rv, sf⟩ := V
  obtain ⟨d, rfl⟩ := d
  unfold ax_lrem at ho
  split at ho
  · cases ho
  · rename_i hb
    cases ho
    intro H locs ls hP hS hl
    exact lv_lrem hV.1 hV.2.1 d hb (k H locs ls hP hS hl)
theorem ax_icmp_eq {V : ax_V} {μ : ax_Mu} (hV : ax_ok V μ) {pc nx : Nat} {lv : List (Option Value)} {st : List Value} {x : ax_S} {tgt : Nat} {a b : Int32} (d : ax_B μ.2.1 pc (.if_icmp .eq) nx tgt) (k1 : a = b → ax_At V tgt lv st x) (k2 : ¬ a = b → ax_At V nx lv st x) : ax_At V pc lv (.int b :: .int a :: st) x := by
  obtain ⟨Sd, G, ⟨p, l, e, R, s, m, args, below, meth, c⟩, rv, sf⟩ := V
  obtain ⟨off, d, rfl, ht⟩ := d
  intro H locs ls hP hS hl
  exact lv_icmp_eq hV.1 hV.2.1 d ht (fun q => k1 q H locs ls hP hS hl) (fun q => k2 q H locs ls hP hS hl)
theorem ax_if_eq {V : ax_V} {μ : ax_Mu} (hV : ax_ok V μ) {pc nx : Nat} {lv : List (Option Value)} {st : List Value} {x : ax_S} {tgt : Nat} {a : Int32} (d : ax_B μ.2.1 pc (.ifCond .eq) nx tgt) (k1 : a = 0 → ax_At V tgt lv st x) (k2 : ¬ a = 0 → ax_At V nx lv st x) : ax_At V pc lv (.int a :: st) x := by
  obtain ⟨Sd, G, ⟨p, l, e, R, s, m, args, below, meth, c⟩, rv, sf⟩ := V
  obtain ⟨off, d, rfl, ht⟩ := d
  intro H locs ls hP hS hl
  exact lv_if_eq hV.1 hV.2.1 d ht (fun q => k1 q H locs ls hP hS hl) (fun q => k2 q H locs ls hP hS hl)
theorem ax_icmp_ne {V : ax_V} {μ : ax_Mu} (hV : ax_ok V μ) {pc nx : Nat} {lv : List (Option Value)} {st : List Value} {x : ax_S} {tgt : Nat} {a b : Int32} (d : ax_B μ.2.1 pc (.if_icmp .ne) nx tgt) (k1 : a = b → ax_At V nx lv st x) (k2 : ¬ a = b → ax_At V tgt lv st x) : ax_At V pc lv (.int b :: .int a :: st) x := by
  obtain ⟨Sd, G, ⟨p, l, e, R, s, m, args, below, meth, c⟩, rv, sf⟩ := V
  obtain ⟨off, d, rfl, ht⟩ := d
  intro H locs ls hP hS hl
  exact lv_icmp_ne hV.1 hV.2.1 d ht (fun q => k2 q H locs ls hP hS hl) (fun q => k1 q H locs ls hP hS hl)
theorem ax_if_ne {V : ax_V} {μ : ax_Mu} (hV : ax_ok V μ) {pc nx : Nat} {lv : List (Option Value)} {st : List Value} {x : ax_S} {tgt : Nat} {a : Int32} (d : ax_B μ.2.1 pc (.ifCond .ne) nx tgt) (k1 : a = 0 → ax_At V nx lv st x) (k2 : ¬ a = 0 → ax_At V tgt lv st x) : ax_At V pc lv (.int a :: st) x := by
  obtain ⟨Sd, G, ⟨p, l, e, R, s, m, args, below, meth, c⟩, rv, sf⟩ := V
  obtain ⟨off, d, rfl, ht⟩ := d
  intro H locs ls hP hS hl
  exact lv_if_ne hV.1 hV.2.1 d ht (fun q => k2 q H locs ls hP hS hl) (fun q => k1 q H locs ls hP hS hl)
theorem ax_icmp_lt {V : ax_V} {μ : ax_Mu} (hV : ax_ok V μ) {pc nx : Nat} {lv : List (Option Value)} {st : List Value} {x : ax_S} {tgt : Nat} {a b : Int32} (d : ax_B μ.2.1 pc (.if_icmp .lt) nx tgt) (k1 : a < b → ax_At V tgt lv st x) (k2 : ¬ a < b → ax_At V nx lv st x) : ax_At V pc lv (.int b :: .int a :: st) x := by
  obtain ⟨Sd, G, ⟨p, l, e, R, s, m, args, below, meth, c⟩, rv, sf⟩ := V
  obtain ⟨off, d, rfl, ht⟩ := d
  intro H locs ls hP hS hl
  exact lv_icmp_lt hV.1 hV.2.1 d ht (fun q => k1 q H locs ls hP hS hl) (fun q => k2 q H locs ls hP hS hl)
theorem ax_if_lt {V : ax_V} {μ : ax_Mu} (hV : ax_ok V μ) {pc nx : Nat} {lv : List (Option Value)} {st : List Value} {x : ax_S} {tgt : Nat} {a : Int32} (d : ax_B μ.2.1 pc (.ifCond .lt) nx tgt) (k1 : a < 0 → ax_At V tgt lv st x) (k2 : ¬ a < 0 → ax_At V nx lv st x) : ax_At V pc lv (.int a :: st) x := by
  obtain ⟨Sd, G, ⟨p, l, e, R, s, m, args, below, meth, c⟩, rv, sf⟩ := V
  obtain ⟨off, d, rfl, ht⟩ := d
  intro H locs ls hP hS hl
  exact lv_if_lt hV.1 hV.2.1 d ht (fun q => k1 q H locs ls hP hS hl) (fun q => k2 q H locs ls hP hS hl)
theorem ax_icmp_ge {V : ax_V} {μ : ax_Mu} (hV : ax_ok V μ) {pc nx : Nat} {lv : List (Option Value)} {st : List Value} {x : ax_S} {tgt : Nat} {a b : Int32} (d : ax_B μ.2.1 pc (.if_icmp .ge) nx tgt) (k1 : b ≤ a → ax_At V tgt lv st x) (k2 : ¬ b ≤ a → ax_At V nx lv st x) : ax_At V pc lv (.int b :: .int a :: st) x := by
  obtain ⟨Sd, G, ⟨p, l, e, R, s, m, args, below, meth, c⟩, rv, sf⟩ := V
  obtain ⟨off, d, rfl, ht⟩ := d
  intro H locs ls hP hS hl
  exact lv_icmp_ge hV.1 hV.2.1 d ht (fun q => k1 q H locs ls hP hS hl) (fun q => k2 q H locs ls hP hS hl)
theorem ax_if_ge {V : ax_V} {μ : ax_Mu} (hV : ax_ok V μ) {pc nx : Nat} {lv : List (Option Value)} {st : List Value} {x : ax_S} {tgt : Nat} {a : Int32} (d : ax_B μ.2.1 pc (.ifCond .ge) nx tgt) (k1 : 0 ≤ a → ax_At V tgt lv st x) (k2 : ¬ 0 ≤ a → ax_At V nx lv st x) : ax_At V pc lv (.int a :: st) x := by
  obtain ⟨Sd, G, ⟨p, l, e, R, s, m, args, below, meth, c⟩, rv, sf⟩ := V
  obtain ⟨off, d, rfl, ht⟩ := d
  intro H locs ls hP hS hl
  exact lv_if_ge hV.1 hV.2.1 d ht (fun q => k1 q H locs ls hP hS hl) (fun q => k2 q H locs ls hP hS hl)
theorem ax_icmp_gt {V : ax_V} {μ : ax_Mu} (hV : ax_ok V μ) {pc nx : Nat} {lv : List (Option Value)} {st : List Value} {x : ax_S} {tgt : Nat} {a b : Int32} (d : ax_B μ.2.1 pc (.if_icmp .gt) nx tgt) (k1 : b < a → ax_At V tgt lv st x) (k2 : ¬ b < a → ax_At V nx lv st x) : ax_At V pc lv (.int b :: .int a :: st) x := by
  obtain ⟨Sd, G, ⟨p, l, e, R, s, m, args, below, meth, c⟩, rv, sf⟩ := V
  obtain ⟨off, d, rfl, ht⟩ := d
  intro H locs ls hP hS hl
  exact lv_icmp_gt hV.1 hV.2.1 d ht (fun q => k1 q H locs ls hP hS hl) (fun q => k2 q H locs ls hP hS hl)
theorem ax_if_gt {V : ax_V} {μ : ax_Mu} (hV : ax_ok V μ) {pc nx : Nat} {lv : List (Option Value)} {st : List Value} {x : ax_S} {tgt : Nat} {a : Int32} (d : ax_B μ.2.1 pc (.ifCond .gt) nx tgt) (k1 : 0 < a → ax_At V tgt lv st x) (k2 : ¬ 0 < a → ax_At V nx lv st x) : ax_At V pc lv (.int a :: st) x := by
  obtain ⟨Sd, G, ⟨p, l, e, R, s, m, args, below, meth, c⟩, rv, sf⟩ := V
  obtain ⟨off, d, rfl, ht⟩ := d
  intro H locs ls hP hS hl
  exact lv_if_gt hV.1 hV.2.1 d ht (fun q => k1 q H locs ls hP hS hl) (fun q => k2 q H locs ls hP hS hl)
theorem ax_icmp_le {V : ax_V} {μ : ax_Mu} (hV : ax_ok V μ) {pc nx : Nat} {lv : List (Option Value)} {st : List Value} {x : ax_S} {tgt : Nat} {a b : Int32} (d : ax_B μ.2.1 pc (.if_icmp .le) nx tgt) (k1 : a ≤ b → ax_At V tgt lv st x) (k2 : ¬ a ≤ b → ax_At V nx lv st x) : ax_At V pc lv (.int b :: .int a :: st) x := by
  obtain ⟨Sd, G, ⟨p, l, e, R, s, m, args, below, meth, c⟩, rv, sf⟩ := V
  obtain ⟨off, d, rfl, ht⟩ := d
  intro H locs ls hP hS hl
  exact lv_icmp_le hV.1 hV.2.1 d ht (fun q => k1 q H locs ls hP hS hl) (fun q => k2 q H locs ls hP hS hl)
theorem ax_if_le {V : ax_V} {μ : ax_Mu} (hV : ax_ok V μ) {pc nx : Nat} {lv : List (Option Value)} {st : List Value} {x : ax_S} {tgt : Nat} {a : Int32} (d : ax_B μ.2.1 pc (.ifCond .le) nx tgt) (k1 : a ≤ 0 → ax_At V tgt lv st x) (k2 : ¬ a ≤ 0 → ax_At V nx lv st x) : ax_At V pc lv (.int a :: st) x := by
  obtain ⟨Sd, G, ⟨p, l, e, R, s, m, args, below, meth, c⟩, rv, sf⟩ := V
  obtain ⟨off, d, rfl, ht⟩ := d
  intro H locs ls hP hS hl
  exact lv_if_le hV.1 hV.2.1 d ht (fun q => k1 q H locs ls hP hS hl) (fun q => k2 q H locs ls hP hS hl)
theorem ax_goto {V : ax_V} {μ : ax_Mu} (hV : ax_ok V μ) {pc nx : Nat} {lv : List (Option Value)} {st : List Value} {x : ax_S} {tgt : Nat} (d : ax_B μ.2.1 pc (.goto) nx tgt) (k : ax_At V tgt lv st x) : ax_At V pc lv st x := by
  obtain ⟨Sd, G, ⟨p, l, e, R, s, m, args, below, meth, c⟩, rv, sf⟩ := V
  obtain ⟨off, d, rfl, ht⟩ := d
  intro H locs ls hP hS hl
  exact lv_goto hV.1 hV.2.1 d ht (k H locs ls hP hS hl)
theorem ax_tsw {V : ax_V} {μ : ax_Mu} (hV : ax_ok V μ) {pc nx : Nat} {lv : List (Option Value)} {st : List Value} {x : ax_S} {dflt hi : Int} {offs : Array Int} {len : Nat} {a : Int32} (i : Nat) (ha : a = Int32.ofNat i) {off : Int} {tgt : Nat} (d : ax_D μ.2.1 pc (.tableswitch dflt 0 hi offs) len nx) (ho : offs[i]? = some off) (ht : (pc : Int) + off = (tgt : Int)) (hi1 : (i : Int) ≤ hi) (hi2 : hi < 1000) (k : ax_At V tgt lv st x) : ax_At V pc lv (.int a :: st) x := by
  obtain ⟨Sd, G, ⟨p, l, e, R, s, m, args, below, meth, c⟩, rv, sf⟩ := V
  have d := d.1
  subst ha
  have hv : (Int32.ofNat i).toInt = (i : Int) := Int32.toInt_ofNat_of_lt (by omega)
  intro H locs ls hP hS hl
  exact lv_tableIn hV.1 hV.2.1 d (by rw [hv]; omega) (by rw [hv]; omega) (by rw [hv]; simpa using ho) ht (k H locs ls hP hS hl)
def ax_nk (a : Int32) (n : Nat) : Prop := ∀ k : Nat, k < n → ¬ a = Int32.ofNat k
theorem ax_nk_0 {a : Int32} : ax_nk a 0 := fun k h => absurd h (by omega)
theorem ax_nk_s {a : Int32} {n : Nat} (h : ax_nk a n) (h2 : ¬ a = Int32.ofNat n) : ax_nk a (n + 1) := fun k hk => by
  rcases Nat.lt_or_ge k n with q | q
  · exact h k q
  · have : k = n := by omega
    subst this
    exact h2
theorem ax_tswd {V : ax_V} {μ : ax_Mu} (hV : ax_ok V μ) {pc nx : Nat} {lv : List (Option Value)} {st : List Value} {x : ax_S} {dflt hi : Int} {offs : Array Int} {len : Nat} {a : Int32} {n : Nat} (hn : ax_nk a n) {tgt : Nat} (d : ax_D μ.2.1 pc (.tableswitch dflt 0 hi offs) len nx) (ht : (pc : Int) + dflt = (tgt : Int)) (hh : hi + 1 = (n : Int)) (k : ax_At V tgt lv st x) : ax_At V pc lv (.int a :: st) x := by
  obtain ⟨Sd, G, ⟨p, l, e, R, s, m, args, below, meth, c⟩, rv, sf⟩ := V
  have d := d.1
  intro H locs ls hP hS hl
  refine lv_tableOut hV.1 hV.2.1 d ?_ ht (k H locs ls hP hS hl)
  by_cases h1 : a.toInt < 0
  · exact Or.inl h1
  · refine Or.inr ?_
    rcases Int.lt_or_le hi a.toInt with q | q
    · exact q
    · refine absurd ?_ (hn a.toInt.toNat (by omega))
      apply Int32.toInt_inj.mp
      have := a.toInt_lt
      rw [Int32.toInt_ofNat_of_lt (by omega)]
      omega
/-- the field link: class ci of cx_cls, its field j -/
def ax_F (own : String) (ix ci j : Nat) : Prop := ∃ (C : String) (T : u_T) (N : Nat), cx_cls[ci]? = some (C, T, N) ∧ j < N ∧ (∀ w ∈ u_ws C T N, w ∈ ax_tb) ∧ Cond.fieldLink own ix (T j).1 (T j).2.1 (T j).2.2.1 ∈ ax_tb
def ax_Fp (own : String) (ix ci j : Nat) (ty : FieldType) : Prop := ∃ (C : String) (T : u_T) (N : Nat) (ty0 : Nat → FieldType), cx_cls[ci]? = some (C, T, N) ∧ j < N ∧ (∀ w ∈ u_ws C T N, w ∈ ax_tb) ∧ Cond.fieldLink own ix (T j).1 (T j).2.1 (T j).2.2.1 ∈ ax_tb ∧ (∀ k, k < N → parseFieldDescriptor (T k).2.2.1 = some (ty0 k)) ∧ (∀ a, a < N → ∀ b, b < N → a ≠ b → (T a).2.1 ≠ (T b).2.1) ∧ (T j).2.2.2 = false ∧ parseFieldDescriptor (T j).2.2.1 = some ty
theorem ax_fs_get {ad : Nat → Nat} {s : ax_S} {k j t : Nat} {fds : List Nat} (h : fds[j]? = some t) : (ax_fs ad s k fds)[j]? = some (ax_fv ad s k j t) := by
  simp [ax_fs, ax_mi_get, h]
theorem ax_fs_len {ad : Nat → Nat} {s : ax_S} {k : Nat} {fds : List Nat} : (ax_fs ad s k fds).length = fds.length := by simp [ax_fs, ax_mi_len]
theorem ax_gf {V : ax_V} {μ : ax_Mu} (hV : ax_ok V μ) {pc nx : Nat} {lv : List (Option Value)} {st : List Value} {x : ax_S} {ix ci j t a : Nat} {fds : List Nat} (hf : ax_F μ.1.cls ix ci j) (d : ax_D μ.2.1 pc (.getfield ix) 3 nx) (hL : V.1.1[a]? = some (0, ci, fds)) (ht : fds[j]? = some t) (k : ax_At V nx lv (ax_fv (ax_ad V) x a j t :: st) x) : ax_At V pc lv (.ref (ax_ad V a) :: st) x := by
  obtain ⟨Sd, G, ⟨p, l, e, R, s, m, args, below, meth, c⟩, rv, sf⟩ := V
  obtain ⟨d, rfl⟩ := d
  obtain ⟨C, T, N, hc, hj, hin, hlk⟩ := hf
  intro H locs ls hP hS hl
  exact va_get hV.1 hV.2.1 hV.2.2.2.2.1 hin hV.2.2.2.1 hV.2.2.2.2.2.1 hP a (ax_ws_get (G := G) (s := x) hL) hc j hj (hV.2.2.2.2.1 _ hlk) (fun _ h => h) (ax_fs_get ht) d (k H locs ls hP hS hl)
theorem ax_gfi {V : ax_V} {μ : ax_Mu} (hV : ax_ok V μ) {pc nx : Nat} {lv : List (Option Value)} {st : List Value} {x : ax_S} {ix ci j a : Nat} {fds : List Nat} (hf : ax_F μ.1.cls ix ci j) (d : ax_D μ.2.1 pc (.getfield ix) 3 nx) (hL : V.1.1[a]? = some (0, ci, fds)) (ht : fds[j]? = some 0) (k : ax_At V nx lv (.int (x.1 a j) :: st) x) : ax_At V pc lv (.ref (ax_ad V a) :: st) x := ax_gf hV hf d hL ht k
theorem ax_gfl {V : ax_V} {μ : ax_Mu} (hV : ax_ok V μ) {pc nx : Nat} {lv : List (Option Value)} {st : List Value} {x : ax_S} {ix ci j a : Nat} {fds : List Nat} (hf : ax_F μ.1.cls ix ci j) (d : ax_D μ.2.1 pc (.getfield ix) 3 nx) (hL : V.1.1[a]? = some (0, ci, fds)) (ht : fds[j]? = some 1) (k : ax_At V nx lv (.long (x.2 a j) :: st) x) : ax_At V pc lv (.ref (ax_ad V a) :: st) x := ax_gf hV hf d hL ht k
theorem ax_gfr {V : ax_V} {μ : ax_Mu} (hV : ax_ok V μ) {pc nx : Nat} {lv : List (Option Value)} {st : List Value} {x : ax_S} {ix ci j a b : Nat} {fds : List Nat} (hf : ax_F μ.1.cls ix ci j) (d : ax_D μ.2.1 pc (.getfield ix) 3 nx) (hL : V.1.1[a]? = some (0, ci, fds)) (ht : fds[j]? = some (b + 2)) (k : ax_At V nx lv (.ref (ax_ad V b) :: st) x) : ax_At V pc lv (.ref (ax_ad V a) :: st) x := ax_gf hV hf d hL ht k
theorem ax_fs_ui {ad : Nat → Nat} {s : ax_S} {k j : Nat} {v : Int32} {fds : List Nat} (h : fds[j]? = some 0) : (ax_fs ad s k fds).set j (.int v) = ax_fs ad (ax_ui s k j v) k fds := by
  apply List.ext_getElem?
  intro i
  by_cases hi : j = i
  · subst hi
    rw [List.getElem?_set_self (by rw [ax_fs_len]; exact (List.getElem?_eq_some_iff.mp h).1), ax_fs_get h]
    simp [ax_fv, ax_ui]
  · rw [List.getElem?_set_ne hi]
    simp only [ax_fs, ax_mi_get, Nat.zero_add]
    cases hf : fds[i]? with
    | none => rfl
    | some t =>
      have hi2 : ¬ i = j := fun q => hi q.symm
      match t with
      | 0 => simp [ax_fv, ax_ui, hi2]
      | 1 => simp [ax_fv, ax_ui]
      | t + 2 => simp [ax_fv]
theorem ax_fs_ul {ad : Nat → Nat} {s : ax_S} {k j : Nat} {v : Int64} {fds : List Nat} (h : fds[j]? = some 1) : (ax_fs ad s k fds).set j (.long v) = ax_fs ad (ax_ul s k j v) k fds := by
  apply List.ext_getElem?
  intro i
  by_cases hi : j = i
  · subst hi
    rw [List.getElem?_set_self (by rw [ax_fs_len]; exact (List.getElem?_eq_some_iff.mp h).1), ax_fs_get h]
    simp [ax_fv, ax_ul]
  · rw [List.getElem?_set_ne hi]
    simp only [ax_fs, ax_mi_get, Nat.zero_add]
    cases hf : fds[i]? with
    | none => rfl
    | some t =>
      have hi2 : ¬ i = j := fun q => hi q.symm
      match t with
      | 0 => simp [ax_fv, ax_ul]
      | 1 => simp [ax_fv, ax_ul, hi2]
      | t + 2 => simp [ax_fv]
theorem ax_pfi {V : ax_V} {μ : ax_Mu} (hV : ax_ok V μ) {pc nx : Nat} {lv : List (Option Value)} {st : List Value} {x : ax_S} {ix ci j a : Nat} {fds : List Nat} {v : Int32} (hf : ax_Fp μ.1.cls ix ci j .int) (d : ax_D μ.2.1 pc (.putfield ix) 3 nx) (hL : V.1.1[a]? = some (0, ci, fds)) (ht : fds[j]? = some 0) (k : ax_At V nx lv st (ax_ui x a j v)) : ax_At V pc lv (.int v :: .ref (ax_ad V a) :: st) x := by
  obtain ⟨Sd, G, ⟨p, l, e, R, s, m, args, below, meth, c⟩, rv, sf⟩ := V
  obtain ⟨d, rfl⟩ := d
  obtain ⟨C, T, N, ty0, hc, hj, hin, hlk, hty, hnm, hfin, hd⟩ := hf
  intro H locs ls hP hS hl
  refine va_put hV.1 hV.2.1 hV.2.2.2.2.1 hin ty0 hty hnm hV.2.2.2.1 hV.2.2.2.2.2.1 hP (ax_D_of hV.2.2.2.2.2.2.1 x) hS a (ax_ws_get (G := G) (s := x) hL) hc j hj (hV.2.2.2.2.1 _ hlk) (fun _ h => h) hfin hd rfl rfl (by rw [ax_fs_len]; exact (List.getElem?_eq_some_iff.mp ht).1) d (fun H1 locs1 hP1 _ hS1 => ?_)
  refine k H1 locs1 ls ?_ hS1 hl
  rw [ax_ws_set (s' := ax_ui x a j v) hL (by simp only [ax_e]; rw [ax_fs_ui ht]) (fun i d' hi => ax_e_congr (by exact ax_ui_ne hi) (by rfl) d')] at hP1
  exact hP1
theorem ax_pfl {V : ax_V} {μ : ax_Mu} (hV : ax_ok V μ) {pc nx : Nat} {lv : List (Option Value)} {st : List Value} {x : ax_S} {ix ci j a : Nat} {fds : List Nat} {v : Int64} (hf : ax_Fp μ.1.cls ix ci j .long) (d : ax_D μ.2.1 pc (.putfield ix) 3 nx) (hL : V.1.1[a]? = some (0, ci, fds)) (ht : fds[j]? = some 1) (k : ax_At V nx lv st (ax_ul x a j v)) : ax_At V pc lv (.long v :: .ref (ax_ad V a) :: st) x := by
  obtain ⟨Sd, G, ⟨p, l, e, R, s, m, args, below, meth, c⟩, rv, sf⟩ := V
  obtain ⟨d, rfl⟩ := d
  obtain ⟨C, T, N, ty0, hc, hj, hin, hlk, hty, hnm, hfin, hd⟩ := hf
  intro H locs ls hP hS hl
  refine va_put hV.1 hV.2.1 hV.2.2.2.2.1 hin ty0 hty hnm hV.2.2.2.1 hV.2.2.2.2.2.1 hP (ax_D_of hV.2.2.2.2.2.2.1 x) hS a (ax_ws_get (G := G) (s := x) hL) hc j hj (hV.2.2.2.2.1 _ hlk) (fun _ h => h) hfin hd rfl rfl (by rw [ax_fs_len]; exact (List.getElem?_eq_some_iff.mp ht).1) d (fun H1 locs1 hP1 _ hS1 => ?_)
  refine k H1 locs1 ls ?_ hS1 hl
  rw [ax_ws_set (s' := ax_ul x a j v) hL (by simp only [ax_e]; rw [ax_fs_ul ht]) (fun i d' hi => ax_e_congr (by rfl) (by exact ax_ul_ne hi) d')] at hP1
  exact hP1
def ax_zb (v : Int32) : Option Int32 := if v &&& 1 = v ∧ (v = 0 ∨ v = 1) then some v else none
theorem ax_pfz {V : ax_V} {μ : ax_Mu} (hV : ax_ok V μ) {pc nx : Nat} {lv : List (Option Value)} {st : List Value} {x : ax_S} {ix ci j a : Nat} {fds : List Nat} {v : Int32} (hf : ax_Fp μ.1.cls ix ci j .boolean) (d : ax_D μ.2.1 pc (.putfield ix) 3 nx) (hL : V.1.1[a]? = some (0, ci, fds)) (ht : fds[j]? = some 0) (v' : Int32) (ho : ax_zb v = some v') (k : ax_At V nx lv st (ax_ui x a j v')) : ax_At V pc lv (.int v :: .ref (ax_ad V a) :: st) x := by
  obtain ⟨Sd, G, ⟨p, l, e, R, s, m, args, below, meth, c⟩, rv, sf⟩ := V
  obtain ⟨d, rfl⟩ := d
  unfold ax_zb at ho
  split at ho
  · rename_i hz
    cases ho
    obtain ⟨C, T, N, ty0, hc, hj, hin, hlk, hty, hnm, hfin, hd⟩ := hf
    intro H locs ls hP hS hl
    refine va_put hV.1 hV.2.1 hV.2.2.2.2.1 hin ty0 hty hnm hV.2.2.2.1 hV.2.2.2.2.2.1 hP (ax_D_of hV.2.2.2.2.2.2.1 x) hS a (ax_ws_get (G := G) (s := x) hL) hc j hj (hV.2.2.2.2.1 _ hlk) (fun _ h => h) hfin hd (by simp only [narrow]; rw [hz.1]) (by rcases hz.2 with h | h <;> subst h <;> rfl) (by rw [ax_fs_len]; exact (List.getElem?_eq_some_iff.mp ht).1) d (fun H1 locs1 hP1 _ hS1 => ?_)
    refine k H1 locs1 ls ?_ hS1 hl
    rw [ax_ws_set (s' := ax_ui x a j v) hL (by simp only [ax_e]; rw [ax_fs_ui ht]) (fun i d' hi => ax_e_congr (by exact ax_ui_ne hi) (by rfl) d')] at hP1
    exact hP1
  · cases ho

section TH1
variable {p : Program} {l : Launch} {e : Env} {R : Room} {s : State} {m : MethodId} {args : Array Value} {below : List Frame} {meth : Method} {c : Code} {H : Heap} {locs : List Loc} {cells slots : Nat} {Q : State → Prop}
theorem th_imp {Q' : State → Prop} {g : JFrame} (k : W p l e R s m args below meth c H locs cells slots Q g) (h : ∀ t, Q t → Q' t) : W p l e R s m args below meth c H locs cells slots Q' g := by
  intro T hT X
  obtain ⟨t, a, b⟩ := k T hT X
  exact ⟨t, a, h t b⟩
def tfE (st t : State) (L : List Loc) (mc ms : Nat) : Prop := st.WarmedH t.vm ∧ st.sameButNew ({ t with vm := st.vm } : State) L mc ms
def TQ (below : List Frame) (Qc : Array Value → State → Outcome → State → Prop) (a : Array Value) (s : State) (mc ms : Nat) (free : Addr → Prop) : State → Prop := fun t =>
  ∃ o, t.status = .running ∧ Ended t below o ∧ Qc a s o t ∧ ∃ L, tfE s t L mc ms ∧ ∀ q ∈ L, free q.base
def MetT (l : Launch) (y : MethodName) (ws : List Cond) (rm : Room) (Pc : Array Value → State → Prop) (Qc : Array Value → State → Outcome → State → Prop) (mc ms : Nat) (free : Addr → Prop) : Prop :=
  MetFree l y (headSpec ws rm) Pc (fun _ _ _ _ _ => True) (fun a st o t => Qc a st o t ∧ ∃ L, tfE st t L mc ms ∧ ∀ q ∈ L, free q.base)
theorem th_ofW {y : MethodName} {ws ws' : List Cond} {rm : Room} {Pc : Array Value → State → Prop} {Qc : Array Value → State → Outcome → State → Prop} {mc ms : Nat} {free : Addr → Prop} {cc : ByteArray} {maxL : Nat} {ret : Option FieldType}
    (hy : plainName y.cls = true) (hw : ws = Cond.code y cc maxL ret :: ws')
    (body : ∀ p e s m args below meth c s₁, BodyLoose p l y (headSpec ws rm) cc maxL ret e s m args below meth c s₁ → c.maxLocals = maxL → Pc args s →
      W p l e (headSpec ws rm).room s m args below meth c s.heap [] 0 0 (TQ below Qc args s mc ms free) (entryFrame m args maxL)) : MetT l y ws rm Pc Qc mc ms free := by
  refine MetFree.of_bodyS (code := cc) (maxLocals := maxL) (ret := ret) hy ?_ ?_
  · intro args s m h hn
    obtain ⟨meth, c, h1, h2, h3, h4, h5, h6, -, -⟩ := Cond.code_spec hn (atoms_spec (ws := ws) h _ (by rw [hw]; exact List.mem_cons_self))
    exact ⟨meth, c, h1, h2, h3, h4, h5, h6⟩
  · intro p e s m args below meth c s₁ B hml hP _
    have hh0 : s₁.heap = s.heap := by rw [B.state]; rfl
    obtain ⟨t, a1, o, b1, b2, b3⟩ := body p e s m args below meth c s₁ B hml hP s₁ hh0 (Stand.of_body B)
    exact ⟨t, o, a1, b1, b2, ⟨b3.1, b3.2⟩⟩
/-- a method with handlers: as Met.ofW, over the word codeWith -/
theorem th_ofH {y : MethodName} {ws ws' : List Cond} {rm : Room} {Pc : Array Value → State → Prop} {Qc : Array Value → State → Outcome → State → Prop} {mc ms : Nat} {free : Addr → Prop} {cc : ByteArray} {maxL : Nat} {ret : Option FieldType} {hs : List (Nat × Nat × Nat × Nat)}
    (hy : plainName y.cls = true) (hw : ws = Cond.codeWith y cc maxL ret hs :: ws')
    (body : ∀ p e s m args below meth c s₁, BodyLoose p l y (headSpec ws rm) cc maxL ret e s m args below meth c s₁ → c.maxLocals = maxL → Pc args s →
      c.exceptionTable.toList.map (fun h => (h.startPc, h.endPc, h.handlerPc, h.catchType)) = hs →
      W p l e (headSpec ws rm).room s m args below meth c s.heap [] 0 0 (MQ below Qc args s mc ms free) (entryFrame m args maxL)) : Met l y ws rm Pc Qc mc ms free := by
  refine MetFree.of_bodyS (code := cc) (maxLocals := maxL) (ret := ret) hy ?_ ?_
  · intro args s m h hn
    obtain ⟨m', meth, c, h0, h1, h2, h3, h4, -, h5, h6, -⟩ := Cond.codeWith_spec (atoms_spec (ws := ws) h _ (by rw [hw]; exact List.mem_cons_self))
    cases hn.symm.trans h0
    exact ⟨meth, c, h1, h2, h3, h4, h5, h6⟩
  · intro p e s m args below meth c s₁ B hml hP _
    have hh0 : s₁.heap = s.heap := by rw [B.state]; rfl
    obtain ⟨m', meth', c', h0, h1, h2, -, -, h7, -⟩ := Cond.codeWith_spec (atoms_spec (ws := ws) B.pre _ (by rw [hw]; exact List.mem_cons_self))
    cases B.named.symm.trans h0
    cases B.method.symm.trans h1
    cases (Stand.of_body B).code.symm.trans h2
    obtain ⟨t, a1, o, b1, b2, b3⟩ := body p e s m args below meth c s₁ B hml hP h7 s₁ hh0 (Stand.of_body B)
    exact ⟨t, o, a1, b1, b2, ⟨b3.1, b3.2⟩⟩
theorem th_tq {Q1 Q2 : Array Value → State → Outcome → State → Prop} {c0 s0 mc ms : Nat} {free : Addr → Prop} {t : State} (hc : c0 ≤ mc) (hs : s0 ≤ ms) (hq : ∀ o t, Q1 args s o t → Q2 args s o t) (h : MQ below Q1 args s c0 s0 free t) : TQ below Q2 args s mc ms free t := by
  obtain ⟨o, h1, h2, h3, L, ⟨-, h5, h6⟩, h7⟩ := h
  exact ⟨o, h1, h2, hq o t h3, L, ⟨h5, h6.mono hc hs⟩, h7⟩
/-- the answer of a method that may throw: k = 0 and the value, or the kind of what it throws -/
def exN (k : Int32) : String := if k = 1 then "java/lang/IndexOutOfBoundsException" else if k = 2 then "java/lang/IllegalArgumentException" else if k = 3 then "java/lang/IllegalStateException" else "java/lang/UnsupportedOperationException"
def thX (k : Int32) (B : Unit → State → Prop) (A : Nat → Prop) (st : State) (o : Outcome) (t : State) : Prop :=
  ∃ x : Addr, o = .threw x ∧ B () t ∧ va_F A st t ∧ ∃ ce : Cell, t.heap[x]? = some ce ∧ ce.vm = .none ∧ st.vm.findClass (exN k) = some ce.cls
def thI (k v : Int32) (B : Unit → State → Prop) (A : Nat → Prop) : Array Value → State → Outcome → State → Prop := fun a st o t =>
  (k = 0 ∧ va_Qi (fun r (_ : Unit) => r = v) B A a st o t) ∨ (¬ k = 0 ∧ thX k B A st o t)
def thL (k : Int32) (v : Int64) (B : Unit → State → Prop) (A : Nat → Prop) : Array Value → State → Outcome → State → Prop := fun a st o t =>
  (k = 0 ∧ va_Ql (fun r (_ : Unit) => r = v) B A a st o t) ∨ (¬ k = 0 ∧ thX k B A st o t)
/-- the two statics of Throwable -/
def TZ (n d : String) (A : Nat → Prop) (U : State) (H : Heap) : Prop := ∃ (cf : ClassId) (k : Class) (i : Nat) (f : Field) (a : Nat) (cell : Cell), U.vm.findClass "java/lang/Throwable" = some cf ∧ U.fieldFound? "java/lang/Throwable" n d = some (cf, k, i, f) ∧ f.isStatic = true ∧ k.statics = some a ∧ H[a]? = some cell ∧ cell.vm.isStatics = true ∧ cell.cls = cf ∧ f.slot < cell.slots.size ∧ k.staticTypes[f.slot]? = some f.type ∧ (cell.slots[f.slot]? = some .null ∨ ∃ t, cell.slots[f.slot]? = some (.ref t)) ∧ ¬ A a
theorem TZ_moved {n d : String} {A : Nat → Prop} {u U : State} {H : Heap} (hvm : u.vm.Alike U.vm) (h : TZ n d A u H) : TZ n d A U H := by
  obtain ⟨cf, k, i, f, a, cell, h0, h1, h2, h3, h4, h5, h6, h7, h8, h9⟩ := h
  obtain ⟨k', hi', he⟩ := State.fieldFound?_setVm hvm h1
  exact ⟨cf, k', i, f, a, cell, by rw [hvm.findClass]; exact h0, hi', h2, by rw [he]; exact h3, h4, h5, h6, h7, by rw [he]; exact h8, h9⟩
theorem TZ_kept {n d : String} {A : Nat → Prop} {U : State} {H H1 : Heap} (hq : ∀ a : Nat, a < H.size → ¬ A a → H1[a]? = H[a]?) (h : TZ n d A U H) : TZ n d A U H1 := by
  obtain ⟨cf, k, i, f, a, cell, h0, h1, h2, h3, h4, h5, h6, h7, h8, h9, h10⟩ := h
  exact ⟨cf, k, i, f, a, cell, h0, h1, h2, h3, by rw [hq a (Array.getElem?_eq_some_iff.mp h4).1 h10]; exact h4, h5, h6, h7, h8, h9, h10⟩
theorem TZ_narrow {n d : String} {A B : Nat → Prop} {U : State} {H : Heap} (hq : ∀ q, B q → A q) (h : TZ n d A U H) : TZ n d B U H := by
  obtain ⟨cf, k, i, f, a, cell, h0, h1, h2, h3, h4, h5, h6, h7, h8, h9, h10⟩ := h
  exact ⟨cf, k, i, f, a, cell, h0, h1, h2, h3, h4, h5, h6, h7, h8, h9, fun q => h10 (hq a q)⟩
theorem TZ_of {n d : String} {A : Nat → Prop} (hl : (Cond.laysStatic "java/lang/Throwable" n d).before args s = true) (h : (Cond.isRef (.static "java/lang/Throwable" n d)).before args s = true) (hA : ∀ a : Nat, a < s.heap.size → ¬ A a) : TZ n d A s s.heap := by
  obtain ⟨cf, k, i, f, a, cell, hc, hi, hst, ha, hcell, hs, hcls, hlt, hty⟩ := Cond.laysStatic_spec hl
  refine ⟨cf, k, i, f, a, cell, hc, hi, hst, ha, hcell, hs, hcls, hlt, hty, ?_, hA a (Array.getElem?_eq_some_iff.mp hcell).1⟩
  cases hv : (Term.static "java/lang/Throwable" n d).eval args s none [] s with
  | none => simp [Cond.before, Cond.holds, Cond.value, hv] at h
  | some w =>
    obtain ⟨hst', a', cell', ha', hcell', -, hslot⟩ := Term.static_spec hi hv
    cases ha.symm.trans ha'
    cases hcell.symm.trans hcell'
    simp only [Cond.before, Cond.holds, Cond.value, hv] at h
    cases w with
    | null => exact Or.inl hslot
    | ref t => exact Or.inr ⟨t, hslot⟩
    | _ => simp at h
theorem TZ_lays {n d : String} {A : Nat → Prop} (h : TZ n d A s s.heap) : (Cond.laysStatic "java/lang/Throwable" n d).before args s = true := by
  obtain ⟨cf, k, i, f, a, cell, h0, h1, h2, h3, h4, h5, h6, h7, h8, h9, h10⟩ := h
  exact Cond.laysStatic_of h0 h1 h2 h3 h4 h5 h6 h7 h8
theorem TZ_ref {n d : String} {A : Nat → Prop} (h : TZ n d A s s.heap) : (Cond.isRef (.static "java/lang/Throwable" n d)).before args s = true := by
  obtain ⟨cf, k, i, f, a, cell, h0, h1, h2, h3, h4, h5, h6, h7, h8, h9, h10⟩ := h
  rcases h9 with h9 | ⟨t, h9⟩
  · have hv : (Term.static "java/lang/Throwable" n d).eval args s none [] s = some .null := by simp [Term.eval, State.fieldNamed?, h1, h2, h3, h4, h5, h9]
    simp [Cond.before, Cond.holds, Cond.value, hv]
  · have hv : (Term.static "java/lang/Throwable" n d).eval args s none [] s = some (.ref t) := by simp [Term.eval, State.fieldNamed?, h1, h2, h3, h4, h5, h9]
    simp [Cond.before, Cond.holds, Cond.value, hv]
def GT (A : Nat → Prop) (U : State) (H : Heap) : Prop := TZ "UNASSIGNED_STACK" "[Ljava/lang/StackTraceElement;" A U H ∧ TZ "SUPPRESSED_SENTINEL" "Ljava/util/List;" A U H
def GX (ad : Nat → Nat) (A : Nat → Prop) (U : State) (H : Heap) : Prop := GS ad A U H ∧ GT A U H
theorem GX_ok (ad : Nat → Nat) : gOk (GX ad) := by
  have h := GS_ok ad
  refine ⟨fun A u U H hW q => ⟨h.1 A u U H hW q.1, TZ_moved hW.alike q.2.1, TZ_moved hW.alike q.2.2⟩, fun A U H H1 hq q => ⟨h.2.1 A U H H1 hq q.1, TZ_kept hq q.2.1, TZ_kept hq q.2.2⟩, fun A B U H hq q => ⟨h.2.2 A B U H hq q.1, TZ_narrow hq q.2.1, TZ_narrow hq q.2.2⟩⟩
end TH1

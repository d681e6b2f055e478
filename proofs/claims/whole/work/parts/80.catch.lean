section TH4
variable {p : Program} {l : Launch} {e : Env} {R : Room} {s : State} {m : MethodId} {args : Array Value} {below : List Frame} {meth : Method} {c : Code} {H : Heap} {locs : List Loc} {cells slots : Nat} {Q : State → Prop}
variable {pc : Nat} {ls : Array Slot} {rest st0 : List Value} {dC : Nat → ClassId} {dI : Nat → Nat → Nat} {A : Nat → Prop} {tys : List (ClassId × FieldType)} {wq wc wr w1 : va_W} {H0 : Heap}
variable {y : MethodName} {bytes cc : ByteArray} {maxL nL mc ms n index : Nat} {ret : Option FieldType} {ws : List Cond} {rm : Room} {Pc : Array Value → State → Prop} {Qc : Array Value → State → Outcome → State → Prop} {free : Addr → Prop} {Ts : List Cond} {own C : String} {b : Addr} {As : List Value} {g : JFrame}
def thRun (p : Program) (l : Launch) (e : Env) (R : Room) (s : State) (m : MethodId) (args : Array Value) (below : List Frame) (meth : Method) (c : Code) (H : Heap) (locs : List Loc) (cells slots mc ms : Nat) (g : JFrame) (rest : List Value) (Qa : State → Outcome → State → Prop) (free : Addr → Prop) : Prop :=
  ∀ T : State, T.heap = H → Stand p l e R s m args below meth c T locs cells slots → ∃ (o : Outcome) (st₀ t T' : State) (L : List Loc), st₀.heap = H ∧ s.vm.Alike st₀.vm ∧ Stand p l e R s m args below meth c T' (locs ++ L) (cells + mc) (slots + ms) ∧ (∀ q ∈ L, free q.base) ∧ T'.heap = t.heap ∧ T'.vm = t.vm ∧ Qa st₀ o t ∧
    ((∃ v : Option Value, o = .returned v ∧ Goes p e below T g T' { g with pc := g.pc + 3, stack := v.toList ++ rest }) ∨
     (∃ x : Addr, o = .threw x ∧ ∀ tg, Steps p.tables e below ((T'.setTop { g with stack := rest }).pushFrame (.throwing x)) tg → Steps p.tables e below (T.setTop g) tg))
theorem th_runV (S : CallFix p m c cc nL s args Ts own) (hM : MetT l y ws rm Pc Qc mc ms free) (cw : CallW R s args own C index y bytes maxL ret ws rm mc ms n) (hp : PreV s H C b Pc As)
    (hg : g.method = m) (hn : As.length = n) (hsize : g.locals.size = nL) (hstack : g.stack = As.reverse ++ .ref b :: rest) (hW : 2 * g.monitorRoom + (rest.map fun v => v.category).sum ≤ 8) (hdg : decode cc g.pc = .ok (.invokevirtual index, 3)) (hf : cells + mc ≤ R.cells ∧ slots + ms ≤ R.slots) :
    thRun p l e R s m args below meth c H locs cells slots mc ms g rest (Qc (Value.ref b :: As).toArray) free := by
  obtain ⟨⟨hrc, hrs, hfr, hlo, hws, hcw, hcode, hini, hy, hlen, hl⟩, hin, hse⟩ := cw
  obtain ⟨hx, hb, hml, ho, -⟩ := S
  obtain ⟨hbl, ⟨cellB, hcB, hoB, hclB⟩, hPc⟩ := hp
  intro T hT X
  subst hg
  obtain ⟨mk, methM, hnamed, hmethM, hstM, habM⟩ := Cond.instanceMethod_spec hin
  obtain ⟨methM', cM, hmethM', -, -, -, -, -, -, hsigM⟩ := Cond.code_spec hnamed hcode
  cases hmethM.symm.trans hmethM'
  obtain ⟨c2, r2, m2, q1, q2, q3, q4, kP, hkP, hkPi⟩ := Cond.selects_spec hse
  cases hclB.symm.trans q1
  cases (State.methodFound?_of_named hnamed hy).symm.trans q2
  cases hnamed.symm.trans q3
  have hselP : selectMethod e.platform s.vm cellB.cls mk = .method mk := by rw [Launch.admits_selectMethod X.admits]; exact q4
  have hdg' : decode c.code g.pc = .ok (.invokevirtual index, 3) := by rw [hb]; exact hdg
  obtain ⟨vm₁, X₁, hstep₁⟩ := X.invokevirtual hx ho hl hnamed hmethM hstM hkP hkPi hy (a := b) (cell := cellB) (by rw [hT]; exact hcB)
    (fun z h => by rw [h] at hoB; cases hoB) hselP hmethM habM hkP hkPi (g := g) rfl (argsL := As) (rest := rest) (hn.trans (hlen _ hsigM)) hstack hdg'
  have hnY := X₁.named hnamed
  obtain ⟨methY, cY, hmY, hcY, -, hlY, -, -, -, -⟩ := Cond.code_spec hnY (hws _ hcw #[] _ X₁.warmed)
  obtain ⟨kY, hkY, -⟩ := className_of_methodNamed hnY
  have hinitY : kY.init = .initialized := Cond.initialized_spec (args := #[]) (findClass_of_methodNamed hnY) hkY (word_at X₁.warmed (Or.inl (by first | rfl | simp [Cond.onTables, Cond.keeps, Cond.steady])) hini)
  have h : At (T.setVm vm₁) ({ g with stack := rest } : JFrame).method c below := X₁.here
  have happ : (headSpec ws rm).appliesLoose y e.platform ((T.setVm vm₁).calling { g with stack := rest } mk (Value.ref b :: As).toArray) = true :=
    Spec.appliesLoose_calling (g := { g with stack := rest }) h hdg' hnY hkY hinitY
      (X₁.room_calling (g := { g with stack := rest }) (R' := (headSpec ws rm).room) (hsize.trans hml.symm) hmY hcY hfr (by rw [hlY]; exact Nat.le_trans (Nat.add_le_add_right (Nat.add_le_add_right hW _) _) hlo) (by rw [show (headSpec ws rm).room.cells = mc from hrc]; exact hf.1) (by rw [show (headSpec ws rm).room.slots = ms from hrs]; exact hf.2))
      (atoms_intro fun w hw => hws w hw _ _ X₁.warmed)
  obtain ⟨mid, hmid⟩ := h.above
  have hfrm : ((T.setVm vm₁).setTop { g with stack := rest }).frames = (.java { g with stack := rest } :: mid) ++ below := by rw [State.frames_setTop' _ h.top, hmid]; rfl
  obtain ⟨o, s₂, hsteps, -, hend, hq, L, ⟨hW2, hsame⟩, hL⟩ := Steps.callFree hM p X₁.admits X₁.cas X₁.clock (acts := []) hfrm happ (hbl _ _ _ _ (hPc (T.setVm vm₁) hT X₁.warmed)) trivial
  rw [State.frames_setTop' _ h.top, X₁.tail] at hend
  cases o with
  | returned v =>
    obtain ⟨T', X', -, -, ht⟩ := X₁.outOf (g := { g with stack := rest }) rfl hdg' hend hW2 hsame
    refine ⟨.returned v, (T.setVm vm₁).calling { g with stack := rest } mk (Value.ref b :: As).toArray, s₂, T', L, hT, X₁.warmed.alike, X', hL, by rw [ht]; rfl, by rw [ht]; rfl, hq, Or.inl ⟨v, rfl, fun tg htg => hstep₁ _ fun acts => ?_⟩⟩
    rw [doInvoke_state]
    rw [ht] at hsteps
    exact hsteps.trans htg
  | threw x =>
    obtain ⟨T', X', -, -, ht⟩ := X₁.outOfThrown (g := { g with stack := rest }) rfl hend hW2 hsame
    refine ⟨.threw x, (T.setVm vm₁).calling { g with stack := rest } mk (Value.ref b :: As).toArray, s₂, T', L, hT, X₁.warmed.alike, X', hL, by rw [ht]; rfl, by rw [ht]; rfl, hq, Or.inr ⟨x, rfl, fun tg htg => hstep₁ _ fun acts => ?_⟩⟩
    rw [doInvoke_state]
    rw [ht] at hsteps
    exact hsteps.trans htg
def thW (p : Program) (l : Launch) (e : Env) (R : Room) (s : State) (m : MethodId) (args : Array Value) (below : List Frame) (meth : Method) (c : Code) (H : Heap) (locs : List Loc) (cells slots : Nat) (Q : State → Prop) (x : Addr) (g : JFrame) : Prop :=
  ∀ T : State, T.heap = H → Stand p l e R s m args below meth c T locs cells slots → ∃ t, Steps p.tables e below ((T.setTop g).pushFrame (.throwing x)) t ∧ Q t
theorem th_goi {k v : Int32} {a : Array Value} (hr : thRun p l e R s m args below meth c H locs cells slots mc ms (F0 m pc ls st0) rest (thI k v (rwB dC dI tys w1 (va_A wc H.size)) (va_A wc H.size) a) (va_A wc H.size))
    (hP : va_P (dC, dI) vwCl wq H) (hD : va_D A wq) (hS : va_S A H0 H locs) (hA : ∀ q, H0.size ≤ q → A q) (isC isR : List Nat) (hC : isC.map (fun i => wq[i]?) = wc.map some) (hR : isR.map (fun i => wq[i]?) = wr.map some) (hn : va_nd isR = true) (hdis : ∀ i ∈ isR, i ∉ isC)
    (k1 : k = 0 → ∀ (H1 : Heap) (locs1 : List Loc), va_P (dC, dI) vwCl (wr ++ w1) H1 → va_D A (wr ++ w1) → va_S A H0 H1 locs1 → W p l e R s m args below meth c H1 locs1 (cells + mc) (slots + ms) Q (F0 m (pc + 3) ls (.int v :: rest)))
    (k2 : ¬ k = 0 → ∀ (x : Nat) (H1 : Heap) (locs1 : List Loc) (ce : Cell), va_P (dC, dI) vwCl (wr ++ w1) H1 → va_D A (wr ++ w1) → va_S A H0 H1 locs1 → H1[x]? = some ce → ce.vm = .none → s.vm.findClass (exN k) = some ce.cls → thW p l e R s m args below meth c H1 locs1 (cells + mc) (slots + ms) Q x (F0 m pc ls rest)) : W p l e R s m args below meth c H locs cells slots Q (F0 m pc ls st0) := by
  have hF : ∀ q, va_A wc H.size q → A q := va_free hD hS hA isC hC
  intro T hT X
  obtain ⟨o, st₀, t, T', L, h0, hal, X', hL, e1, e2, hq, hgo⟩ := hr T hT X
  have key : rwB dC dI tys w1 (va_A wc H.size) () t → va_F (va_A wc H.size) st₀ t → va_P (dC, dI) vwCl (wr ++ w1) T'.heap ∧ va_D A (wr ++ w1) ∧ va_S A H0 T'.heap (locs ++ L) := by
    intro hB hf
    obtain ⟨hz, hk⟩ := hf
    rw [h0] at hz hk
    obtain ⟨hP1, -, hD1⟩ := hB
    rw [← e1] at hP1 hz
    have hk' : ∀ q : Nat, q < H.size → ¬ va_A wc H.size q → T'.heap[q]? = H[q]? := fun q h1 h2 => by rw [e1]; exact hk q h1 h2
    obtain ⟨hP2, hD2⟩ := va_join (wr := wr) (w1 := w1) hP hD isC isR hC hR hn hdis hk' hF hP1 hD1
    exact ⟨hP2, hD2, Nat.le_trans hS.1 hz, fun q h1 h2 => by rw [hk' q (Nat.lt_of_lt_of_le h1 hS.1) (fun z => h2 (hF q z))]; exact hS.2.1 q h1 h2, fun q hq => by
      rcases List.mem_append.mp hq with h | h
      · exact hS.2.2 q h
      · exact hF _ (hL q h)⟩
  rcases hq with ⟨hk0, ⟨r, u, hv, hrv, hB⟩, hf⟩ | ⟨hk0, x, hv, hB, hf, ce, hce, hvm, hcls⟩
  · obtain ⟨hP2, hD2, hS2⟩ := key hB hf
    rcases hgo with ⟨v9, hv9, st⟩ | ⟨x9, hv9, -⟩
    · cases hv.symm.trans hv9
      subst hrv
      obtain ⟨t2, a1, b1⟩ := k1 hk0 _ _ hP2 hD2 hS2 T' rfl X'
      exact ⟨t2, st t2 a1, b1⟩
    · cases hv.symm.trans hv9
  · obtain ⟨hP2, hD2, hS2⟩ := key hB hf
    rcases hgo with ⟨v9, hv9, -⟩ | ⟨x9, hv9, st⟩
    · cases hv.symm.trans hv9
    · cases hv.symm.trans hv9
      obtain ⟨t2, a1, b1⟩ := k2 hk0 x _ _ ce hP2 hD2 hS2 (by rw [e1]; exact hce) hvm (by rw [← hal.findClass]; exact hcls) T' rfl X'
      exact ⟨t2, st t2 a1, b1⟩
theorem th_gol {k : Int32} {v : Int64} {a : Array Value} (hr : thRun p l e R s m args below meth c H locs cells slots mc ms (F0 m pc ls st0) rest (thL k v (rwB dC dI tys w1 (va_A wc H.size)) (va_A wc H.size) a) (va_A wc H.size))
    (hP : va_P (dC, dI) vwCl wq H) (hD : va_D A wq) (hS : va_S A H0 H locs) (hA : ∀ q, H0.size ≤ q → A q) (isC isR : List Nat) (hC : isC.map (fun i => wq[i]?) = wc.map some) (hR : isR.map (fun i => wq[i]?) = wr.map some) (hn : va_nd isR = true) (hdis : ∀ i ∈ isR, i ∉ isC)
    (k1 : k = 0 → ∀ (H1 : Heap) (locs1 : List Loc), va_P (dC, dI) vwCl (wr ++ w1) H1 → va_D A (wr ++ w1) → va_S A H0 H1 locs1 → W p l e R s m args below meth c H1 locs1 (cells + mc) (slots + ms) Q (F0 m (pc + 3) ls (.long v :: rest)))
    (k2 : ¬ k = 0 → ∀ (x : Nat) (H1 : Heap) (locs1 : List Loc) (ce : Cell), va_P (dC, dI) vwCl (wr ++ w1) H1 → va_D A (wr ++ w1) → va_S A H0 H1 locs1 → H1[x]? = some ce → ce.vm = .none → s.vm.findClass (exN k) = some ce.cls → thW p l e R s m args below meth c H1 locs1 (cells + mc) (slots + ms) Q x (F0 m pc ls rest)) : W p l e R s m args below meth c H locs cells slots Q (F0 m pc ls st0) := by
  have hF : ∀ q, va_A wc H.size q → A q := va_free hD hS hA isC hC
  intro T hT X
  obtain ⟨o, st₀, t, T', L, h0, hal, X', hL, e1, e2, hq, hgo⟩ := hr T hT X
  have key : rwB dC dI tys w1 (va_A wc H.size) () t → va_F (va_A wc H.size) st₀ t → va_P (dC, dI) vwCl (wr ++ w1) T'.heap ∧ va_D A (wr ++ w1) ∧ va_S A H0 T'.heap (locs ++ L) := by
    intro hB hf
    obtain ⟨hz, hk⟩ := hf
    rw [h0] at hz hk
    obtain ⟨hP1, -, hD1⟩ := hB
    rw [← e1] at hP1 hz
    have hk' : ∀ q : Nat, q < H.size → ¬ va_A wc H.size q → T'.heap[q]? = H[q]? := fun q h1 h2 => by rw [e1]; exact hk q h1 h2
    obtain ⟨hP2, hD2⟩ := va_join (wr := wr) (w1 := w1) hP hD isC isR hC hR hn hdis hk' hF hP1 hD1
    exact ⟨hP2, hD2, Nat.le_trans hS.1 hz, fun q h1 h2 => by rw [hk' q (Nat.lt_of_lt_of_le h1 hS.1) (fun z => h2 (hF q z))]; exact hS.2.1 q h1 h2, fun q hq => by
      rcases List.mem_append.mp hq with h | h
      · exact hS.2.2 q h
      · exact hF _ (hL q h)⟩
  rcases hq with ⟨hk0, ⟨r, u, hv, hrv, hB⟩, hf⟩ | ⟨hk0, x, hv, hB, hf, ce, hce, hvm, hcls⟩
  · obtain ⟨hP2, hD2, hS2⟩ := key hB hf
    rcases hgo with ⟨v9, hv9, st⟩ | ⟨x9, hv9, -⟩
    · cases hv.symm.trans hv9
      subst hrv
      obtain ⟨t2, a1, b1⟩ := k1 hk0 _ _ hP2 hD2 hS2 T' rfl X'
      exact ⟨t2, st t2 a1, b1⟩
    · cases hv.symm.trans hv9
  · obtain ⟨hP2, hD2, hS2⟩ := key hB hf
    rcases hgo with ⟨v9, hv9, -⟩ | ⟨x9, hv9, st⟩
    · cases hv.symm.trans hv9
    · cases hv.symm.trans hv9
      obtain ⟨t2, a1, b1⟩ := k2 hk0 x _ _ ce hP2 hD2 hS2 (by rw [e1]; exact hce) hvm (by rw [← hal.findClass]; exact hcls) T' rfl X'
      exact ⟨t2, st t2 a1, b1⟩
end TH4
section TH5
variable {p : Program} {l : Launch} {e : Env} {R : Room} {s : State} {m : MethodId} {args : Array Value} {below : List Frame} {meth : Method} {c : Code} {H : Heap} {locs : List Loc} {cells slots : Nat} {Q : State → Prop}
theorem fh_cold {E : CtlPost} {d : Bool} {acts : List Action} {S : State} {f : JFrame} {a : Addr} {Q : Handler → Pre} {x : ExceptionTableEntry} {t : List ExceptionTableEntry} {k : ClassId} {cell : Cell} {vm' : Vm} (hx : covers x f.pc = true) (h0 : x.catchType ≠ 0)
    (hg : (Jvm.resolveClass f.method.cls x.catchType).Gives e.toSetting S.vm (.ok k) vm') (hsz : vm'.classes.size ≤ S.vm.classes.size) (hcell : S.heap[a]? = some cell) (hobj : ∀ k, cell.vm ≠ .statics k) (hk : ∃ k, vm'.classes[cell.cls]? = some k) (hc : ∃ q, vm'.classes[k]? = some q) :
    wp (findHandler.go f a (x :: t)) Q E e d acts S ↔ if vm'.assignable cell.cls k = true then Q (.found x.handlerPc) d acts (S.setVm vm') else wp (findHandler.go f a t) Q E e d acts (S.setVm vm') := by
  simp only [covers] at hx
  obtain ⟨ha, ht⟩ := hg.op (op := VmOp.resolveClass f.method.cls x.catchType) rfl
  cases hfit : vm'.assignable cell.cls k <;> simp [findHandler.go, hx, h0, ha, ht, hsz, hcell, hobj, hk, hc, hfit, VmOp.dirties, VmOp.acts]
theorem st_catch {S S' : State} {a : Addr} {f : JFrame} {r : List Frame} {pc : Nat} (hfind : ∀ (Q : Handler → Pre) (E : CtlPost) (d : Bool) (acts : List Action), wp (findHandler f a) Q E e d acts S ↔ Q (.found pc) d acts S') :
    (stepThrowing e S a (.java f :: r)).Is (S'.setFrames (.java { f with pc := pc, stack := [.ref a] } :: r)) [] := by
  simp only [stepThrowing, searchFrame, vmDo]
  generalize hr : Sem.go _ e false [] S = res
  obtain ⟨as, rfl, ha⟩ := Sem.eq_ok_of hr (a := Handler.found pc) (s' := S') (acts' := []) (by simp [hfind _ _ _ _])
  exact ⟨rfl, ha⟩
theorem st_caught {T target : State} {g : JFrame} {a : Addr} {pc : Nat} {vm' : Vm} (h : At T g.method c below) (hfind : ∀ (Q : Handler → Pre) (E : CtlPost) (d : Bool) (acts : List Action), wp (findHandler g a) Q E e d acts ((T.setTop g).pushFrame (.throwing a)) ↔ Q (.found pc) d acts (((T.setTop g).pushFrame (.throwing a)).setVm vm'))
    (hrest : Steps p.tables e below ((T.setVm vm').setTop { g with pc := pc, stack := [.ref a] }) target) : Steps p.tables e below ((T.setTop g).pushFrame (.throwing a)) target := by
  obtain ⟨hgo, hw⟩ := h.throwing a
  refine Steps.head hgo hw ?_
  rw [stepThread_throwing (frames_entered h.top _), (st_catch (S := (T.setTop g).pushFrame (.throwing a)) hfind).1]
  obtain ⟨g₀, hg⟩ := Option.isSome_iff_exists.mp h.top
  obtain ⟨r, hr⟩ := State.topJava?_eq_some.mp hg
  have hr' : (T.setVm vm').frames = .java g₀ :: r := hr
  rw [State.setTop_of_frames _ hr'] at hrest
  rw [State.pushFrame, State.setTop_of_frames _ hr, State.setFrames_setFrames]
  show Steps p.tables e below ((((T.setVm vm').setFrames _)).setFrames _) target
  rw [State.setFrames_setFrames, hr]
  exact hrest
/-- the search through a table of handlers, each of them cold or warm -/
def thF (e : Env) (s : State) (f : JFrame) (a : Addr) (cell : Cell) (tb : List ExceptionTableEntry) (pc : Nat) : Prop :=
  ∀ S : State, s.WarmedH S.vm → S.heap[a]? = some cell → ∃ vm', s.WarmedH vm' ∧ ∀ (Q : Handler → Pre) (E : CtlPost) (d : Bool) (acts : List Action), wp (findHandler.go f a tb) Q E e d acts S ↔ Q (.found pc) d acts (S.setVm vm')
def NA (a b : String) (U : State) : Prop := ∀ ca cb, U.vm.findClass a = some ca → U.vm.findClass b = some cb → U.vm.assignable ca cb = false
theorem NA_moved {a b : String} {u U : State} (h : u.vm.Alike U.vm) (q : NA a b u) : NA a b U := by
  intro ca cb h1 h2
  rw [h.findClass] at h1 h2
  rw [h.assignable]
  exact q ca cb h1 h2
theorem thF_hit {own Y : String} {f : JFrame} {a : Addr} {cell : Cell} {x : ExceptionTableEntry} {t : List ExceptionTableEntry} (hadm : l.admits e) (hown : s.vm.findClass own = some f.method.cls) (hlink : (Cond.classLink own x.catchType Y).before args s = true) (hx : covers x f.pc = true) (h0 : x.catchType ≠ 0)
    (hobj : cell.vm = .none) (hcls : s.vm.findClass Y = some cell.cls) (hcast : (Cond.castable Y Y).before args s = true) : thF e s f a cell (x :: t) x.handlerPc := by
  intro S hW hcell
  have hpl : e.platform.magicAccessors = ({} : Platform).magicAccessors := by rw [hadm.platform]
  obtain ⟨k, hfk, hcl⟩ := Cond.classLink_spec hown hlink e.platform hpl
  cases Option.some.inj (hfk.symm.trans hcls)
  obtain ⟨hg₁, hwarm₁, hready₁⟩ := State.classEntry (e := e) hW hcl
  obtain ⟨c3, c4, hc3, hc4, hasg⟩ := Cond.castable_spec hcast
  cases Option.some.inj (hc3.symm.trans hcls)
  cases Option.some.inj (hc4.symm.trans hcls)
  refine ⟨_, hwarm₁, fun Q E d acts => ?_⟩
  have hk : ∃ k, (S.vm.noted f.method.cls x.catchType (Resolved.cls cell.cls)).classes[cell.cls]? = some k := Vm.classAt_of_findClass (name := Y) (by rw [hwarm₁.alike.findClass]; exact hcls)
  rw [fh_cold hx h0 hg₁ (by no_record) hcell (fun k => by rw [hobj]; simp) hk hk, if_pos (by rw [hwarm₁.alike.assignable]; exact hasg)]
theorem thF_pass {own Y Z : String} {f : JFrame} {a : Addr} {cell : Cell} {x : ExceptionTableEntry} {t : List ExceptionTableEntry} {pc : Nat} (hadm : l.admits e) (hown : s.vm.findClass own = some f.method.cls) (hlink : (Cond.classLink own x.catchType Y).before args s = true) (hx : covers x f.pc = true) (h0 : x.catchType ≠ 0)
    (hobj : cell.vm = .none) (hcls : s.vm.findClass Z = some cell.cls) (hna : NA Z Y s) (hr : thF e s f a cell t pc) : thF e s f a cell (x :: t) pc := by
  intro S hW hcell
  have hpl : e.platform.magicAccessors = ({} : Platform).magicAccessors := by rw [hadm.platform]
  obtain ⟨k, hfk, hcl⟩ := Cond.classLink_spec hown hlink e.platform hpl
  obtain ⟨hg₁, hwarm₁, hready₁⟩ := State.classEntry (e := e) hW hcl
  obtain ⟨vm2, hW2, hq⟩ := hr (S.setVm (S.vm.noted f.method.cls x.catchType (Resolved.cls k))) hwarm₁ hcell
  refine ⟨vm2, hW2, fun Q E d acts => ?_⟩
  rw [fh_cold hx h0 hg₁ (by no_record) hcell (fun k => by rw [hobj]; simp) (Vm.classAt_of_findClass (name := Z) (by rw [hwarm₁.alike.findClass]; exact hcls)) (Vm.classAt_of_findClass (name := Y) (by rw [hwarm₁.alike.findClass]; exact hfk)), if_neg (by rw [hwarm₁.alike.assignable, hna _ _ hcls hfk]; decide), hq]
  rfl
theorem th_catch {x pc pc0 : Nat} {ls : Array Slot} {rest : List Value} {ce : Cell} (hf : l.admits e → thF e s (F0 m pc0 ls rest) x ce c.exceptionTable.toList pc) (hce : H[x]? = some ce) (kk : W p l e R s m args below meth c H locs cells slots Q (F0 m pc ls [.ref x])) : thW p l e R s m args below meth c H locs cells slots Q x (F0 m pc0 ls rest) := by
  intro T hT X
  obtain ⟨vm', hW', hq⟩ := hf X.admits ((T.setTop (F0 m pc0 ls rest)).pushFrame (.throwing x)) (by rw [Stand.throwing_vm]; exact X.warmed) (by rw [Stand.throwing_heap, hT]; exact hce)
  obtain ⟨t, a1, b1⟩ := kk (T.setVm vm') hT (X.noted hW')
  refine ⟨t, st_caught (g := F0 m pc0 ls rest) X.here (fun Q E d acts => ?_) a1, b1⟩
  rw [W.findHandler_eq (by rw [Stand.throwing_vm]; exact X.method') X.code]
  exact hq Q E d acts
end TH5

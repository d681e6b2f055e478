section TH6
variable {p : Program} {l : Launch} {e : Env} {R : Room} {s : State} {m : MethodId} {args : Array Value} {below : List Frame} {meth : Method} {c : Code} {H : Heap} {locs : List Loc} {cells slots : Nat} {Q : State → Prop}
theorem th_fhit {own Y : String} {f : JFrame} {a : Addr} {ce : Cell} {L : List ExceptionTableEntry} {q1 q2 q3 q4 : Nat} {qs : List (Nat × Nat × Nat × Nat)} (h : L.map (fun h => (h.startPc, h.endPc, h.handlerPc, h.catchType)) = (q1, q2, q3, q4) :: qs) (hadm : l.admits e) (hown : s.vm.findClass own = some f.method.cls) (hlink : (Cond.classLink own q4 Y).before args s = true) (hx : q1 ≤ f.pc ∧ f.pc < q2) (h0 : q4 ≠ 0)
    (hobj : ce.vm = .none) (hcls : s.vm.findClass Y = some ce.cls) (hcast : (Cond.castable Y Y).before args s = true) : thF e s f a ce L q3 := by
  cases L with
  | nil => cases h
  | cons x t =>
    rw [List.map_cons] at h
    injection h with h1 h2
    injection h1 with e1 h1
    injection h1 with e2 h1
    injection h1 with e3 e4
    subst e1; subst e2; subst e3; subst e4
    exact thF_hit hadm hown hlink (by simp [covers, hx.1, hx.2]) h0 hobj hcls hcast
theorem th_fpass {own Y Z : String} {f : JFrame} {a : Addr} {ce : Cell} {L : List ExceptionTableEntry} {q1 q2 q3 q4 pc : Nat} {qs : List (Nat × Nat × Nat × Nat)} (h : L.map (fun h => (h.startPc, h.endPc, h.handlerPc, h.catchType)) = (q1, q2, q3, q4) :: qs) (hadm : l.admits e) (hown : s.vm.findClass own = some f.method.cls) (hlink : (Cond.classLink own q4 Y).before args s = true) (hx : q1 ≤ f.pc ∧ f.pc < q2) (h0 : q4 ≠ 0)
    (hobj : ce.vm = .none) (hcls : s.vm.findClass Z = some ce.cls) (hna : NA Z Y s) (hr : ∀ L' : List ExceptionTableEntry, L'.map (fun h => (h.startPc, h.endPc, h.handlerPc, h.catchType)) = qs → thF e s f a ce L' pc) : thF e s f a ce L pc := by
  cases L with
  | nil => cases h
  | cons x t =>
    rw [List.map_cons] at h
    injection h with h1 h2
    injection h1 with e1 h1
    injection h1 with e2 h1
    injection h1 with e3 e4
    subst e1; subst e2; subst e3; subst e4
    exact thF_pass hadm hown hlink (by simp [covers, hx.1, hx.2]) h0 hobj hcls hna (hr t h2)
def GY (ad : Nat → Nat) (A : Nat → Prop) (U : State) (H : Heap) : Prop := GX ad A U H ∧ NA "java/lang/IllegalStateException" "java/lang/IllegalArgumentException" U ∧ NA "java/lang/UnsupportedOperationException" "java/lang/IllegalArgumentException" U ∧ NA "java/lang/UnsupportedOperationException" "java/lang/IllegalStateException" U
theorem GY_ok (ad : Nat → Nat) : gOk (GY ad) := by
  have h := GX_ok ad
  exact ⟨fun A u U H hW q => ⟨h.1 A u U H hW q.1, NA_moved hW.alike q.2.1, NA_moved hW.alike q.2.2.1, NA_moved hW.alike q.2.2.2⟩, fun A U H H1 hq q => ⟨h.2.1 A U H H1 hq q.1, q.2⟩, fun A B U H hq q => ⟨h.2.2 A B U H hq q.1, q.2⟩⟩
end TH6
section TH7
variable {p : Program} {l : Launch} {e : Env} {R : Room} {s : State} {m : MethodId} {args : Array Value} {below : List Frame} {meth : Method} {c : Code} {H : Heap} {locs : List Loc} {cells slots : Nat} {Q : State → Prop}
variable {cc : ByteArray} {pc : Nat} {ls : Array Slot} {rest st0 : List Value} {dC : Nat → ClassId} {dI : Nat → Nat → Nat} {A : Nat → Prop} {tys : List (ClassId × FieldType)} {wq wc wr w1 : va_W} {H0 : Heap}
theorem th_reti {v r0 : Int32} (hx : p.tables.exec = Jvm.exec) (hb : c.code = cc) (hr : meth.sig.returnType = some .int) (hlocks : meth.locks = false) (hK : va_K (dC, dI) vwCl tys s) (hP : va_P (dC, dI) vwCl w1 H) (hD : va_D A w1) (hS : va_S A s.heap H locs) (hd : decode cc pc = .ok (.ireturn, 1)) (h : v = r0) : W p l e R s m args below meth c H locs cells slots (MQ below (va_Qi (fun r (_ : Unit) => r = r0) (rwB dC dI tys w1 A) A) args s cells slots A) (F0 m pc ls [.int v]) :=
  W.iret (v := v) hx hb hr (fun t ht hW => ⟨⟨v, (), rfl, h, by rw [ht]; exact hP, va_K.moved hW.alike hK, hD⟩, hS.F ht⟩) hS.2.2 hd hlocks
variable {y : MethodName} {bytes : ByteArray} {maxL nL mc ms n index : Nat} {ret : Option FieldType} {ws ws' : List Cond} {rm : Room} {Pc : Array Value → State → Prop} {Qc : Array Value → State → Outcome → State → Prop} {free : Addr → Prop} {Ts : List Cond} {own : String} {As : List Value} {g : JFrame} {hs : List (Nat × Nat × Nat × Nat)}
theorem th_runSH (S : CallFix p m c cc nL s args Ts own) (hM : Met l y ws rm Pc Qc mc ms free) (hw : ws = Cond.codeWith y bytes maxL ret hs :: ws') (hG : GoodIn Ts ws) (hrc : rm.cells = mc) (hrs : rm.slots = ms) (hini : (Cond.initialized y.cls).before args s = true) (hl : (Cond.methodLink own index y).before args s = true)
    (hd : y.cls ≠ "java/lang/invoke/MethodHandle" ∧ y.cls ≠ "java/lang/invoke/VarHandle" ∧ (parseMethodDescriptor y.desc).map (fun d => d.parameters.length) = some n) (hR : rm.frames + 1 ≤ R.frames ∧ 8 + (maxL + 11) + rm.locals ≤ R.locals) (hstat : (Cond.static y).before args s = true) (hp : PreS s H Pc As)
    (hg : g.method = m) (hn : As.length = n) (hsize : g.locals.size = nL) (hstack : g.stack = As.reverse ++ rest) (hW : 2 * g.monitorRoom + (rest.map fun v => v.category).sum ≤ 8) (hdg : decode cc g.pc = .ok (.invokestatic index, 3)) (hf : cells + mc ≤ R.cells ∧ slots + ms ≤ R.slots) :
    va_Run p l e R s m args below meth c H locs cells slots mc ms g rest (Qc As.toArray) free := by
  obtain ⟨hx, hb, hml, ho, ht⟩ := S
  obtain ⟨hbl, hPc⟩ := hp
  intro T hT X
  subst hg
  have hws : ∀ w ∈ ws, ∀ (a' : Array Value) (U : State), s.WarmedH U.vm → w.before a' U = true := pay_in ht hG
  have hcw : Cond.codeWith y bytes maxL ret hs ∈ ws := by rw [hw]; exact List.mem_cons_self
  obtain ⟨mk, methM, cM, hnamed, hmethM, hcM, -, hlM, -, -, -, hsigM⟩ := Cond.codeWith_spec (ht _ (hG _ hcw).1)
  have hstatic : methM.isStatic = true := Cond.static_spec hnamed hmethM hstat
  obtain ⟨kP, hkP, -⟩ := className_of_methodNamed hnamed
  have hinitP : kP.init = .initialized := Cond.initialized_spec (findClass_of_methodNamed hnamed) hkP hini
  have hdg' : decode c.code g.pc = .ok (.invokestatic index, 3) := by rw [hb]; exact hdg
  have hnp : As.length = methM.sig.parameters.length := by
    have h2 := hd.2.2
    rw [hsigM] at h2
    exact hn.trans (Option.some.inj h2).symm
  obtain ⟨vm₁, X₁, hstep₁⟩ := X.invokestatic hx ho hl hnamed hmethM hstatic hkP hinitP ⟨hd.1, hd.2.1⟩ (g := g) rfl (argsL := As) (rest := rest) hnp hstack hdg'
  have hnY := X₁.named hnamed
  obtain ⟨mY, methY, cY, hnY', hmY, hcY, -, hlY, -, -, -, -⟩ := Cond.codeWith_spec (hws _ hcw #[] (T.setVm vm₁) X₁.warmed)
  cases hnY.symm.trans hnY'
  obtain ⟨kY, hkY, -⟩ := className_of_methodNamed hnY
  have hinitY : kY.init = .initialized := Cond.initialized_spec (args := #[]) (findClass_of_methodNamed hnY) hkY (word_at X₁.warmed (Or.inl (by first | rfl | simp [Cond.onTables, Cond.keeps, Cond.steady])) hini)
  have h : At (T.setVm vm₁) ({ g with stack := rest } : JFrame).method c below := X₁.here
  have happ : (headSpec ws rm).appliesLoose y e.platform ((T.setVm vm₁).calling { g with stack := rest } mk As.toArray) = true :=
    Spec.appliesLoose_calling (g := { g with stack := rest }) h hdg' hnY hkY hinitY
      (X₁.room_calling (g := { g with stack := rest }) (R' := (headSpec ws rm).room) (hsize.trans hml.symm) hmY hcY hR.1 (by rw [hlY]; exact Nat.le_trans (Nat.add_le_add_right (Nat.add_le_add_right hW _) _) hR.2) (by rw [show (headSpec ws rm).room.cells = mc from hrc]; exact hf.1) (by rw [show (headSpec ws rm).room.slots = ms from hrs]; exact hf.2))
      (atoms_intro fun w hw => hws w hw _ _ X₁.warmed)
  obtain ⟨mid, hmid⟩ := h.above
  have hfrm : ((T.setVm vm₁).setTop { g with stack := rest }).frames = (.java { g with stack := rest } :: mid) ++ below := by rw [State.frames_setTop' _ h.top, hmid]; rfl
  obtain ⟨o, s₂, hsteps, -, hend, hq, L, ⟨⟨v, hv⟩, hW2, hsame⟩, hL⟩ := Steps.callFree hM p X₁.admits X₁.cas X₁.clock (acts := []) hfrm happ (hbl _ _ _ _ (hPc (T.setVm vm₁) hT X₁.warmed)) trivial
  rw [State.frames_setTop' _ h.top, X₁.tail] at hend
  subst hv
  obtain ⟨T', X', -, -, ht⟩ := X₁.outOf (g := { g with stack := rest }) rfl hdg' hend hW2 hsame
  refine ⟨v, (T.setVm vm₁).calling { g with stack := rest } mk As.toArray, s₂, T', L, hT, X', hL, by rw [ht]; rfl, by rw [ht]; rfl, hq, fun tg htg => hstep₁ _ fun acts => ?_⟩
  rw [doInvoke_state]
  rw [ht] at hsteps
  exact hsteps.trans htg
end TH7
theorem ex_ca1 {args : Array Value} {s : State} (hB : ∀ w ∈ BIG, w.before args s = true) (hF : ∀ w ∈ FACE, va_Nw w s) : (Cond.castable "java/lang/IndexOutOfBoundsException" "java/lang/IndexOutOfBoundsException").before args s = true := by first | exact wd_b hB (tb3 (List.mem_of_getElem? (i := 187) rfl)) rfl | exact wd_f hF (tb3 (List.mem_of_getElem? (i := 187) rfl)) rfl rfl
theorem ex_ca2 {args : Array Value} {s : State} (hB : ∀ w ∈ BIG, w.before args s = true) (hF : ∀ w ∈ FACE, va_Nw w s) : (Cond.castable "java/lang/IllegalArgumentException" "java/lang/IllegalArgumentException").before args s = true := by first | exact wd_b hB (tb4 (List.mem_of_getElem? (i := 64) rfl)) rfl | exact wd_f hF (tb4 (List.mem_of_getElem? (i := 64) rfl)) rfl rfl
theorem ex_ca3 {args : Array Value} {s : State} (hB : ∀ w ∈ BIG, w.before args s = true) (hF : ∀ w ∈ FACE, va_Nw w s) : (Cond.castable "java/lang/IllegalStateException" "java/lang/IllegalStateException").before args s = true := by first | exact wd_b hB (tb4 (List.mem_of_getElem? (i := 80) rfl)) rfl | exact wd_f hF (tb4 (List.mem_of_getElem? (i := 80) rfl)) rfl rfl
theorem ex_ca4 {args : Array Value} {s : State} (hB : ∀ w ∈ BIG, w.before args s = true) (hF : ∀ w ∈ FACE, va_Nw w s) : (Cond.castable "java/lang/UnsupportedOperationException" "java/lang/UnsupportedOperationException").before args s = true := by first | exact wd_b hB (tb4 (List.mem_of_getElem? (i := 96) rfl)) rfl | exact wd_f hF (tb4 (List.mem_of_getElem? (i := 96) rfl)) rfl rfl
theorem qw_man : Cond.codeWith ⟨"ChessRulesLaw", "man", "(LChessRules;I[J)I"⟩ method_3_code 4 (some .int) [(0, 9, 12, 13)] ∈ BIG := big_tbl (tb_in (tb3 (List.mem_of_getElem? (i := 178) rfl))) rfl
theorem qw_about : Cond.codeWith ⟨"ChessRulesLaw", "about", "(LChessRules;I[J)I"⟩ method_4_code 4 (some .int) [(0, 9, 12, 13)] ∈ BIG := big_tbl (tb_in (tb4 (List.mem_of_getElem? (i := 16) rfl))) rfl
theorem qw_attackers : Cond.codeWith ⟨"ChessRulesLaw", "attackers", "(LChessRules;II[J)I"⟩ method_5_code 5 (some .int) [(0, 9, 12, 13)] ∈ BIG := big_tbl (tb_in (tb4 (List.mem_of_getElem? (i := 24) rfl))) rfl
theorem qw_move : Cond.codeWith ⟨"ChessRulesLaw", "move", "(LChessRules;I[J)I"⟩ method_6_code 4 (some .int) [(0, 9, 12, 13)] ∈ BIG := big_tbl (tb_in (tb4 (List.mem_of_getElem? (i := 34) rfl))) rfl
theorem qw_play : Cond.codeWith ⟨"ChessRulesLaw", "play", "(LChessRules;I[J)I"⟩ method_7_code 4 (some .int) [(0, 9, 12, 28), (0, 9, 15, 30), (0, 9, 18, 32)] ∈ BIG := big_tbl (tb_in (tb4 (List.mem_of_getElem? (i := 50) rfl))) rfl
theorem qw_back : Cond.codeWith ⟨"ChessRulesLaw", "back", "(LChessRules;[J)I"⟩ method_8_code 3 (some .int) [(0, 8, 11, 30)] ∈ BIG := big_tbl (tb_in (tb4 (List.mem_of_getElem? (i := 135) rfl))) rfl
theorem qw_played : Cond.codeWith ⟨"ChessRulesLaw", "played", "(LChessRules;I[J)I"⟩ method_9_code 4 (some .int) [(0, 9, 12, 13)] ∈ BIG := big_tbl (tb_in (tb4 (List.mem_of_getElem? (i := 151) rfl))) rfl
theorem qw_ways : Cond.codeWith ⟨"ChessRulesLaw", "ways", "(LChessRules;I[J)I"⟩ method_10_code 4 (some .int) [(0, 8, 11, 28)] ∈ BIG := big_tbl (tb_in (tb4 (List.mem_of_getElem? (i := 159) rfl))) rfl

section TH3
variable {p : Program} {l : Launch} {e : Env} {R : Room} {s : State} {m : MethodId} {args : Array Value} {below : List Frame} {meth : Method} {c : Code} {H : Heap} {locs : List Loc} {cells slots : Nat} {Q : State → Prop}
variable {cc : ByteArray} {pc : Nat} {ls : Array Slot} {dC : Nat → ClassId} {dI : Nat → Nat → Nat} {A : Nat → Prop} {tys : List (ClassId × FieldType)} {w1 : va_W}
theorem th_same {U : State} {L : List Loc} {k n : Nat} (h : s.sameButNew ({ U with vm := s.vm } : State) L k n) (hL : L = []) : ∀ q : Nat, q < s.heap.size → U.heap[q]? = s.heap[q]? := by
  subst hL
  intro q hq
  have hc : s.heap[q]? = some s.heap[q] := Array.getElem?_eq_getElem hq
  obtain ⟨c', h1, h2, h3, h4⟩ := h.2.2.2.2.2 q _ hc
  have h1' : U.heap[q]? = some c' := h1
  rw [h1', hc, h2]
  have : c'.slots = s.heap[q].slots := Array.ext_getElem? (fun i => h4 i (by simp))
  rw [this]
theorem th_throw {own X tx : String} {names : List String} {i1 i2 i3 ad9 maxL : Nat} {k : Int32} {Qc : Array Value → State → Outcome → State → Prop}
    (hx : p.tables.exec = Jvm.exec) (hb : c.code = cc) (hml : c.maxLocals = maxL) (hlocks : meth.locks = false) (htl : l.stackTraces = false) (hown : s.vm.findClass own = some m.cls) (hnoh : c.exceptionTable.isEmpty = true)
    (hat : ∀ a ∈ Bundle.ownAtoms own i2 X names, a.before args s = true) (hfit : Bundle.fit X = true) (hfits : ∀ n ∈ names, Bundle.fit n = true)
    (hlink : (Cond.classLink own i1 X).before args s = true) (hins : (Cond.instantiable X 6).before args s = true) (hini : (Cond.initialized X).before args s = true) (hZ : vk_R own i3 tx ad9 s)
    (hkX : exN k = X) (hQ : ∀ o t, thX k (rwB dC dI tys w1 A) A s o t → Qc args s o t)
    (hK : va_K (dC, dI) vwCl tys s) (hP : va_P (dC, dI) vwCl w1 s.heap) (hD : va_D A w1) (hls : ls.size = maxL)
    (d0 : decode cc pc = .ok (.new i1, 3)) (d3 : decode cc (pc + 3) = .ok (.dup, 1)) (d4 : decode cc (pc + 3 + 1) = .ok (.ldc i3, 2)) (d6 : decode cc (pc + 3 + 1 + 2) = .ok (.invokespecial i2, 3)) (d9 : decode cc (pc + 3 + 1 + 2 + 3) = .ok (.athrow, 1))
    (hRc : 0 + 1 ≤ R.cells) (hRs : 0 + 6 ≤ R.slots) (hRf : names.length + 3 < R.frames) (hRl : 2 * 0 + 1 + (13 * (names.length + 1) + 42) ≤ R.locals) :
    W p l e R s m args below meth c s.heap [] 0 0 (TQ below Qc args s 1 6 A) (F0 m pc ls []) := by
  refine W.newc hx hb hown hlink hins hini rfl d0 hRc hRs (fun cC kC hC hkC _ hn => ?_)
  refine W.eq (g2 := F0 m (pc + 3) ls [.ref s.heap.size]) rfl ?_
  refine lv_dup hx hb d3 rfl ?_
  refine va_ldcS hx hb hown hZ d4 ?_
  intro T hT Y
  have htr : e.platform.stackTraces = false := by rw [Y.admits.platform]; exact htl
  obtain ⟨U, st, hrun, hend, hW, hsame, ce, hce, hoc⟩ := Y.ctorThrowS hx htr (own := own) (cls := X) (names := names) (ic := i2) hown hfit hfits hat (fun x hx => nomatch hx) hC hkC (a := s.heap.size)
    (by rw [hT]; exact Array.getElem?_push_size) (Nat.le_refl _) (msg := .ref ad9) rfl (g := F0 m (pc + 3 + 1 + 2) ls [.ref ad9, .ref s.heap.size, .ref s.heap.size]) rfl (by rw [hml]; exact hls) rfl rfl (rest := []) rfl (by rw [hb]; exact d6) (by rw [hb]; exact d9)
    (fun x hx => by rw [Array.isEmpty_iff.mp hnoh] at hx; simp at hx) hRf (by simpa [Value.category] using hRl) hlocks
  have kept := th_same hsame rfl
  refine ⟨U, st, .threw _, hrun, hend, hQ _ _ ⟨_, rfl, ⟨fun i q hq => (hP i q hq).kept (kept q.1 (hP i q hq).lt), va_K.moved hW.alike hK, hD⟩, ⟨hsame.2.1, fun q h1 _ => kept q h1⟩, ce, hce, hoc.vm, by rw [hkX]; exact hoc.cls⟩, [], ⟨hW, hsame⟩, fun q hq => nomatch hq⟩
end TH3

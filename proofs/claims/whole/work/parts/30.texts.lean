def max32 (x y : Int32) : Int32 := if x < y then y else x
theorem gs_first (ad : Nat → Nat) (A : Nat → Prop) (U : State) (H : Heap) (h : GS ad A U H) : GStr (ad 10) (ad 11) 56 tFIRST A U H := h.2.1.2.2.2.2.2.1
theorem gs_men (ad : Nat → Nat) (A : Nat → Prop) (U : State) (H : Heap) (h : GS ad A U H) : GStr (ad 12) (ad 13) 15 tMEN A U H := h.2.1.2.2.2.2.2.2.1
theorem gs_side (ad : Nat → Nat) (A : Nat → Prop) (U : State) (H : Heap) (h : GS ad A U H) : GStr (ad 14) (ad 15) 2 tSIDE A U H := h.2.1.2.2.2.2.2.2.2.1
theorem gs_rights (ad : Nat → Nat) (A : Nat → Prop) (U : State) (H : Heap) (h : GS ad A U H) : GStr (ad 16) (ad 17) 4 tRIGHTS A U H := h.2.1.2.2.2.2.2.2.2.2.1
section TextRows
variable {p : Program} {l : Launch} {e : Env} {R : Room} {s : State} {m : MethodId} {args : Array Value} {below : List Frame} {meth : Method} {c : Code} {H : Heap} {locs : List Loc} {cells slots : Nat} {Q : State → Prop}
variable {cc : ByteArray} {pc : Nat} {ls : Array Slot} {rest st0 : List Value} {A : Nat → Prop}
theorem gs_recv {k v n : Nat} {f : Nat → Int32} (hS : va_S A s.heap H locs) (h : GStr k v n f A s s.heap) : ∃ cell : Cell, H[k]? = some cell ∧ cell.vm.isStatics = false ∧ s.vm.findClass "java/lang/String" = some cell.cls := by
  obtain ⟨cell, h1, h2, h3, -⟩ := h.1.kept hS.2.1
  exact ⟨cell, h1, h2, h3⟩
theorem ro_gov {a : Array Value} (hr : va_Run p l e R s m args below meth c H locs cells slots 0 0 (F0 m pc ls st0) rest (va_Sv (fun _ => True) a) (fun _ => False))
    (kk : W p l e R s m args below meth c H locs cells slots Q (F0 m (pc + 3) ls rest)) : W p l e R s m args below meth c H locs cells slots Q (F0 m pc ls st0) :=
  va_csv (va_Run.run hr) (fun _ => kk)
theorem ro_retv (hx : p.tables.exec = Jvm.exec) (hb : c.code = cc) (hr : meth.sig.returnType = none) (hlocks : meth.locks = false) (hd : decode cc pc = .ok (.return_, 1)) : W p l e R s m args below meth c s.heap [] 0 0 (MQ below (va_Sv (fun _ => True)) args s 0 0 (fun _ => False)) (F0 m pc ls []) :=
  W.vret hx hb hr (fun t ht _ => ⟨rfl, trivial, ht⟩) (fun q hq => nomatch hq) hd hlocks
end TextRows

abbrev cJs_coder : ByteArray := prog_20_method_152_code
def yJs_coder : MethodName := ⟨"java/lang/String", "coder", "()B"⟩
def wsJs_coder : List Cond := Cond.code yJs_coder cJs_coder 1 (some .byte) :: BIG
theorem dJs_coder_0 : decode cJs_coder 0 = .ok (.getstatic 38, 3) := by decide +kernel
theorem dJs_coder_3 : decode cJs_coder 3 = .ok (.ifCond .eq 10, 3) := by decide +kernel
theorem dJs_coder_6 : decode cJs_coder 6 = .ok (.aload_n 0, 1) := by decide +kernel
theorem dJs_coder_7 : decode cJs_coder 7 = .ok (.getfield 15, 3) := by decide +kernel
theorem dJs_coder_10 : decode cJs_coder 10 = .ok (.goto 4, 3) := by decide +kernel
theorem dJs_coder_13 : decode cJs_coder 13 = .ok (.iconst 1, 1) := by decide +kernel
theorem dJs_coder_14 : decode cJs_coder 14 = .ok (.ireturn, 1) := by decide +kernel

def f_Js_coder (t_n : Nat) (t_f : Nat → Int32) : Int32 :=
  0
theorem f_Js_coder_eq (t_n : Nat) (t_f : Nat → Int32) : f_Js_coder t_n t_f =
  0 := rfl

set_option maxHeartbeats 4000000 in
set_option maxRecDepth 100000 in
theorem c_Js_coder (l : Launch) (dC : Nat → ClassId) (dI : Nat → Nat → Nat) (cI cJ cC : ClassId) (ad : Nat → Nat) (t t_v : Nat) (t_n : Nat) (t_f : Nat → Int32) (t_h : ∀ (A : Nat → Prop) (U : State) (H : Heap), GS ad A U H → GStr t t_v t_n t_f A U H) : Met l yJs_coder wsJs_coder { frames := 0, cells := 0, slots := 0, locals := 0 } (roP dC dI (TYS cI cJ cC) [.ref t] [] (GS ad)) (vp_Si (fun r => r = f_Js_coder t_n t_f)) 0 0 (fun _ => False) := by
  refine Met.ofW (cc := cJs_coder) (maxL := 1) (ret := (some .byte)) (by decide) rfl ?_
  intro p e s m args below meth c s₁ B hml hv
  obtain ⟨rfl, hP, hK, hG⟩ := hv
  have hx := B.exec
  have hb := B.bytes
  have hr := B.returns
  have hB : ∀ w9 ∈ BIG, w9.before ([.ref t]).toArray s = true := fun w9 h => atoms_spec (ws := wsJs_coder) B.pre w9 (List.mem_cons_of_mem _ h)
  have hown : s.vm.findClass "java/lang/String" = some m.cls := findClass_of_methodNamed B.named
  have hlocks := B.notSynchronized
  have hS : va_S (fun _ => False) s.heap s.heap [] := va_S.rf
  have hP : va_P (dC, dI) vwCl [] s.heap := hP
  have hl := lv_entry ([.ref t]) (n := 1) (Nat.le_of_ble_eq_true rfl)
  rw [lg_entry_eq]
  generalize (lg_sl ([.ref t]) ++ List.replicate (1 - (lg_sl ([.ref t])).length) Slot.unset).toArray = ls at hl ⊢
  have hl : lv_has ls 1 [(0, .ref t)] := hl
  refine va_gets (v := .int 1) hx hb hG.2.1.2.2.2.2.1 hS hown (hB _ q1_173) (fun _ h9 => h9) dJs_coder_0 ?_
  refine lv_if_eq (tgt := 13) hx hb dJs_coder_3 (by decide) (fun q => absurd q (by decide)) (fun _ => ?_)
  refine lv_aload_n hx hb dJs_coder_6 rfl (lv_at hl 0 rfl) ?_
  refine vk_getf (v := .int 0) hx hb (t_h _ _ _ hG).2.1 hS hown (hB _ q6_20) (fun _ h9 => h9) dJs_coder_7 ?_
  refine lv_goto (tgt := 14) hx hb dJs_coder_10 (by decide) ?_
  exact ro_retz hx hb hr rfl hlocks dJs_coder_14 (Eq.symm (by rw [f_Js_coder_eq] <;> rfl))

abbrev cJs_length : ByteArray := prog_20_method_54_code
def yJs_length : MethodName := ⟨"java/lang/String", "length", "()I"⟩
def wsJs_length : List Cond := Cond.code yJs_length cJs_length 1 (some .int) :: BIG
theorem dJs_length_0 : decode cJs_length 0 = .ok (.aload_n 0, 1) := by decide +kernel
theorem dJs_length_1 : decode cJs_length 1 = .ok (.getfield 9, 3) := by decide +kernel
theorem dJs_length_4 : decode cJs_length 4 = .ok (.arraylength, 1) := by decide +kernel
theorem dJs_length_5 : decode cJs_length 5 = .ok (.aload_n 0, 1) := by decide +kernel
theorem dJs_length_6 : decode cJs_length 6 = .ok (.invokevirtual 335, 3) := by decide +kernel
theorem dJs_length_9 : decode cJs_length 9 = .ok (.ishr, 1) := by decide +kernel
theorem dJs_length_10 : decode cJs_length 10 = .ok (.ireturn, 1) := by decide +kernel

def f_Js_length (t_n : Nat) (t_f : Nat → Int32) : Int32 :=
  (nI t_n) >>> ((0 : Int32) &&& 31)
theorem f_Js_length_eq (t_n : Nat) (t_f : Nat → Int32) : f_Js_length t_n t_f =
  (nI t_n) >>> ((0 : Int32) &&& 31) := rfl

set_option maxHeartbeats 4000000 in
set_option maxRecDepth 100000 in
theorem c_Js_length (l : Launch) (dC : Nat → ClassId) (dI : Nat → Nat → Nat) (cI cJ cC : ClassId) (ad : Nat → Nat) (t t_v : Nat) (t_n : Nat) (t_f : Nat → Int32) (t_h : ∀ (A : Nat → Prop) (U : State) (H : Heap), GS ad A U H → GStr t t_v t_n t_f A U H) : Met l yJs_length wsJs_length { frames := 1, cells := 0, slots := 0, locals := 20 } (roP dC dI (TYS cI cJ cC) [.ref t] [] (GS ad)) (vp_Si (fun r => r = f_Js_length t_n t_f)) 0 0 (fun _ => False) := by
  refine Met.ofW (cc := cJs_length) (maxL := 1) (ret := (some .int)) (by decide) rfl ?_
  intro p e s m args below meth c s₁ B hml hv
  obtain ⟨rfl, hP, hK, hG⟩ := hv
  have hx := B.exec
  have hb := B.bytes
  have hr := B.returns
  have hB : ∀ w9 ∈ BIG, w9.before ([.ref t]).toArray s = true := fun w9 h => atoms_spec (ws := wsJs_length) B.pre w9 (List.mem_cons_of_mem _ h)
  have hown : s.vm.findClass "java/lang/String" = some m.cls := findClass_of_methodNamed B.named
  have hlocks := B.notSynchronized
  have hS : va_S (fun _ => False) s.heap s.heap [] := va_S.rf
  have hP : va_P (dC, dI) vwCl [] s.heap := hP
  have hl := lv_entry ([.ref t]) (n := 1) (Nat.le_of_ble_eq_true rfl)
  rw [lg_entry_eq]
  generalize (lg_sl ([.ref t]) ++ List.replicate (1 - (lg_sl ([.ref t])).length) Slot.unset).toArray = ls at hl ⊢
  have hl : lv_has ls 1 [(0, .ref t)] := hl
  refine lv_aload_n hx hb dJs_length_0 rfl (lv_at hl 0 rfl) ?_
  refine vk_getf (v := .ref t_v) hx hb (t_h _ _ _ hG).2.2.1 hS hown (hB _ q6_19) (fun _ h9 => h9) dJs_length_1 ?_
  refine va_tlen (v := nI t_n) hx hb (t_h _ _ _ hG).2.2.2 hS rfl dJs_length_4 ?_
  refine lv_aload_n hx hb dJs_length_5 rfl (lv_at hl 0 rfl) ?_
  refine ro_goi (v := 0) (va_runV (C := "java/lang/String") (As := []) (rest := [.int (nI t_n)]) ⟨hx, hb, hml, hown, hB⟩ (c_Js_coder l dC dI cI cJ cC ad t t_v t_n t_f t_h) ⟨callB_of 0 hB (big_self q1_172) rfl rfl rfl (hB _ q1_7) (hB _ q1_169) (by decide +kernel) ⟨Nat.le_of_ble_eq_true rfl, Nat.le_of_ble_eq_true rfl⟩, (hB _ q1_170), (hB _ q1_171)⟩ (ro_preV (GS_ok ad) hK hP hG hS [] rfl (gs_recv hS (t_h _ _ _ hG))) rfl rfl hl.1 rfl (lv_room (Nat.le_of_ble_eq_true rfl)) dJs_length_6 ⟨Nat.le_of_ble_eq_true rfl, Nat.le_of_ble_eq_true rfl⟩) ?_
  refine lv_ishr hx hb dJs_length_9 ?_
  exact ro_reti hx hb hr hlocks dJs_length_10 (Eq.symm (by rw [f_Js_length_eq] <;> rfl))

abbrev cJs_isLatin1 : ByteArray := prog_20_method_154_code
def yJs_isLatin1 : MethodName := ⟨"java/lang/String", "isLatin1", "()Z"⟩
def wsJs_isLatin1 : List Cond := Cond.code yJs_isLatin1 cJs_isLatin1 1 (some .boolean) :: BIG
theorem dJs_isLatin1_0 : decode cJs_isLatin1 0 = .ok (.getstatic 38, 3) := by decide +kernel
theorem dJs_isLatin1_3 : decode cJs_isLatin1 3 = .ok (.ifCond .eq 14, 3) := by decide +kernel
theorem dJs_isLatin1_6 : decode cJs_isLatin1 6 = .ok (.aload_n 0, 1) := by decide +kernel
theorem dJs_isLatin1_7 : decode cJs_isLatin1 7 = .ok (.getfield 15, 3) := by decide +kernel
theorem dJs_isLatin1_10 : decode cJs_isLatin1 10 = .ok (.ifCond .ne 7, 3) := by decide +kernel
theorem dJs_isLatin1_13 : decode cJs_isLatin1 13 = .ok (.iconst 1, 1) := by decide +kernel
theorem dJs_isLatin1_14 : decode cJs_isLatin1 14 = .ok (.goto 4, 3) := by decide +kernel
theorem dJs_isLatin1_17 : decode cJs_isLatin1 17 = .ok (.iconst 0, 1) := by decide +kernel
theorem dJs_isLatin1_18 : decode cJs_isLatin1 18 = .ok (.ireturn, 1) := by decide +kernel

def f_Js_isLatin1 (t_n : Nat) (t_f : Nat → Int32) : Int32 :=
  1
theorem f_Js_isLatin1_eq (t_n : Nat) (t_f : Nat → Int32) : f_Js_isLatin1 t_n t_f =
  1 := rfl

set_option maxHeartbeats 4000000 in
set_option maxRecDepth 100000 in
theorem c_Js_isLatin1 (l : Launch) (dC : Nat → ClassId) (dI : Nat → Nat → Nat) (cI cJ cC : ClassId) (ad : Nat → Nat) (t t_v : Nat) (t_n : Nat) (t_f : Nat → Int32) (t_h : ∀ (A : Nat → Prop) (U : State) (H : Heap), GS ad A U H → GStr t t_v t_n t_f A U H) : Met l yJs_isLatin1 wsJs_isLatin1 { frames := 0, cells := 0, slots := 0, locals := 0 } (roP dC dI (TYS cI cJ cC) [.ref t] [] (GS ad)) (vp_Si (fun r => r = f_Js_isLatin1 t_n t_f)) 0 0 (fun _ => False) := by
  refine Met.ofW (cc := cJs_isLatin1) (maxL := 1) (ret := (some .boolean)) (by decide) rfl ?_
  intro p e s m args below meth c s₁ B hml hv
  obtain ⟨rfl, hP, hK, hG⟩ := hv
  have hx := B.exec
  have hb := B.bytes
  have hr := B.returns
  have hB : ∀ w9 ∈ BIG, w9.before ([.ref t]).toArray s = true := fun w9 h => atoms_spec (ws := wsJs_isLatin1) B.pre w9 (List.mem_cons_of_mem _ h)
  have hown : s.vm.findClass "java/lang/String" = some m.cls := findClass_of_methodNamed B.named
  have hlocks := B.notSynchronized
  have hS : va_S (fun _ => False) s.heap s.heap [] := va_S.rf
  have hP : va_P (dC, dI) vwCl [] s.heap := hP
  have hl := lv_entry ([.ref t]) (n := 1) (Nat.le_of_ble_eq_true rfl)
  rw [lg_entry_eq]
  generalize (lg_sl ([.ref t]) ++ List.replicate (1 - (lg_sl ([.ref t])).length) Slot.unset).toArray = ls at hl ⊢
  have hl : lv_has ls 1 [(0, .ref t)] := hl
  refine va_gets (v := .int 1) hx hb hG.2.1.2.2.2.2.1 hS hown (hB _ q1_173) (fun _ h9 => h9) dJs_isLatin1_0 ?_
  refine lv_if_eq (tgt := 17) hx hb dJs_isLatin1_3 (by decide) (fun q => absurd q (by decide)) (fun _ => ?_)
  refine lv_aload_n hx hb dJs_isLatin1_6 rfl (lv_at hl 0 rfl) ?_
  refine vk_getf (v := .int 0) hx hb (t_h _ _ _ hG).2.1 hS hown (hB _ q6_20) (fun _ h9 => h9) dJs_isLatin1_7 ?_
  refine lv_if_ne (tgt := 17) hx hb dJs_isLatin1_10 (by decide) (fun q => absurd q (by decide)) (fun _ => ?_)
  refine lv_iconst (v := 1) hx hb dJs_isLatin1_13 (by decide) ?_
  refine lv_goto (tgt := 18) hx hb dJs_isLatin1_14 (by decide) ?_
  exact ro_retz hx hb hr rfl hlocks dJs_isLatin1_18 (Eq.symm (by rw [f_Js_isLatin1_eq] <;> rfl))

abbrev cJp_checkIndex : ByteArray := prog_25_method_11_code
def yJp_checkIndex : MethodName := ⟨"jdk/internal/util/Preconditions", "checkIndex", "(IILjava/util/function/BiFunction;)I"⟩
def wsJp_checkIndex : List Cond := Cond.code yJp_checkIndex cJp_checkIndex 3 (some .int) :: BIG
theorem dJp_checkIndex_0 : decode cJp_checkIndex 0 = .ok (.iload_n 0, 1) := by decide +kernel
theorem dJp_checkIndex_1 : decode cJp_checkIndex 1 = .ok (.ifCond .lt 8, 3) := by decide +kernel
theorem dJp_checkIndex_4 : decode cJp_checkIndex 4 = .ok (.iload_n 0, 1) := by decide +kernel
theorem dJp_checkIndex_5 : decode cJp_checkIndex 5 = .ok (.iload_n 1, 1) := by decide +kernel
theorem dJp_checkIndex_6 : decode cJp_checkIndex 6 = .ok (.if_icmp .lt 10, 3) := by decide +kernel
theorem dJp_checkIndex_9 : decode cJp_checkIndex 9 = .ok (.aload_n 2, 1) := by decide +kernel
theorem dJp_checkIndex_10 : decode cJp_checkIndex 10 = .ok (.iload_n 0, 1) := by decide +kernel
theorem dJp_checkIndex_11 : decode cJp_checkIndex 11 = .ok (.iload_n 1, 1) := by decide +kernel
theorem dJp_checkIndex_12 : decode cJp_checkIndex 12 = .ok (.invokestatic 95, 3) := by decide +kernel
theorem dJp_checkIndex_15 : decode cJp_checkIndex 15 = .ok (.athrow, 1) := by decide +kernel
theorem dJp_checkIndex_16 : decode cJp_checkIndex 16 = .ok (.iload_n 0, 1) := by decide +kernel
theorem dJp_checkIndex_17 : decode cJp_checkIndex 17 = .ok (.ireturn, 1) := by decide +kernel

def f_Jp_checkIndex_N (index : Int32) (len : Int32) : Int32 :=
  (if index < 0 then 0 else (if index < len then index else 0))
theorem f_Jp_checkIndex_N_eq (index : Int32) (len : Int32) : f_Jp_checkIndex_N index len =
  (if index < 0 then 0 else (if index < len then index else 0)) := rfl

set_option maxHeartbeats 4000000 in
set_option maxRecDepth 100000 in
theorem c_Jp_checkIndex_N (l : Launch) (dC : Nat → ClassId) (dI : Nat → Nat → Nat) (cI cJ cC : ClassId) (ad : Nat → Nat) (index : Int32) (len : Int32) (hi : 0 ≤ index.toInt ∧ index.toInt < len.toInt) : Met l yJp_checkIndex wsJp_checkIndex { frames := 0, cells := 0, slots := 0, locals := 0 } (roP dC dI (TYS cI cJ cC) [.int index, .int len, .null] [] (GS ad)) (vp_Si (fun r => r = f_Jp_checkIndex_N index len)) 0 0 (fun _ => False) := by
  refine Met.ofW (cc := cJp_checkIndex) (maxL := 3) (ret := (some .int)) (by decide) rfl ?_
  intro p e s m args below meth c s₁ B hml hv
  obtain ⟨rfl, hP, hK, hG⟩ := hv
  have hx := B.exec
  have hb := B.bytes
  have hr := B.returns
  have hB : ∀ w9 ∈ BIG, w9.before ([.int index, .int len, .null]).toArray s = true := fun w9 h => atoms_spec (ws := wsJp_checkIndex) B.pre w9 (List.mem_cons_of_mem _ h)
  have hown : s.vm.findClass "jdk/internal/util/Preconditions" = some m.cls := findClass_of_methodNamed B.named
  have hlocks := B.notSynchronized
  have hS : va_S (fun _ => False) s.heap s.heap [] := va_S.rf
  have hP : va_P (dC, dI) vwCl [] s.heap := hP
  have hl := lv_entry ([.int index, .int len, .null]) (n := 3) (Nat.le_of_ble_eq_true rfl)
  rw [lg_entry_eq]
  generalize (lg_sl ([.int index, .int len, .null]) ++ List.replicate (3 - (lg_sl ([.int index, .int len, .null])).length) Slot.unset).toArray = ls at hl ⊢
  have hl : lv_has ls 3 [(0, .int index), (1, .int len), (2, .null)] := hl
  refine lv_iload_n hx hb dJp_checkIndex_0 rfl (lv_at hl 0 rfl) ?_
  refine lv_if_lt (tgt := 9) hx hb dJp_checkIndex_1 (by decide) (fun c_1 => ?_) (fun c_1 => ?_)
  · exfalso
    have z0 := tl c_1; have y0 : (0 : Int32).toInt = 0 := rfl; omega
  · refine lv_iload_n hx hb dJp_checkIndex_4 rfl (lv_at hl 0 rfl) ?_
    refine lv_iload_n hx hb dJp_checkIndex_5 rfl (lv_at hl 1 rfl) ?_
    refine lv_icmp_lt (tgt := 16) hx hb dJp_checkIndex_6 (by decide) (fun c_2 => ?_) (fun c_2 => ?_)
    · refine lv_iload_n hx hb dJp_checkIndex_16 rfl (lv_at hl 0 rfl) ?_
      exact ro_reti hx hb hr hlocks dJp_checkIndex_17 (Eq.symm (by rw [f_Jp_checkIndex_N_eq, if_neg c_1, if_pos c_2] <;> rfl))
    · exfalso
      have z0 := tnl c_1; have z1 := tnl c_2; have y0 : (0 : Int32).toInt = 0 := rfl; omega

def f_Jp_checkIndex_R (index : Int32) (len : Int32) : Int32 :=
  (if index < 0 then 0 else (if index < len then index else 0))
theorem f_Jp_checkIndex_R_eq (index : Int32) (len : Int32) : f_Jp_checkIndex_R index len =
  (if index < 0 then 0 else (if index < len then index else 0)) := rfl

set_option maxHeartbeats 4000000 in
set_option maxRecDepth 100000 in
theorem c_Jp_checkIndex_R (l : Launch) (dC : Nat → ClassId) (dI : Nat → Nat → Nat) (cI cJ cC : ClassId) (ad : Nat → Nat) (z : Nat) (index : Int32) (len : Int32) (hi : 0 ≤ index.toInt ∧ index.toInt < len.toInt) : Met l yJp_checkIndex wsJp_checkIndex { frames := 0, cells := 0, slots := 0, locals := 0 } (roP dC dI (TYS cI cJ cC) [.int index, .int len, .ref z] [] (GS ad)) (vp_Si (fun r => r = f_Jp_checkIndex_R index len)) 0 0 (fun _ => False) := by
  refine Met.ofW (cc := cJp_checkIndex) (maxL := 3) (ret := (some .int)) (by decide) rfl ?_
  intro p e s m args below meth c s₁ B hml hv
  obtain ⟨rfl, hP, hK, hG⟩ := hv
  have hx := B.exec
  have hb := B.bytes
  have hr := B.returns
  have hB : ∀ w9 ∈ BIG, w9.before ([.int index, .int len, .ref z]).toArray s = true := fun w9 h => atoms_spec (ws := wsJp_checkIndex) B.pre w9 (List.mem_cons_of_mem _ h)
  have hown : s.vm.findClass "jdk/internal/util/Preconditions" = some m.cls := findClass_of_methodNamed B.named
  have hlocks := B.notSynchronized
  have hS : va_S (fun _ => False) s.heap s.heap [] := va_S.rf
  have hP : va_P (dC, dI) vwCl [] s.heap := hP
  have hl := lv_entry ([.int index, .int len, .ref z]) (n := 3) (Nat.le_of_ble_eq_true rfl)
  rw [lg_entry_eq]
  generalize (lg_sl ([.int index, .int len, .ref z]) ++ List.replicate (3 - (lg_sl ([.int index, .int len, .ref z])).length) Slot.unset).toArray = ls at hl ⊢
  have hl : lv_has ls 3 [(0, .int index), (1, .int len), (2, .ref z)] := hl
  refine lv_iload_n hx hb dJp_checkIndex_0 rfl (lv_at hl 0 rfl) ?_
  refine lv_if_lt (tgt := 9) hx hb dJp_checkIndex_1 (by decide) (fun c_1 => ?_) (fun c_1 => ?_)
  · exfalso
    have z0 := tl c_1; have y0 : (0 : Int32).toInt = 0 := rfl; omega
  · refine lv_iload_n hx hb dJp_checkIndex_4 rfl (lv_at hl 0 rfl) ?_
    refine lv_iload_n hx hb dJp_checkIndex_5 rfl (lv_at hl 1 rfl) ?_
    refine lv_icmp_lt (tgt := 16) hx hb dJp_checkIndex_6 (by decide) (fun c_2 => ?_) (fun c_2 => ?_)
    · refine lv_iload_n hx hb dJp_checkIndex_16 rfl (lv_at hl 0 rfl) ?_
      exact ro_reti hx hb hr hlocks dJp_checkIndex_17 (Eq.symm (by rw [f_Jp_checkIndex_R_eq, if_neg c_1, if_pos c_2] <;> rfl))
    · exfalso
      have z0 := tnl c_1; have z1 := tnl c_2; have y0 : (0 : Int32).toInt = 0 := rfl; omega

abbrev cJs_checkIndex : ByteArray := prog_20_method_155_code
def yJs_checkIndex : MethodName := ⟨"java/lang/String", "checkIndex", "(II)V"⟩
def wsJs_checkIndex : List Cond := Cond.code yJs_checkIndex cJs_checkIndex 2 none :: BIG
theorem dJs_checkIndex_0 : decode cJs_checkIndex 0 = .ok (.iload_n 0, 1) := by decide +kernel
theorem dJs_checkIndex_1 : decode cJs_checkIndex 1 = .ok (.iload_n 1, 1) := by decide +kernel
theorem dJs_checkIndex_2 : decode cJs_checkIndex 2 = .ok (.getstatic 1053, 3) := by decide +kernel
theorem dJs_checkIndex_5 : decode cJs_checkIndex 5 = .ok (.invokestatic 1059, 3) := by decide +kernel
theorem dJs_checkIndex_8 : decode cJs_checkIndex 8 = .ok (.pop, 1) := by decide +kernel
theorem dJs_checkIndex_9 : decode cJs_checkIndex 9 = .ok (.return_, 1) := by decide +kernel

def f_Js_checkIndex (index : Int32) (len : Int32) : Unit :=
  ()
theorem f_Js_checkIndex_eq (index : Int32) (len : Int32) : f_Js_checkIndex index len =
  () := rfl

set_option maxHeartbeats 4000000 in
set_option maxRecDepth 100000 in
theorem c_Js_checkIndex (l : Launch) (dC : Nat → ClassId) (dI : Nat → Nat → Nat) (cI cJ cC : ClassId) (ad : Nat → Nat) (index : Int32) (len : Int32) (hi : 0 ≤ index.toInt ∧ index.toInt < len.toInt) : Met l yJs_checkIndex wsJs_checkIndex { frames := 1, cells := 0, slots := 0, locals := 22 } (roP dC dI (TYS cI cJ cC) [.int index, .int len] [] (GS ad)) (va_Sv (fun _ => True)) 0 0 (fun _ => False) := by
  refine Met.ofW (cc := cJs_checkIndex) (maxL := 2) (ret := none) (by decide) rfl ?_
  intro p e s m args below meth c s₁ B hml hv
  obtain ⟨rfl, hP, hK, hG⟩ := hv
  have hx := B.exec
  have hb := B.bytes
  have hr := B.returns
  have hB : ∀ w9 ∈ BIG, w9.before ([.int index, .int len]).toArray s = true := fun w9 h => atoms_spec (ws := wsJs_checkIndex) B.pre w9 (List.mem_cons_of_mem _ h)
  have hown : s.vm.findClass "java/lang/String" = some m.cls := findClass_of_methodNamed B.named
  have hlocks := B.notSynchronized
  have hS : va_S (fun _ => False) s.heap s.heap [] := va_S.rf
  have hP : va_P (dC, dI) vwCl [] s.heap := hP
  have hl := lv_entry ([.int index, .int len]) (n := 2) (Nat.le_of_ble_eq_true rfl)
  rw [lg_entry_eq]
  generalize (lg_sl ([.int index, .int len]) ++ List.replicate (2 - (lg_sl ([.int index, .int len])).length) Slot.unset).toArray = ls at hl ⊢
  have hl : lv_has ls 2 [(0, .int index), (1, .int len)] := hl
  refine lv_iload_n hx hb dJs_checkIndex_0 rfl (lv_at hl 0 rfl) ?_
  refine lv_iload_n hx hb dJs_checkIndex_1 rfl (lv_at hl 1 rfl) ?_
  rcases hG.2.1.2.2.2.2.2.2.2.2.2.1 with hz9 | ⟨z9, hz9⟩
  · refine va_gets (v := .null) hx hb hz9 hS hown (hB _ q1_189) (fun _ h9 => h9) dJs_checkIndex_2 ?_
    refine ro_goi (va_runS (As := [.int index, .int len, .null]) (rest := []) ⟨hx, hb, hml, hown, hB⟩ (c_Jp_checkIndex_N l dC dI cI cJ cC ad index len hi) ⟨callB_of 3 hB (big_self q1_193) rfl rfl rfl (hB _ q1_9) (hB _ q1_191) (by decide +kernel) ⟨Nat.le_of_ble_eq_true rfl, Nat.le_of_ble_eq_true rfl⟩, (hB _ q1_192)⟩ (ro_preS (GS_ok ad) hK hP hG hS [] rfl) rfl rfl hl.1 rfl (lv_room (Nat.le_of_ble_eq_true rfl)) dJs_checkIndex_5 ⟨Nat.le_of_ble_eq_true rfl, Nat.le_of_ble_eq_true rfl⟩) ?_
    refine lv_pop hx hb dJs_checkIndex_8 rfl ?_
    exact ro_retv hx hb hr hlocks dJs_checkIndex_9
  · refine va_gets (v := .ref z9) hx hb hz9 hS hown (hB _ q1_189) (fun _ h9 => h9) dJs_checkIndex_2 ?_
    refine ro_goi (va_runS (As := [.int index, .int len, .ref z9]) (rest := []) ⟨hx, hb, hml, hown, hB⟩ (c_Jp_checkIndex_R l dC dI cI cJ cC ad z9 index len hi) ⟨callB_of 3 hB (big_self q1_193) rfl rfl rfl (hB _ q1_9) (hB _ q1_191) (by decide +kernel) ⟨Nat.le_of_ble_eq_true rfl, Nat.le_of_ble_eq_true rfl⟩, (hB _ q1_192)⟩ (ro_preS (GS_ok ad) hK hP hG hS [] rfl) rfl rfl hl.1 rfl (lv_room (Nat.le_of_ble_eq_true rfl)) dJs_checkIndex_5 ⟨Nat.le_of_ble_eq_true rfl, Nat.le_of_ble_eq_true rfl⟩) ?_
    refine lv_pop hx hb dJs_checkIndex_8 rfl ?_
    exact ro_retv hx hb hr hlocks dJs_checkIndex_9

abbrev cJl_charAt : ByteArray := prog_21_method_2_code
def yJl_charAt : MethodName := ⟨"java/lang/StringLatin1", "charAt", "([BI)C"⟩
def wsJl_charAt : List Cond := Cond.code yJl_charAt cJl_charAt 2 (some .char) :: BIG
theorem dJl_charAt_0 : decode cJl_charAt 0 = .ok (.iload_n 1, 1) := by decide +kernel
theorem dJl_charAt_1 : decode cJl_charAt 1 = .ok (.aload_n 0, 1) := by decide +kernel
theorem dJl_charAt_2 : decode cJl_charAt 2 = .ok (.arraylength, 1) := by decide +kernel
theorem dJl_charAt_3 : decode cJl_charAt 3 = .ok (.invokestatic 9, 3) := by decide +kernel
theorem dJl_charAt_6 : decode cJl_charAt 6 = .ok (.aload_n 0, 1) := by decide +kernel
theorem dJl_charAt_7 : decode cJl_charAt 7 = .ok (.iload_n 1, 1) := by decide +kernel
theorem dJl_charAt_8 : decode cJl_charAt 8 = .ok (.baload, 1) := by decide +kernel
theorem dJl_charAt_9 : decode cJl_charAt 9 = .ok (.sipush 255, 3) := by decide +kernel
theorem dJl_charAt_12 : decode cJl_charAt 12 = .ok (.iand, 1) := by decide +kernel
theorem dJl_charAt_13 : decode cJl_charAt 13 = .ok (.i2c, 1) := by decide +kernel
theorem dJl_charAt_14 : decode cJl_charAt 14 = .ok (.ireturn, 1) := by decide +kernel

def f_Jl_charAt (a_n : Nat) (a_f : Nat → Int32) (index : Int32) : Int32 :=
  toChar ((a_f index.toNatClampNeg) &&& 255)
theorem f_Jl_charAt_eq (a_n : Nat) (a_f : Nat → Int32) (index : Int32) : f_Jl_charAt a_n a_f index =
  toChar ((a_f index.toNatClampNeg) &&& 255) := rfl

set_option maxHeartbeats 4000000 in
set_option maxRecDepth 100000 in
theorem c_Jl_charAt (l : Launch) (dC : Nat → ClassId) (dI : Nat → Nat → Nat) (cI cJ cC : ClassId) (ad : Nat → Nat) (a : Nat) (a_n : Nat) (a_f : Nat → Int32) (index : Int32) (a_h : ∀ (A : Nat → Prop) (U : State) (H : Heap), GS ad A U H → va_T .byte a a_n (fun j => .int (a_f j)) A U H) (hi : 0 ≤ index.toInt ∧ index.toInt < a_n) (hn : a_n < 2147483648) : Met l yJl_charAt wsJl_charAt { frames := 2, cells := 0, slots := 0, locals := 43 } (roP dC dI (TYS cI cJ cC) [.ref a, .int index] [] (GS ad)) (vp_Si (fun r => r = f_Jl_charAt a_n a_f index)) 0 0 (fun _ => False) := by
  refine Met.ofW (cc := cJl_charAt) (maxL := 2) (ret := (some .char)) (by decide) rfl ?_
  intro p e s m args below meth c s₁ B hml hv
  obtain ⟨rfl, hP, hK, hG⟩ := hv
  have hx := B.exec
  have hb := B.bytes
  have hr := B.returns
  have hB : ∀ w9 ∈ BIG, w9.before ([.ref a, .int index]).toArray s = true := fun w9 h => atoms_spec (ws := wsJl_charAt) B.pre w9 (List.mem_cons_of_mem _ h)
  have hown : s.vm.findClass "java/lang/StringLatin1" = some m.cls := findClass_of_methodNamed B.named
  have hlocks := B.notSynchronized
  have hS : va_S (fun _ => False) s.heap s.heap [] := va_S.rf
  have hP : va_P (dC, dI) vwCl [] s.heap := hP
  have hl := lv_entry ([.ref a, .int index]) (n := 2) (Nat.le_of_ble_eq_true rfl)
  rw [lg_entry_eq]
  generalize (lg_sl ([.ref a, .int index]) ++ List.replicate (2 - (lg_sl ([.ref a, .int index])).length) Slot.unset).toArray = ls at hl ⊢
  have hl : lv_has ls 2 [(0, .ref a), (1, .int index)] := hl
  refine lv_iload_n hx hb dJl_charAt_0 rfl (lv_at hl 1 rfl) ?_
  refine lv_aload_n hx hb dJl_charAt_1 rfl (lv_at hl 0 rfl) ?_
  refine va_tlen (v := nI a_n) hx hb (a_h _ _ _ hG) hS rfl dJl_charAt_2 ?_
  refine ro_gov (va_runS (As := [.int index, .int (nI a_n)]) (rest := []) ⟨hx, hb, hml, hown, hB⟩ (c_Js_checkIndex l dC dI cI cJ cC ad index (nI a_n) (by rw [nI_toInt (by omega)]; exact hi)) ⟨callB_of 2 hB (big_self q1_188) rfl rfl rfl (hB _ q1_7) (hB _ q1_186) (by decide +kernel) ⟨Nat.le_of_ble_eq_true rfl, Nat.le_of_ble_eq_true rfl⟩, (hB _ q1_187)⟩ (ro_preS (GS_ok ad) hK hP hG hS [] rfl) rfl rfl hl.1 rfl (lv_room (Nat.le_of_ble_eq_true rfl)) dJl_charAt_3 ⟨Nat.le_of_ble_eq_true rfl, Nat.le_of_ble_eq_true rfl⟩) ?_
  refine lv_aload_n hx hb dJl_charAt_6 rfl (lv_at hl 0 rfl) ?_
  refine lv_iload_n hx hb dJl_charAt_7 rfl (lv_at hl 1 rfl) ?_
  refine va_tb (v := .int (a_f index.toNatClampNeg)) hx hb (a_h _ _ _ hG) hS (vp_in_iff.mpr hi) rfl dJl_charAt_8 ?_
  refine lv_sipush (v := 255) hx hb dJl_charAt_9 (by decide) ?_
  refine lv_iand hx hb dJl_charAt_12 ?_
  refine lv_i2c (v := toChar ((a_f index.toNatClampNeg) &&& 255)) hx hb dJl_charAt_13 rfl ?_
  exact ro_retz hx hb hr (pk_nc _) hlocks dJl_charAt_14 (Eq.symm (by rw [f_Jl_charAt_eq] <;> rfl))

abbrev cJs_charAt : ByteArray := prog_20_method_56_code
def yJs_charAt : MethodName := ⟨"java/lang/String", "charAt", "(I)C"⟩
def wsJs_charAt : List Cond := Cond.code yJs_charAt cJs_charAt 2 (some .char) :: BIG
theorem dJs_charAt_0 : decode cJs_charAt 0 = .ok (.aload_n 0, 1) := by decide +kernel
theorem dJs_charAt_1 : decode cJs_charAt 1 = .ok (.invokevirtual 492, 3) := by decide +kernel
theorem dJs_charAt_4 : decode cJs_charAt 4 = .ok (.ifCond .eq 12, 3) := by decide +kernel
theorem dJs_charAt_7 : decode cJs_charAt 7 = .ok (.aload_n 0, 1) := by decide +kernel
theorem dJs_charAt_8 : decode cJs_charAt 8 = .ok (.getfield 9, 3) := by decide +kernel
theorem dJs_charAt_11 : decode cJs_charAt 11 = .ok (.iload_n 1, 1) := by decide +kernel
theorem dJs_charAt_12 : decode cJs_charAt 12 = .ok (.invokestatic 495, 3) := by decide +kernel
theorem dJs_charAt_15 : decode cJs_charAt 15 = .ok (.ireturn, 1) := by decide +kernel
theorem dJs_charAt_16 : decode cJs_charAt 16 = .ok (.aload_n 0, 1) := by decide +kernel
theorem dJs_charAt_17 : decode cJs_charAt 17 = .ok (.getfield 9, 3) := by decide +kernel
theorem dJs_charAt_20 : decode cJs_charAt 20 = .ok (.iload_n 1, 1) := by decide +kernel
theorem dJs_charAt_21 : decode cJs_charAt 21 = .ok (.invokestatic 498, 3) := by decide +kernel
theorem dJs_charAt_24 : decode cJs_charAt 24 = .ok (.ireturn, 1) := by decide +kernel

def f_Js_charAt (t_n : Nat) (t_f : Nat → Int32) (index : Int32) : Int32 :=
  f_Jl_charAt t_n t_f index
theorem f_Js_charAt_eq (t_n : Nat) (t_f : Nat → Int32) (index : Int32) : f_Js_charAt t_n t_f index =
  f_Jl_charAt t_n t_f index := rfl

set_option maxHeartbeats 4000000 in
set_option maxRecDepth 100000 in
theorem c_Js_charAt (l : Launch) (dC : Nat → ClassId) (dI : Nat → Nat → Nat) (cI cJ cC : ClassId) (ad : Nat → Nat) (t t_v : Nat) (t_n : Nat) (t_f : Nat → Int32) (index : Int32) (t_h : ∀ (A : Nat → Prop) (U : State) (H : Heap), GS ad A U H → GStr t t_v t_n t_f A U H) (hi : 0 ≤ index.toInt ∧ index.toInt < t_n) (hn : t_n < 2147483648) : Met l yJs_charAt wsJs_charAt { frames := 3, cells := 0, slots := 0, locals := 64 } (roP dC dI (TYS cI cJ cC) [.ref t, .int index] [] (GS ad)) (vp_Si (fun r => r = f_Js_charAt t_n t_f index)) 0 0 (fun _ => False) := by
  refine Met.ofW (cc := cJs_charAt) (maxL := 2) (ret := (some .char)) (by decide) rfl ?_
  intro p e s m args below meth c s₁ B hml hv
  obtain ⟨rfl, hP, hK, hG⟩ := hv
  have hx := B.exec
  have hb := B.bytes
  have hr := B.returns
  have hB : ∀ w9 ∈ BIG, w9.before ([.ref t, .int index]).toArray s = true := fun w9 h => atoms_spec (ws := wsJs_charAt) B.pre w9 (List.mem_cons_of_mem _ h)
  have hown : s.vm.findClass "java/lang/String" = some m.cls := findClass_of_methodNamed B.named
  have hlocks := B.notSynchronized
  have hS : va_S (fun _ => False) s.heap s.heap [] := va_S.rf
  have hP : va_P (dC, dI) vwCl [] s.heap := hP
  have hl := lv_entry ([.ref t, .int index]) (n := 2) (Nat.le_of_ble_eq_true rfl)
  rw [lg_entry_eq]
  generalize (lg_sl ([.ref t, .int index]) ++ List.replicate (2 - (lg_sl ([.ref t, .int index])).length) Slot.unset).toArray = ls at hl ⊢
  have hl : lv_has ls 2 [(0, .ref t), (1, .int index)] := hl
  refine lv_aload_n hx hb dJs_charAt_0 rfl (lv_at hl 0 rfl) ?_
  refine ro_goi (v := 1) (va_runV (C := "java/lang/String") (As := []) (rest := []) ⟨hx, hb, hml, hown, hB⟩ (c_Js_isLatin1 l dC dI cI cJ cC ad t t_v t_n t_f t_h) ⟨callB_of 0 hB (big_self q1_182) rfl rfl rfl (hB _ q1_7) (hB _ q1_179) (by decide +kernel) ⟨Nat.le_of_ble_eq_true rfl, Nat.le_of_ble_eq_true rfl⟩, (hB _ q1_180), (hB _ q1_181)⟩ (ro_preV (GS_ok ad) hK hP hG hS [] rfl (gs_recv hS (t_h _ _ _ hG))) rfl rfl hl.1 rfl (lv_room (Nat.le_of_ble_eq_true rfl)) dJs_charAt_1 ⟨Nat.le_of_ble_eq_true rfl, Nat.le_of_ble_eq_true rfl⟩) ?_
  refine lv_if_eq (tgt := 16) hx hb dJs_charAt_4 (by decide) (fun q => absurd q (by decide)) (fun _ => ?_)
  refine lv_aload_n hx hb dJs_charAt_7 rfl (lv_at hl 0 rfl) ?_
  refine vk_getf (v := .ref t_v) hx hb (t_h _ _ _ hG).2.2.1 hS hown (hB _ q6_19) (fun _ h9 => h9) dJs_charAt_8 ?_
  refine lv_iload_n hx hb dJs_charAt_11 rfl (lv_at hl 1 rfl) ?_
  refine ro_goi (va_runS (As := [.ref t_v, .int index]) (rest := []) ⟨hx, hb, hml, hown, hB⟩ (c_Jl_charAt l dC dI cI cJ cC ad t_v t_n t_f index (fun A U H q => (t_h A U H q).2.2.2) hi hn) ⟨callB_of 2 hB (big_self q1_185) rfl rfl rfl (hB _ q1_8) (hB _ q1_183) (by decide +kernel) ⟨Nat.le_of_ble_eq_true rfl, Nat.le_of_ble_eq_true rfl⟩, (hB _ q1_184)⟩ (ro_preS (GS_ok ad) hK hP hG hS [] rfl) rfl rfl hl.1 rfl (lv_room (Nat.le_of_ble_eq_true rfl)) dJs_charAt_12 ⟨Nat.le_of_ble_eq_true rfl, Nat.le_of_ble_eq_true rfl⟩) ?_
  exact ro_retz hx hb hr (by unfold f_Jl_charAt; exact pk_nc _) hlocks dJs_charAt_15 (Eq.symm (by rw [f_Js_charAt_eq] <;> rfl))

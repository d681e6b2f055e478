abbrev cCh_isSquare : ByteArray := prog_1_method_20_code
def yCh_isSquare : MethodName := ⟨"ChessRules", "isSquare", "(I)Z"⟩
def wsCh_isSquare : List Cond := Cond.code yCh_isSquare cCh_isSquare 1 (some .boolean) :: BIG
theorem dCh_isSquare_0 : decode cCh_isSquare 0 = .ok (.iload_n 0, 1) := by decide +kernel
theorem dCh_isSquare_1 : decode cCh_isSquare 1 = .ok (.ifCond .lt 13, 3) := by decide +kernel
theorem dCh_isSquare_4 : decode cCh_isSquare 4 = .ok (.iload_n 0, 1) := by decide +kernel
theorem dCh_isSquare_5 : decode cCh_isSquare 5 = .ok (.bipush 64, 2) := by decide +kernel
theorem dCh_isSquare_7 : decode cCh_isSquare 7 = .ok (.if_icmp .ge 7, 3) := by decide +kernel
theorem dCh_isSquare_10 : decode cCh_isSquare 10 = .ok (.iconst 1, 1) := by decide +kernel
theorem dCh_isSquare_11 : decode cCh_isSquare 11 = .ok (.goto 4, 3) := by decide +kernel
theorem dCh_isSquare_14 : decode cCh_isSquare 14 = .ok (.iconst 0, 1) := by decide +kernel
theorem dCh_isSquare_15 : decode cCh_isSquare 15 = .ok (.ireturn, 1) := by decide +kernel

def f_Ch_isSquare (square : Int32) : Int32 :=
  (if square < 0 then 0 else (if 64 ≤ square then 0 else 1))
theorem f_Ch_isSquare_eq (square : Int32) : f_Ch_isSquare square =
  (if square < 0 then 0 else (if 64 ≤ square then 0 else 1)) := rfl

set_option maxHeartbeats 4000000 in
set_option maxRecDepth 100000 in
theorem c_Ch_isSquare (l : Launch) (dC : Nat → ClassId) (dI : Nat → Nat → Nat) (cI cJ cC : ClassId) (ad : Nat → Nat) (square : Int32) : Met l yCh_isSquare wsCh_isSquare { frames := 0, cells := 0, slots := 0, locals := 0 } (roP dC dI (TYS cI cJ cC) [.int square] [] (GS ad)) (vp_Si (fun r => r = f_Ch_isSquare square)) 0 0 (fun _ => False) := by
  refine Met.ofW (cc := cCh_isSquare) (maxL := 1) (ret := (some .boolean)) (by decide) rfl ?_
  intro p e s m args below meth c s₁ B hml hv
  obtain ⟨rfl, hP, hK, hG⟩ := hv
  have hx := B.exec
  have hb := B.bytes
  have hr := B.returns
  have hB : ∀ w9 ∈ BIG, w9.before ([.int square]).toArray s = true := fun w9 h => atoms_spec (ws := wsCh_isSquare) B.pre w9 (List.mem_cons_of_mem _ h)
  have hown : s.vm.findClass "ChessRules" = some m.cls := findClass_of_methodNamed B.named
  have hlocks := B.notSynchronized
  have hS : va_S (fun _ => False) s.heap s.heap [] := va_S.rf
  have hP : va_P (dC, dI) vwCl [] s.heap := hP
  have hl := lv_entry ([.int square]) (n := 1) (Nat.le_of_ble_eq_true rfl)
  rw [lg_entry_eq]
  generalize (lg_sl ([.int square]) ++ List.replicate (1 - (lg_sl ([.int square])).length) Slot.unset).toArray = ls at hl ⊢
  have hl : lv_has ls 1 [(0, .int square)] := hl
  refine lv_iload_n hx hb dCh_isSquare_0 rfl (lv_at hl 0 rfl) ?_
  refine lv_if_lt (tgt := 14) hx hb dCh_isSquare_1 (by decide) (fun c_1 => ?_) (fun c_1 => ?_)
  · refine lv_iconst (v := 0) hx hb dCh_isSquare_14 (by decide) ?_
    exact ro_retz hx hb hr rfl hlocks dCh_isSquare_15 (Eq.symm (by rw [f_Ch_isSquare_eq, if_pos c_1] <;> rfl))
  · refine lv_iload_n hx hb dCh_isSquare_4 rfl (lv_at hl 0 rfl) ?_
    refine lv_bipush (v := 64) hx hb dCh_isSquare_5 (by decide) ?_
    refine lv_icmp_ge (tgt := 14) hx hb dCh_isSquare_7 (by decide) (fun c_2 => ?_) (fun c_2 => ?_)
    · refine lv_iconst (v := 0) hx hb dCh_isSquare_14 (by decide) ?_
      exact ro_retz hx hb hr rfl hlocks dCh_isSquare_15 (Eq.symm (by rw [f_Ch_isSquare_eq, if_neg c_1, if_pos c_2] <;> rfl))
    · refine lv_iconst (v := 1) hx hb dCh_isSquare_10 (by decide) ?_
      refine lv_goto (tgt := 15) hx hb dCh_isSquare_11 (by decide) ?_
      exact ro_retz hx hb hr rfl hlocks dCh_isSquare_15 (Eq.symm (by rw [f_Ch_isSquare_eq, if_neg c_1, if_neg c_2] <;> rfl))

abbrev cCh_stepOf : ByteArray := prog_1_method_21_code
def yCh_stepOf : MethodName := ⟨"ChessRules", "stepOf", "(I)I"⟩
def wsCh_stepOf : List Cond := Cond.code yCh_stepOf cCh_stepOf 1 (some .int) :: BIG
theorem dCh_stepOf_0 : decode cCh_stepOf 0 = .ok (.iload_n 0, 1) := by decide +kernel
theorem dCh_stepOf_1 : decode cCh_stepOf 1 = .ok (.ifCond .ne 8, 3) := by decide +kernel
theorem dCh_stepOf_4 : decode cCh_stepOf 4 = .ok (.bipush 8, 2) := by decide +kernel
theorem dCh_stepOf_6 : decode cCh_stepOf 6 = .ok (.goto 5, 3) := by decide +kernel
theorem dCh_stepOf_9 : decode cCh_stepOf 9 = .ok (.bipush (-8), 2) := by decide +kernel
theorem dCh_stepOf_11 : decode cCh_stepOf 11 = .ok (.ireturn, 1) := by decide +kernel

def f_Ch_stepOf (side : Int32) : Int32 :=
  (if side = 0 then 8 else (-8))
theorem f_Ch_stepOf_eq (side : Int32) : f_Ch_stepOf side =
  (if side = 0 then 8 else (-8)) := rfl

set_option maxHeartbeats 4000000 in
set_option maxRecDepth 100000 in
theorem c_Ch_stepOf (l : Launch) (dC : Nat → ClassId) (dI : Nat → Nat → Nat) (cI cJ cC : ClassId) (ad : Nat → Nat) (side : Int32) : Met l yCh_stepOf wsCh_stepOf { frames := 0, cells := 0, slots := 0, locals := 0 } (roP dC dI (TYS cI cJ cC) [.int side] [] (GS ad)) (vp_Si (fun r => r = f_Ch_stepOf side)) 0 0 (fun _ => False) := by
  refine Met.ofW (cc := cCh_stepOf) (maxL := 1) (ret := (some .int)) (by decide) rfl ?_
  intro p e s m args below meth c s₁ B hml hv
  obtain ⟨rfl, hP, hK, hG⟩ := hv
  have hx := B.exec
  have hb := B.bytes
  have hr := B.returns
  have hB : ∀ w9 ∈ BIG, w9.before ([.int side]).toArray s = true := fun w9 h => atoms_spec (ws := wsCh_stepOf) B.pre w9 (List.mem_cons_of_mem _ h)
  have hown : s.vm.findClass "ChessRules" = some m.cls := findClass_of_methodNamed B.named
  have hlocks := B.notSynchronized
  have hS : va_S (fun _ => False) s.heap s.heap [] := va_S.rf
  have hP : va_P (dC, dI) vwCl [] s.heap := hP
  have hl := lv_entry ([.int side]) (n := 1) (Nat.le_of_ble_eq_true rfl)
  rw [lg_entry_eq]
  generalize (lg_sl ([.int side]) ++ List.replicate (1 - (lg_sl ([.int side])).length) Slot.unset).toArray = ls at hl ⊢
  have hl : lv_has ls 1 [(0, .int side)] := hl
  refine lv_iload_n hx hb dCh_stepOf_0 rfl (lv_at hl 0 rfl) ?_
  refine lv_if_ne (tgt := 9) hx hb dCh_stepOf_1 (by decide) (fun c_1 => ?_) (fun c_1 => ?_)
  · refine lv_bipush (v := (-8)) hx hb dCh_stepOf_9 (by decide) ?_
    exact ro_reti hx hb hr hlocks dCh_stepOf_11 (Eq.symm (by rw [f_Ch_stepOf_eq, if_neg c_1] <;> rfl))
  · refine lv_bipush (v := 8) hx hb dCh_stepOf_4 (by decide) ?_
    refine lv_goto (tgt := 11) hx hb dCh_stepOf_6 (by decide) ?_
    exact ro_reti hx hb hr hlocks dCh_stepOf_11 (Eq.symm (by rw [f_Ch_stepOf_eq, if_pos c_1] <;> rfl))

abbrev cCh_byteOf : ByteArray := prog_1_method_19_code
def yCh_byteOf : MethodName := ⟨"ChessRules", "byteOf", "(JI)I"⟩
def wsCh_byteOf : List Cond := Cond.code yCh_byteOf cCh_byteOf 3 (some .int) :: BIG
theorem dCh_byteOf_0 : decode cCh_byteOf 0 = .ok (.lload_n 0, 1) := by decide +kernel
theorem dCh_byteOf_1 : decode cCh_byteOf 1 = .ok (.bipush 8, 2) := by decide +kernel
theorem dCh_byteOf_3 : decode cCh_byteOf 3 = .ok (.iload_n 2, 1) := by decide +kernel
theorem dCh_byteOf_4 : decode cCh_byteOf 4 = .ok (.imul, 1) := by decide +kernel
theorem dCh_byteOf_5 : decode cCh_byteOf 5 = .ok (.lushr, 1) := by decide +kernel
theorem dCh_byteOf_6 : decode cCh_byteOf 6 = .ok (.l2i, 1) := by decide +kernel
theorem dCh_byteOf_7 : decode cCh_byteOf 7 = .ok (.sipush 255, 3) := by decide +kernel
theorem dCh_byteOf_10 : decode cCh_byteOf 10 = .ok (.iand, 1) := by decide +kernel
theorem dCh_byteOf_11 : decode cCh_byteOf 11 = .ok (.ireturn, 1) := by decide +kernel

def f_Ch_byteOf (w : Int64) (i : Int32) : Int32 :=
  ((ushr64 w (8 * i)).toInt32) &&& 255
theorem f_Ch_byteOf_eq (w : Int64) (i : Int32) : f_Ch_byteOf w i =
  ((ushr64 w (8 * i)).toInt32) &&& 255 := rfl

set_option maxHeartbeats 4000000 in
set_option maxRecDepth 100000 in
theorem c_Ch_byteOf (l : Launch) (dC : Nat → ClassId) (dI : Nat → Nat → Nat) (cI cJ cC : ClassId) (ad : Nat → Nat) (w : Int64) (i : Int32) : Met l yCh_byteOf wsCh_byteOf { frames := 0, cells := 0, slots := 0, locals := 0 } (roP dC dI (TYS cI cJ cC) [.long w, .int i] [] (GS ad)) (vp_Si (fun r => r = f_Ch_byteOf w i)) 0 0 (fun _ => False) := by
  refine Met.ofW (cc := cCh_byteOf) (maxL := 3) (ret := (some .int)) (by decide) rfl ?_
  intro p e s m args below meth c s₁ B hml hv
  obtain ⟨rfl, hP, hK, hG⟩ := hv
  have hx := B.exec
  have hb := B.bytes
  have hr := B.returns
  have hB : ∀ w9 ∈ BIG, w9.before ([.long w, .int i]).toArray s = true := fun w9 h => atoms_spec (ws := wsCh_byteOf) B.pre w9 (List.mem_cons_of_mem _ h)
  have hown : s.vm.findClass "ChessRules" = some m.cls := findClass_of_methodNamed B.named
  have hlocks := B.notSynchronized
  have hS : va_S (fun _ => False) s.heap s.heap [] := va_S.rf
  have hP : va_P (dC, dI) vwCl [] s.heap := hP
  have hl := lv_entry ([.long w, .int i]) (n := 3) (Nat.le_of_ble_eq_true rfl)
  rw [lg_entry_eq]
  generalize (lg_sl ([.long w, .int i]) ++ List.replicate (3 - (lg_sl ([.long w, .int i])).length) Slot.unset).toArray = ls at hl ⊢
  have hl : lv_has ls 3 [(0, .long w), (2, .int i)] := hl
  refine lv_lload_n hx hb dCh_byteOf_0 rfl (lv_at hl 0 rfl) ?_
  refine lv_bipush (v := 8) hx hb dCh_byteOf_1 (by decide) ?_
  refine lv_iload_n hx hb dCh_byteOf_3 rfl (lv_at hl 1 rfl) ?_
  refine lv_imul hx hb dCh_byteOf_4 ?_
  refine lv_lushr (v := ushr64 w (8 * i)) hx hb dCh_byteOf_5 rfl ?_
  refine lv_l2i (v := (ushr64 w (8 * i)).toInt32) hx hb dCh_byteOf_6 rfl ?_
  refine lv_sipush (v := 255) hx hb dCh_byteOf_7 (by decide) ?_
  refine lv_iand hx hb dCh_byteOf_10 ?_
  exact ro_reti hx hb hr hlocks dCh_byteOf_11 (Eq.symm (by rw [f_Ch_byteOf_eq] <;> rfl))

abbrev cCh_holds : ByteArray := prog_1_method_23_code
def yCh_holds : MethodName := ⟨"ChessRules", "holds", "(JI)Z"⟩
def wsCh_holds : List Cond := Cond.code yCh_holds cCh_holds 3 (some .boolean) :: BIG
theorem dCh_holds_0 : decode cCh_holds 0 = .ok (.lload_n 0, 1) := by decide +kernel
theorem dCh_holds_1 : decode cCh_holds 1 = .ok (.iload_n 2, 1) := by decide +kernel
theorem dCh_holds_2 : decode cCh_holds 2 = .ok (.lushr, 1) := by decide +kernel
theorem dCh_holds_3 : decode cCh_holds 3 = .ok (.lconst 1, 1) := by decide +kernel
theorem dCh_holds_4 : decode cCh_holds 4 = .ok (.land, 1) := by decide +kernel
theorem dCh_holds_5 : decode cCh_holds 5 = .ok (.lconst 0, 1) := by decide +kernel
theorem dCh_holds_6 : decode cCh_holds 6 = .ok (.lcmp, 1) := by decide +kernel
theorem dCh_holds_7 : decode cCh_holds 7 = .ok (.ifCond .eq 7, 3) := by decide +kernel
theorem dCh_holds_10 : decode cCh_holds 10 = .ok (.iconst 1, 1) := by decide +kernel
theorem dCh_holds_11 : decode cCh_holds 11 = .ok (.goto 4, 3) := by decide +kernel
theorem dCh_holds_14 : decode cCh_holds 14 = .ok (.iconst 0, 1) := by decide +kernel
theorem dCh_holds_15 : decode cCh_holds 15 = .ok (.ireturn, 1) := by decide +kernel

def f_Ch_holds (set : Int64) (square : Int32) : Int32 :=
  (if ((ushr64 set square) &&& 1) = 0 then 0 else 1)
theorem f_Ch_holds_eq (set : Int64) (square : Int32) : f_Ch_holds set square =
  (if ((ushr64 set square) &&& 1) = 0 then 0 else 1) := rfl

set_option maxHeartbeats 4000000 in
set_option maxRecDepth 100000 in
theorem c_Ch_holds (l : Launch) (dC : Nat → ClassId) (dI : Nat → Nat → Nat) (cI cJ cC : ClassId) (ad : Nat → Nat) (set : Int64) (square : Int32) : Met l yCh_holds wsCh_holds { frames := 0, cells := 0, slots := 0, locals := 0 } (roP dC dI (TYS cI cJ cC) [.long set, .int square] [] (GS ad)) (vp_Si (fun r => r = f_Ch_holds set square)) 0 0 (fun _ => False) := by
  refine Met.ofW (cc := cCh_holds) (maxL := 3) (ret := (some .boolean)) (by decide) rfl ?_
  intro p e s m args below meth c s₁ B hml hv
  obtain ⟨rfl, hP, hK, hG⟩ := hv
  have hx := B.exec
  have hb := B.bytes
  have hr := B.returns
  have hB : ∀ w9 ∈ BIG, w9.before ([.long set, .int square]).toArray s = true := fun w9 h => atoms_spec (ws := wsCh_holds) B.pre w9 (List.mem_cons_of_mem _ h)
  have hown : s.vm.findClass "ChessRules" = some m.cls := findClass_of_methodNamed B.named
  have hlocks := B.notSynchronized
  have hS : va_S (fun _ => False) s.heap s.heap [] := va_S.rf
  have hP : va_P (dC, dI) vwCl [] s.heap := hP
  have hl := lv_entry ([.long set, .int square]) (n := 3) (Nat.le_of_ble_eq_true rfl)
  rw [lg_entry_eq]
  generalize (lg_sl ([.long set, .int square]) ++ List.replicate (3 - (lg_sl ([.long set, .int square])).length) Slot.unset).toArray = ls at hl ⊢
  have hl : lv_has ls 3 [(0, .long set), (2, .int square)] := hl
  refine lv_lload_n hx hb dCh_holds_0 rfl (lv_at hl 0 rfl) ?_
  refine lv_iload_n hx hb dCh_holds_1 rfl (lv_at hl 1 rfl) ?_
  refine lv_lushr (v := ushr64 set square) hx hb dCh_holds_2 rfl ?_
  refine lv_lconst (v := 1) hx hb dCh_holds_3 (by decide) ?_
  refine lv_land hx hb dCh_holds_4 ?_
  refine lv_lconst (v := 0) hx hb dCh_holds_5 (by decide) ?_
  refine W.lcmp hx hb dCh_holds_6 ?_
  refine lv_if_eq (tgt := 14) hx hb dCh_holds_7 (by decide) (fun q => let_c (h := ((ushr64 set square) &&& 1) = 0) (lgc_eq.1 q) (fun c_1 => ?_)) (fun q => let_c (h := ¬ ((ushr64 set square) &&& 1) = 0) (lgc_eq.2 q) (fun c_1 => ?_))
  · refine lv_iconst (v := 0) hx hb dCh_holds_14 (by decide) ?_
    exact ro_retz hx hb hr rfl hlocks dCh_holds_15 (Eq.symm (by rw [f_Ch_holds_eq, if_pos c_1] <;> rfl))
  · refine lv_iconst (v := 1) hx hb dCh_holds_10 (by decide) ?_
    refine lv_goto (tgt := 15) hx hb dCh_holds_11 (by decide) ?_
    exact ro_retz hx hb hr rfl hlocks dCh_holds_15 (Eq.symm (by rw [f_Ch_holds_eq, if_neg c_1] <;> rfl))

abbrev cLo_bitCount : ByteArray := prog_17_method_50_code
def yLo_bitCount : MethodName := ⟨"java/lang/Long", "bitCount", "(J)I"⟩
def wsLo_bitCount : List Cond := Cond.code yLo_bitCount cLo_bitCount 2 (some .int) :: BIG
theorem dLo_bitCount_0 : decode cLo_bitCount 0 = .ok (.lload_n 0, 1) := by decide +kernel
theorem dLo_bitCount_1 : decode cLo_bitCount 1 = .ok (.lload_n 0, 1) := by decide +kernel
theorem dLo_bitCount_2 : decode cLo_bitCount 2 = .ok (.iconst 1, 1) := by decide +kernel
theorem dLo_bitCount_3 : decode cLo_bitCount 3 = .ok (.lushr, 1) := by decide +kernel
theorem dLo_bitCount_4 : decode cLo_bitCount 4 = .ok (.ldc2_w 314, 3) := by decide +kernel
theorem dLo_bitCount_7 : decode cLo_bitCount 7 = .ok (.land, 1) := by decide +kernel
theorem dLo_bitCount_8 : decode cLo_bitCount 8 = .ok (.lsub, 1) := by decide +kernel
theorem dLo_bitCount_9 : decode cLo_bitCount 9 = .ok (.lstore_n 0, 1) := by decide +kernel
theorem dLo_bitCount_10 : decode cLo_bitCount 10 = .ok (.lload_n 0, 1) := by decide +kernel
theorem dLo_bitCount_11 : decode cLo_bitCount 11 = .ok (.ldc2_w 316, 3) := by decide +kernel
theorem dLo_bitCount_14 : decode cLo_bitCount 14 = .ok (.land, 1) := by decide +kernel
theorem dLo_bitCount_15 : decode cLo_bitCount 15 = .ok (.lload_n 0, 1) := by decide +kernel
theorem dLo_bitCount_16 : decode cLo_bitCount 16 = .ok (.iconst 2, 1) := by decide +kernel
theorem dLo_bitCount_17 : decode cLo_bitCount 17 = .ok (.lushr, 1) := by decide +kernel
theorem dLo_bitCount_18 : decode cLo_bitCount 18 = .ok (.ldc2_w 316, 3) := by decide +kernel
theorem dLo_bitCount_21 : decode cLo_bitCount 21 = .ok (.land, 1) := by decide +kernel
theorem dLo_bitCount_22 : decode cLo_bitCount 22 = .ok (.ladd, 1) := by decide +kernel
theorem dLo_bitCount_23 : decode cLo_bitCount 23 = .ok (.lstore_n 0, 1) := by decide +kernel
theorem dLo_bitCount_24 : decode cLo_bitCount 24 = .ok (.lload_n 0, 1) := by decide +kernel
theorem dLo_bitCount_25 : decode cLo_bitCount 25 = .ok (.lload_n 0, 1) := by decide +kernel
theorem dLo_bitCount_26 : decode cLo_bitCount 26 = .ok (.iconst 4, 1) := by decide +kernel
theorem dLo_bitCount_27 : decode cLo_bitCount 27 = .ok (.lushr, 1) := by decide +kernel
theorem dLo_bitCount_28 : decode cLo_bitCount 28 = .ok (.ladd, 1) := by decide +kernel
theorem dLo_bitCount_29 : decode cLo_bitCount 29 = .ok (.ldc2_w 318, 3) := by decide +kernel
theorem dLo_bitCount_32 : decode cLo_bitCount 32 = .ok (.land, 1) := by decide +kernel
theorem dLo_bitCount_33 : decode cLo_bitCount 33 = .ok (.lstore_n 0, 1) := by decide +kernel
theorem dLo_bitCount_34 : decode cLo_bitCount 34 = .ok (.lload_n 0, 1) := by decide +kernel
theorem dLo_bitCount_35 : decode cLo_bitCount 35 = .ok (.lload_n 0, 1) := by decide +kernel
theorem dLo_bitCount_36 : decode cLo_bitCount 36 = .ok (.bipush 8, 2) := by decide +kernel
theorem dLo_bitCount_38 : decode cLo_bitCount 38 = .ok (.lushr, 1) := by decide +kernel
theorem dLo_bitCount_39 : decode cLo_bitCount 39 = .ok (.ladd, 1) := by decide +kernel
theorem dLo_bitCount_40 : decode cLo_bitCount 40 = .ok (.lstore_n 0, 1) := by decide +kernel
theorem dLo_bitCount_41 : decode cLo_bitCount 41 = .ok (.lload_n 0, 1) := by decide +kernel
theorem dLo_bitCount_42 : decode cLo_bitCount 42 = .ok (.lload_n 0, 1) := by decide +kernel
theorem dLo_bitCount_43 : decode cLo_bitCount 43 = .ok (.bipush 16, 2) := by decide +kernel
theorem dLo_bitCount_45 : decode cLo_bitCount 45 = .ok (.lushr, 1) := by decide +kernel
theorem dLo_bitCount_46 : decode cLo_bitCount 46 = .ok (.ladd, 1) := by decide +kernel
theorem dLo_bitCount_47 : decode cLo_bitCount 47 = .ok (.lstore_n 0, 1) := by decide +kernel
theorem dLo_bitCount_48 : decode cLo_bitCount 48 = .ok (.lload_n 0, 1) := by decide +kernel
theorem dLo_bitCount_49 : decode cLo_bitCount 49 = .ok (.lload_n 0, 1) := by decide +kernel
theorem dLo_bitCount_50 : decode cLo_bitCount 50 = .ok (.bipush 32, 2) := by decide +kernel
theorem dLo_bitCount_52 : decode cLo_bitCount 52 = .ok (.lushr, 1) := by decide +kernel
theorem dLo_bitCount_53 : decode cLo_bitCount 53 = .ok (.ladd, 1) := by decide +kernel
theorem dLo_bitCount_54 : decode cLo_bitCount 54 = .ok (.lstore_n 0, 1) := by decide +kernel
theorem dLo_bitCount_55 : decode cLo_bitCount 55 = .ok (.lload_n 0, 1) := by decide +kernel
theorem dLo_bitCount_56 : decode cLo_bitCount 56 = .ok (.l2i, 1) := by decide +kernel
theorem dLo_bitCount_57 : decode cLo_bitCount 57 = .ok (.bipush 127, 2) := by decide +kernel
theorem dLo_bitCount_59 : decode cLo_bitCount 59 = .ok (.iand, 1) := by decide +kernel
theorem dLo_bitCount_60 : decode cLo_bitCount 60 = .ok (.ireturn, 1) := by decide +kernel

def f_Lo_bitCount (i : Int64) : Int32 :=
  (((((((((i - ((ushr64 i 1) &&& 6148914691236517205)) &&& 3689348814741910323) + ((ushr64 (i - ((ushr64 i 1) &&& 6148914691236517205)) 2) &&& 3689348814741910323)) + (ushr64 (((i - ((ushr64 i 1) &&& 6148914691236517205)) &&& 3689348814741910323) + ((ushr64 (i - ((ushr64 i 1) &&& 6148914691236517205)) 2) &&& 3689348814741910323)) 4)) &&& 1085102592571150095) + (ushr64 (((((i - ((ushr64 i 1) &&& 6148914691236517205)) &&& 3689348814741910323) + ((ushr64 (i - ((ushr64 i 1) &&& 6148914691236517205)) 2) &&& 3689348814741910323)) + (ushr64 (((i - ((ushr64 i 1) &&& 6148914691236517205)) &&& 3689348814741910323) + ((ushr64 (i - ((ushr64 i 1) &&& 6148914691236517205)) 2) &&& 3689348814741910323)) 4)) &&& 1085102592571150095) 8)) + (ushr64 ((((((i - ((ushr64 i 1) &&& 6148914691236517205)) &&& 3689348814741910323) + ((ushr64 (i - ((ushr64 i 1) &&& 6148914691236517205)) 2) &&& 3689348814741910323)) + (ushr64 (((i - ((ushr64 i 1) &&& 6148914691236517205)) &&& 3689348814741910323) + ((ushr64 (i - ((ushr64 i 1) &&& 6148914691236517205)) 2) &&& 3689348814741910323)) 4)) &&& 1085102592571150095) + (ushr64 (((((i - ((ushr64 i 1) &&& 6148914691236517205)) &&& 3689348814741910323) + ((ushr64 (i - ((ushr64 i 1) &&& 6148914691236517205)) 2) &&& 3689348814741910323)) + (ushr64 (((i - ((ushr64 i 1) &&& 6148914691236517205)) &&& 3689348814741910323) + ((ushr64 (i - ((ushr64 i 1) &&& 6148914691236517205)) 2) &&& 3689348814741910323)) 4)) &&& 1085102592571150095) 8)) 16)) + (ushr64 (((((((i - ((ushr64 i 1) &&& 6148914691236517205)) &&& 3689348814741910323) + ((ushr64 (i - ((ushr64 i 1) &&& 6148914691236517205)) 2) &&& 3689348814741910323)) + (ushr64 (((i - ((ushr64 i 1) &&& 6148914691236517205)) &&& 3689348814741910323) + ((ushr64 (i - ((ushr64 i 1) &&& 6148914691236517205)) 2) &&& 3689348814741910323)) 4)) &&& 1085102592571150095) + (ushr64 (((((i - ((ushr64 i 1) &&& 6148914691236517205)) &&& 3689348814741910323) + ((ushr64 (i - ((ushr64 i 1) &&& 6148914691236517205)) 2) &&& 3689348814741910323)) + (ushr64 (((i - ((ushr64 i 1) &&& 6148914691236517205)) &&& 3689348814741910323) + ((ushr64 (i - ((ushr64 i 1) &&& 6148914691236517205)) 2) &&& 3689348814741910323)) 4)) &&& 1085102592571150095) 8)) + (ushr64 ((((((i - ((ushr64 i 1) &&& 6148914691236517205)) &&& 3689348814741910323) + ((ushr64 (i - ((ushr64 i 1) &&& 6148914691236517205)) 2) &&& 3689348814741910323)) + (ushr64 (((i - ((ushr64 i 1) &&& 6148914691236517205)) &&& 3689348814741910323) + ((ushr64 (i - ((ushr64 i 1) &&& 6148914691236517205)) 2) &&& 3689348814741910323)) 4)) &&& 1085102592571150095) + (ushr64 (((((i - ((ushr64 i 1) &&& 6148914691236517205)) &&& 3689348814741910323) + ((ushr64 (i - ((ushr64 i 1) &&& 6148914691236517205)) 2) &&& 3689348814741910323)) + (ushr64 (((i - ((ushr64 i 1) &&& 6148914691236517205)) &&& 3689348814741910323) + ((ushr64 (i - ((ushr64 i 1) &&& 6148914691236517205)) 2) &&& 3689348814741910323)) 4)) &&& 1085102592571150095) 8)) 16)) 32)).toInt32) &&& 127
theorem f_Lo_bitCount_eq (i : Int64) : f_Lo_bitCount i =
  (((((((((i - ((ushr64 i 1) &&& 6148914691236517205)) &&& 3689348814741910323) + ((ushr64 (i - ((ushr64 i 1) &&& 6148914691236517205)) 2) &&& 3689348814741910323)) + (ushr64 (((i - ((ushr64 i 1) &&& 6148914691236517205)) &&& 3689348814741910323) + ((ushr64 (i - ((ushr64 i 1) &&& 6148914691236517205)) 2) &&& 3689348814741910323)) 4)) &&& 1085102592571150095) + (ushr64 (((((i - ((ushr64 i 1) &&& 6148914691236517205)) &&& 3689348814741910323) + ((ushr64 (i - ((ushr64 i 1) &&& 6148914691236517205)) 2) &&& 3689348814741910323)) + (ushr64 (((i - ((ushr64 i 1) &&& 6148914691236517205)) &&& 3689348814741910323) + ((ushr64 (i - ((ushr64 i 1) &&& 6148914691236517205)) 2) &&& 3689348814741910323)) 4)) &&& 1085102592571150095) 8)) + (ushr64 ((((((i - ((ushr64 i 1) &&& 6148914691236517205)) &&& 3689348814741910323) + ((ushr64 (i - ((ushr64 i 1) &&& 6148914691236517205)) 2) &&& 3689348814741910323)) + (ushr64 (((i - ((ushr64 i 1) &&& 6148914691236517205)) &&& 3689348814741910323) + ((ushr64 (i - ((ushr64 i 1) &&& 6148914691236517205)) 2) &&& 3689348814741910323)) 4)) &&& 1085102592571150095) + (ushr64 (((((i - ((ushr64 i 1) &&& 6148914691236517205)) &&& 3689348814741910323) + ((ushr64 (i - ((ushr64 i 1) &&& 6148914691236517205)) 2) &&& 3689348814741910323)) + (ushr64 (((i - ((ushr64 i 1) &&& 6148914691236517205)) &&& 3689348814741910323) + ((ushr64 (i - ((ushr64 i 1) &&& 6148914691236517205)) 2) &&& 3689348814741910323)) 4)) &&& 1085102592571150095) 8)) 16)) + (ushr64 (((((((i - ((ushr64 i 1) &&& 6148914691236517205)) &&& 3689348814741910323) + ((ushr64 (i - ((ushr64 i 1) &&& 6148914691236517205)) 2) &&& 3689348814741910323)) + (ushr64 (((i - ((ushr64 i 1) &&& 6148914691236517205)) &&& 3689348814741910323) + ((ushr64 (i - ((ushr64 i 1) &&& 6148914691236517205)) 2) &&& 3689348814741910323)) 4)) &&& 1085102592571150095) + (ushr64 (((((i - ((ushr64 i 1) &&& 6148914691236517205)) &&& 3689348814741910323) + ((ushr64 (i - ((ushr64 i 1) &&& 6148914691236517205)) 2) &&& 3689348814741910323)) + (ushr64 (((i - ((ushr64 i 1) &&& 6148914691236517205)) &&& 3689348814741910323) + ((ushr64 (i - ((ushr64 i 1) &&& 6148914691236517205)) 2) &&& 3689348814741910323)) 4)) &&& 1085102592571150095) 8)) + (ushr64 ((((((i - ((ushr64 i 1) &&& 6148914691236517205)) &&& 3689348814741910323) + ((ushr64 (i - ((ushr64 i 1) &&& 6148914691236517205)) 2) &&& 3689348814741910323)) + (ushr64 (((i - ((ushr64 i 1) &&& 6148914691236517205)) &&& 3689348814741910323) + ((ushr64 (i - ((ushr64 i 1) &&& 6148914691236517205)) 2) &&& 3689348814741910323)) 4)) &&& 1085102592571150095) + (ushr64 (((((i - ((ushr64 i 1) &&& 6148914691236517205)) &&& 3689348814741910323) + ((ushr64 (i - ((ushr64 i 1) &&& 6148914691236517205)) 2) &&& 3689348814741910323)) + (ushr64 (((i - ((ushr64 i 1) &&& 6148914691236517205)) &&& 3689348814741910323) + ((ushr64 (i - ((ushr64 i 1) &&& 6148914691236517205)) 2) &&& 3689348814741910323)) 4)) &&& 1085102592571150095) 8)) 16)) 32)).toInt32) &&& 127 := rfl

set_option maxHeartbeats 4000000 in
set_option maxRecDepth 100000 in
theorem c_Lo_bitCount (l : Launch) (dC : Nat → ClassId) (dI : Nat → Nat → Nat) (cI cJ cC : ClassId) (ad : Nat → Nat) (i : Int64) : Met l yLo_bitCount wsLo_bitCount { frames := 0, cells := 0, slots := 0, locals := 0 } (roP dC dI (TYS cI cJ cC) [.long i] [] (GS ad)) (vp_Si (fun r => r = f_Lo_bitCount i)) 0 0 (fun _ => False) := by
  refine Met.ofW (cc := cLo_bitCount) (maxL := 2) (ret := (some .int)) (by decide) rfl ?_
  intro p e s m args below meth c s₁ B hml hv
  obtain ⟨rfl, hP, hK, hG⟩ := hv
  have hx := B.exec
  have hb := B.bytes
  have hr := B.returns
  have hB : ∀ w9 ∈ BIG, w9.before ([.long i]).toArray s = true := fun w9 h => atoms_spec (ws := wsLo_bitCount) B.pre w9 (List.mem_cons_of_mem _ h)
  have hown : s.vm.findClass "java/lang/Long" = some m.cls := findClass_of_methodNamed B.named
  have hlocks := B.notSynchronized
  have hS : va_S (fun _ => False) s.heap s.heap [] := va_S.rf
  have hP : va_P (dC, dI) vwCl [] s.heap := hP
  have hl := lv_entry ([.long i]) (n := 2) (Nat.le_of_ble_eq_true rfl)
  rw [lg_entry_eq]
  generalize (lg_sl ([.long i]) ++ List.replicate (2 - (lg_sl ([.long i])).length) Slot.unset).toArray = ls at hl ⊢
  have hl : lv_has ls 2 [(0, .long i)] := hl
  refine lv_lload_n hx hb dLo_bitCount_0 rfl (lv_at hl 0 rfl) ?_
  refine lv_lload_n hx hb dLo_bitCount_1 rfl (lv_at hl 0 rfl) ?_
  refine lv_iconst (v := 1) hx hb dLo_bitCount_2 (by decide) ?_
  refine lv_lushr (v := ushr64 i 1) hx hb dLo_bitCount_3 rfl ?_
  refine lv_ldc2 (v := 6148914691236517205) hx hb hown (hB _ q2_116) dLo_bitCount_4 ?_
  refine lv_land hx hb dLo_bitCount_7 ?_
  refine lv_lsub hx hb dLo_bitCount_8 ?_
  refine lv_lstore_n (lv' := [(0, .long (i - ((ushr64 i 1) &&& 6148914691236517205)))]) hx hb dLo_bitCount_9 rfl hl (by decide) rfl (fun ls hl => ?_)
  refine lv_lload_n hx hb dLo_bitCount_10 rfl (lv_at hl 0 rfl) ?_
  refine lv_ldc2 (v := 3689348814741910323) hx hb hown (hB _ q2_117) dLo_bitCount_11 ?_
  refine lv_land hx hb dLo_bitCount_14 ?_
  refine lv_lload_n hx hb dLo_bitCount_15 rfl (lv_at hl 0 rfl) ?_
  refine lv_iconst (v := 2) hx hb dLo_bitCount_16 (by decide) ?_
  refine lv_lushr (v := ushr64 (i - ((ushr64 i 1) &&& 6148914691236517205)) 2) hx hb dLo_bitCount_17 rfl ?_
  refine lv_ldc2 (v := 3689348814741910323) hx hb hown (hB _ q2_117) dLo_bitCount_18 ?_
  refine lv_land hx hb dLo_bitCount_21 ?_
  refine lv_ladd hx hb dLo_bitCount_22 ?_
  refine lv_lstore_n (lv' := [(0, .long (((i - ((ushr64 i 1) &&& 6148914691236517205)) &&& 3689348814741910323) + ((ushr64 (i - ((ushr64 i 1) &&& 6148914691236517205)) 2) &&& 3689348814741910323)))]) hx hb dLo_bitCount_23 rfl hl (by decide) rfl (fun ls hl => ?_)
  refine lv_lload_n hx hb dLo_bitCount_24 rfl (lv_at hl 0 rfl) ?_
  refine lv_lload_n hx hb dLo_bitCount_25 rfl (lv_at hl 0 rfl) ?_
  refine lv_iconst (v := 4) hx hb dLo_bitCount_26 (by decide) ?_
  refine lv_lushr (v := ushr64 (((i - ((ushr64 i 1) &&& 6148914691236517205)) &&& 3689348814741910323) + ((ushr64 (i - ((ushr64 i 1) &&& 6148914691236517205)) 2) &&& 3689348814741910323)) 4) hx hb dLo_bitCount_27 rfl ?_
  refine lv_ladd hx hb dLo_bitCount_28 ?_
  refine lv_ldc2 (v := 1085102592571150095) hx hb hown (hB _ q2_118) dLo_bitCount_29 ?_
  refine lv_land hx hb dLo_bitCount_32 ?_
  refine lv_lstore_n (lv' := [(0, .long (((((i - ((ushr64 i 1) &&& 6148914691236517205)) &&& 3689348814741910323) + ((ushr64 (i - ((ushr64 i 1) &&& 6148914691236517205)) 2) &&& 3689348814741910323)) + (ushr64 (((i - ((ushr64 i 1) &&& 6148914691236517205)) &&& 3689348814741910323) + ((ushr64 (i - ((ushr64 i 1) &&& 6148914691236517205)) 2) &&& 3689348814741910323)) 4)) &&& 1085102592571150095))]) hx hb dLo_bitCount_33 rfl hl (by decide) rfl (fun ls hl => ?_)
  refine lv_lload_n hx hb dLo_bitCount_34 rfl (lv_at hl 0 rfl) ?_
  refine lv_lload_n hx hb dLo_bitCount_35 rfl (lv_at hl 0 rfl) ?_
  refine lv_bipush (v := 8) hx hb dLo_bitCount_36 (by decide) ?_
  refine lv_lushr (v := ushr64 (((((i - ((ushr64 i 1) &&& 6148914691236517205)) &&& 3689348814741910323) + ((ushr64 (i - ((ushr64 i 1) &&& 6148914691236517205)) 2) &&& 3689348814741910323)) + (ushr64 (((i - ((ushr64 i 1) &&& 6148914691236517205)) &&& 3689348814741910323) + ((ushr64 (i - ((ushr64 i 1) &&& 6148914691236517205)) 2) &&& 3689348814741910323)) 4)) &&& 1085102592571150095) 8) hx hb dLo_bitCount_38 rfl ?_
  refine lv_ladd hx hb dLo_bitCount_39 ?_
  refine lv_lstore_n (lv' := [(0, .long ((((((i - ((ushr64 i 1) &&& 6148914691236517205)) &&& 3689348814741910323) + ((ushr64 (i - ((ushr64 i 1) &&& 6148914691236517205)) 2) &&& 3689348814741910323)) + (ushr64 (((i - ((ushr64 i 1) &&& 6148914691236517205)) &&& 3689348814741910323) + ((ushr64 (i - ((ushr64 i 1) &&& 6148914691236517205)) 2) &&& 3689348814741910323)) 4)) &&& 1085102592571150095) + (ushr64 (((((i - ((ushr64 i 1) &&& 6148914691236517205)) &&& 3689348814741910323) + ((ushr64 (i - ((ushr64 i 1) &&& 6148914691236517205)) 2) &&& 3689348814741910323)) + (ushr64 (((i - ((ushr64 i 1) &&& 6148914691236517205)) &&& 3689348814741910323) + ((ushr64 (i - ((ushr64 i 1) &&& 6148914691236517205)) 2) &&& 3689348814741910323)) 4)) &&& 1085102592571150095) 8)))]) hx hb dLo_bitCount_40 rfl hl (by decide) rfl (fun ls hl => ?_)
  refine lv_lload_n hx hb dLo_bitCount_41 rfl (lv_at hl 0 rfl) ?_
  refine lv_lload_n hx hb dLo_bitCount_42 rfl (lv_at hl 0 rfl) ?_
  refine lv_bipush (v := 16) hx hb dLo_bitCount_43 (by decide) ?_
  refine lv_lushr (v := ushr64 ((((((i - ((ushr64 i 1) &&& 6148914691236517205)) &&& 3689348814741910323) + ((ushr64 (i - ((ushr64 i 1) &&& 6148914691236517205)) 2) &&& 3689348814741910323)) + (ushr64 (((i - ((ushr64 i 1) &&& 6148914691236517205)) &&& 3689348814741910323) + ((ushr64 (i - ((ushr64 i 1) &&& 6148914691236517205)) 2) &&& 3689348814741910323)) 4)) &&& 1085102592571150095) + (ushr64 (((((i - ((ushr64 i 1) &&& 6148914691236517205)) &&& 3689348814741910323) + ((ushr64 (i - ((ushr64 i 1) &&& 6148914691236517205)) 2) &&& 3689348814741910323)) + (ushr64 (((i - ((ushr64 i 1) &&& 6148914691236517205)) &&& 3689348814741910323) + ((ushr64 (i - ((ushr64 i 1) &&& 6148914691236517205)) 2) &&& 3689348814741910323)) 4)) &&& 1085102592571150095) 8)) 16) hx hb dLo_bitCount_45 rfl ?_
  refine lv_ladd hx hb dLo_bitCount_46 ?_
  refine lv_lstore_n (lv' := [(0, .long (((((((i - ((ushr64 i 1) &&& 6148914691236517205)) &&& 3689348814741910323) + ((ushr64 (i - ((ushr64 i 1) &&& 6148914691236517205)) 2) &&& 3689348814741910323)) + (ushr64 (((i - ((ushr64 i 1) &&& 6148914691236517205)) &&& 3689348814741910323) + ((ushr64 (i - ((ushr64 i 1) &&& 6148914691236517205)) 2) &&& 3689348814741910323)) 4)) &&& 1085102592571150095) + (ushr64 (((((i - ((ushr64 i 1) &&& 6148914691236517205)) &&& 3689348814741910323) + ((ushr64 (i - ((ushr64 i 1) &&& 6148914691236517205)) 2) &&& 3689348814741910323)) + (ushr64 (((i - ((ushr64 i 1) &&& 6148914691236517205)) &&& 3689348814741910323) + ((ushr64 (i - ((ushr64 i 1) &&& 6148914691236517205)) 2) &&& 3689348814741910323)) 4)) &&& 1085102592571150095) 8)) + (ushr64 ((((((i - ((ushr64 i 1) &&& 6148914691236517205)) &&& 3689348814741910323) + ((ushr64 (i - ((ushr64 i 1) &&& 6148914691236517205)) 2) &&& 3689348814741910323)) + (ushr64 (((i - ((ushr64 i 1) &&& 6148914691236517205)) &&& 3689348814741910323) + ((ushr64 (i - ((ushr64 i 1) &&& 6148914691236517205)) 2) &&& 3689348814741910323)) 4)) &&& 1085102592571150095) + (ushr64 (((((i - ((ushr64 i 1) &&& 6148914691236517205)) &&& 3689348814741910323) + ((ushr64 (i - ((ushr64 i 1) &&& 6148914691236517205)) 2) &&& 3689348814741910323)) + (ushr64 (((i - ((ushr64 i 1) &&& 6148914691236517205)) &&& 3689348814741910323) + ((ushr64 (i - ((ushr64 i 1) &&& 6148914691236517205)) 2) &&& 3689348814741910323)) 4)) &&& 1085102592571150095) 8)) 16)))]) hx hb dLo_bitCount_47 rfl hl (by decide) rfl (fun ls hl => ?_)
  refine lv_lload_n hx hb dLo_bitCount_48 rfl (lv_at hl 0 rfl) ?_
  refine lv_lload_n hx hb dLo_bitCount_49 rfl (lv_at hl 0 rfl) ?_
  refine lv_bipush (v := 32) hx hb dLo_bitCount_50 (by decide) ?_
  refine lv_lushr (v := ushr64 (((((((i - ((ushr64 i 1) &&& 6148914691236517205)) &&& 3689348814741910323) + ((ushr64 (i - ((ushr64 i 1) &&& 6148914691236517205)) 2) &&& 3689348814741910323)) + (ushr64 (((i - ((ushr64 i 1) &&& 6148914691236517205)) &&& 3689348814741910323) + ((ushr64 (i - ((ushr64 i 1) &&& 6148914691236517205)) 2) &&& 3689348814741910323)) 4)) &&& 1085102592571150095) + (ushr64 (((((i - ((ushr64 i 1) &&& 6148914691236517205)) &&& 3689348814741910323) + ((ushr64 (i - ((ushr64 i 1) &&& 6148914691236517205)) 2) &&& 3689348814741910323)) + (ushr64 (((i - ((ushr64 i 1) &&& 6148914691236517205)) &&& 3689348814741910323) + ((ushr64 (i - ((ushr64 i 1) &&& 6148914691236517205)) 2) &&& 3689348814741910323)) 4)) &&& 1085102592571150095) 8)) + (ushr64 ((((((i - ((ushr64 i 1) &&& 6148914691236517205)) &&& 3689348814741910323) + ((ushr64 (i - ((ushr64 i 1) &&& 6148914691236517205)) 2) &&& 3689348814741910323)) + (ushr64 (((i - ((ushr64 i 1) &&& 6148914691236517205)) &&& 3689348814741910323) + ((ushr64 (i - ((ushr64 i 1) &&& 6148914691236517205)) 2) &&& 3689348814741910323)) 4)) &&& 1085102592571150095) + (ushr64 (((((i - ((ushr64 i 1) &&& 6148914691236517205)) &&& 3689348814741910323) + ((ushr64 (i - ((ushr64 i 1) &&& 6148914691236517205)) 2) &&& 3689348814741910323)) + (ushr64 (((i - ((ushr64 i 1) &&& 6148914691236517205)) &&& 3689348814741910323) + ((ushr64 (i - ((ushr64 i 1) &&& 6148914691236517205)) 2) &&& 3689348814741910323)) 4)) &&& 1085102592571150095) 8)) 16)) 32) hx hb dLo_bitCount_52 rfl ?_
  refine lv_ladd hx hb dLo_bitCount_53 ?_
  refine lv_lstore_n (lv' := [(0, .long ((((((((i - ((ushr64 i 1) &&& 6148914691236517205)) &&& 3689348814741910323) + ((ushr64 (i - ((ushr64 i 1) &&& 6148914691236517205)) 2) &&& 3689348814741910323)) + (ushr64 (((i - ((ushr64 i 1) &&& 6148914691236517205)) &&& 3689348814741910323) + ((ushr64 (i - ((ushr64 i 1) &&& 6148914691236517205)) 2) &&& 3689348814741910323)) 4)) &&& 1085102592571150095) + (ushr64 (((((i - ((ushr64 i 1) &&& 6148914691236517205)) &&& 3689348814741910323) + ((ushr64 (i - ((ushr64 i 1) &&& 6148914691236517205)) 2) &&& 3689348814741910323)) + (ushr64 (((i - ((ushr64 i 1) &&& 6148914691236517205)) &&& 3689348814741910323) + ((ushr64 (i - ((ushr64 i 1) &&& 6148914691236517205)) 2) &&& 3689348814741910323)) 4)) &&& 1085102592571150095) 8)) + (ushr64 ((((((i - ((ushr64 i 1) &&& 6148914691236517205)) &&& 3689348814741910323) + ((ushr64 (i - ((ushr64 i 1) &&& 6148914691236517205)) 2) &&& 3689348814741910323)) + (ushr64 (((i - ((ushr64 i 1) &&& 6148914691236517205)) &&& 3689348814741910323) + ((ushr64 (i - ((ushr64 i 1) &&& 6148914691236517205)) 2) &&& 3689348814741910323)) 4)) &&& 1085102592571150095) + (ushr64 (((((i - ((ushr64 i 1) &&& 6148914691236517205)) &&& 3689348814741910323) + ((ushr64 (i - ((ushr64 i 1) &&& 6148914691236517205)) 2) &&& 3689348814741910323)) + (ushr64 (((i - ((ushr64 i 1) &&& 6148914691236517205)) &&& 3689348814741910323) + ((ushr64 (i - ((ushr64 i 1) &&& 6148914691236517205)) 2) &&& 3689348814741910323)) 4)) &&& 1085102592571150095) 8)) 16)) + (ushr64 (((((((i - ((ushr64 i 1) &&& 6148914691236517205)) &&& 3689348814741910323) + ((ushr64 (i - ((ushr64 i 1) &&& 6148914691236517205)) 2) &&& 3689348814741910323)) + (ushr64 (((i - ((ushr64 i 1) &&& 6148914691236517205)) &&& 3689348814741910323) + ((ushr64 (i - ((ushr64 i 1) &&& 6148914691236517205)) 2) &&& 3689348814741910323)) 4)) &&& 1085102592571150095) + (ushr64 (((((i - ((ushr64 i 1) &&& 6148914691236517205)) &&& 3689348814741910323) + ((ushr64 (i - ((ushr64 i 1) &&& 6148914691236517205)) 2) &&& 3689348814741910323)) + (ushr64 (((i - ((ushr64 i 1) &&& 6148914691236517205)) &&& 3689348814741910323) + ((ushr64 (i - ((ushr64 i 1) &&& 6148914691236517205)) 2) &&& 3689348814741910323)) 4)) &&& 1085102592571150095) 8)) + (ushr64 ((((((i - ((ushr64 i 1) &&& 6148914691236517205)) &&& 3689348814741910323) + ((ushr64 (i - ((ushr64 i 1) &&& 6148914691236517205)) 2) &&& 3689348814741910323)) + (ushr64 (((i - ((ushr64 i 1) &&& 6148914691236517205)) &&& 3689348814741910323) + ((ushr64 (i - ((ushr64 i 1) &&& 6148914691236517205)) 2) &&& 3689348814741910323)) 4)) &&& 1085102592571150095) + (ushr64 (((((i - ((ushr64 i 1) &&& 6148914691236517205)) &&& 3689348814741910323) + ((ushr64 (i - ((ushr64 i 1) &&& 6148914691236517205)) 2) &&& 3689348814741910323)) + (ushr64 (((i - ((ushr64 i 1) &&& 6148914691236517205)) &&& 3689348814741910323) + ((ushr64 (i - ((ushr64 i 1) &&& 6148914691236517205)) 2) &&& 3689348814741910323)) 4)) &&& 1085102592571150095) 8)) 16)) 32)))]) hx hb dLo_bitCount_54 rfl hl (by decide) rfl (fun ls hl => ?_)
  refine lv_lload_n hx hb dLo_bitCount_55 rfl (lv_at hl 0 rfl) ?_
  refine lv_l2i (v := ((((((((i - ((ushr64 i 1) &&& 6148914691236517205)) &&& 3689348814741910323) + ((ushr64 (i - ((ushr64 i 1) &&& 6148914691236517205)) 2) &&& 3689348814741910323)) + (ushr64 (((i - ((ushr64 i 1) &&& 6148914691236517205)) &&& 3689348814741910323) + ((ushr64 (i - ((ushr64 i 1) &&& 6148914691236517205)) 2) &&& 3689348814741910323)) 4)) &&& 1085102592571150095) + (ushr64 (((((i - ((ushr64 i 1) &&& 6148914691236517205)) &&& 3689348814741910323) + ((ushr64 (i - ((ushr64 i 1) &&& 6148914691236517205)) 2) &&& 3689348814741910323)) + (ushr64 (((i - ((ushr64 i 1) &&& 6148914691236517205)) &&& 3689348814741910323) + ((ushr64 (i - ((ushr64 i 1) &&& 6148914691236517205)) 2) &&& 3689348814741910323)) 4)) &&& 1085102592571150095) 8)) + (ushr64 ((((((i - ((ushr64 i 1) &&& 6148914691236517205)) &&& 3689348814741910323) + ((ushr64 (i - ((ushr64 i 1) &&& 6148914691236517205)) 2) &&& 3689348814741910323)) + (ushr64 (((i - ((ushr64 i 1) &&& 6148914691236517205)) &&& 3689348814741910323) + ((ushr64 (i - ((ushr64 i 1) &&& 6148914691236517205)) 2) &&& 3689348814741910323)) 4)) &&& 1085102592571150095) + (ushr64 (((((i - ((ushr64 i 1) &&& 6148914691236517205)) &&& 3689348814741910323) + ((ushr64 (i - ((ushr64 i 1) &&& 6148914691236517205)) 2) &&& 3689348814741910323)) + (ushr64 (((i - ((ushr64 i 1) &&& 6148914691236517205)) &&& 3689348814741910323) + ((ushr64 (i - ((ushr64 i 1) &&& 6148914691236517205)) 2) &&& 3689348814741910323)) 4)) &&& 1085102592571150095) 8)) 16)) + (ushr64 (((((((i - ((ushr64 i 1) &&& 6148914691236517205)) &&& 3689348814741910323) + ((ushr64 (i - ((ushr64 i 1) &&& 6148914691236517205)) 2) &&& 3689348814741910323)) + (ushr64 (((i - ((ushr64 i 1) &&& 6148914691236517205)) &&& 3689348814741910323) + ((ushr64 (i - ((ushr64 i 1) &&& 6148914691236517205)) 2) &&& 3689348814741910323)) 4)) &&& 1085102592571150095) + (ushr64 (((((i - ((ushr64 i 1) &&& 6148914691236517205)) &&& 3689348814741910323) + ((ushr64 (i - ((ushr64 i 1) &&& 6148914691236517205)) 2) &&& 3689348814741910323)) + (ushr64 (((i - ((ushr64 i 1) &&& 6148914691236517205)) &&& 3689348814741910323) + ((ushr64 (i - ((ushr64 i 1) &&& 6148914691236517205)) 2) &&& 3689348814741910323)) 4)) &&& 1085102592571150095) 8)) + (ushr64 ((((((i - ((ushr64 i 1) &&& 6148914691236517205)) &&& 3689348814741910323) + ((ushr64 (i - ((ushr64 i 1) &&& 6148914691236517205)) 2) &&& 3689348814741910323)) + (ushr64 (((i - ((ushr64 i 1) &&& 6148914691236517205)) &&& 3689348814741910323) + ((ushr64 (i - ((ushr64 i 1) &&& 6148914691236517205)) 2) &&& 3689348814741910323)) 4)) &&& 1085102592571150095) + (ushr64 (((((i - ((ushr64 i 1) &&& 6148914691236517205)) &&& 3689348814741910323) + ((ushr64 (i - ((ushr64 i 1) &&& 6148914691236517205)) 2) &&& 3689348814741910323)) + (ushr64 (((i - ((ushr64 i 1) &&& 6148914691236517205)) &&& 3689348814741910323) + ((ushr64 (i - ((ushr64 i 1) &&& 6148914691236517205)) 2) &&& 3689348814741910323)) 4)) &&& 1085102592571150095) 8)) 16)) 32)).toInt32) hx hb dLo_bitCount_56 rfl ?_
  refine lv_bipush (v := 127) hx hb dLo_bitCount_57 (by decide) ?_
  refine lv_iand hx hb dLo_bitCount_59 ?_
  exact ro_reti hx hb hr hlocks dLo_bitCount_60 (Eq.symm (by rw [f_Lo_bitCount_eq] <;> rfl))

abbrev cCh_lowestSquare : ByteArray := prog_1_method_22_code
def yCh_lowestSquare : MethodName := ⟨"ChessRules", "lowestSquare", "(J)I"⟩
def wsCh_lowestSquare : List Cond := Cond.code yCh_lowestSquare cCh_lowestSquare 2 (some .int) :: BIG
theorem dCh_lowestSquare_0 : decode cCh_lowestSquare 0 = .ok (.lload_n 0, 1) := by decide +kernel
theorem dCh_lowestSquare_1 : decode cCh_lowestSquare 1 = .ok (.lload_n 0, 1) := by decide +kernel
theorem dCh_lowestSquare_2 : decode cCh_lowestSquare 2 = .ok (.lneg, 1) := by decide +kernel
theorem dCh_lowestSquare_3 : decode cCh_lowestSquare 3 = .ok (.land, 1) := by decide +kernel
theorem dCh_lowestSquare_4 : decode cCh_lowestSquare 4 = .ok (.lconst 1, 1) := by decide +kernel
theorem dCh_lowestSquare_5 : decode cCh_lowestSquare 5 = .ok (.lsub, 1) := by decide +kernel
theorem dCh_lowestSquare_6 : decode cCh_lowestSquare 6 = .ok (.invokestatic 195, 3) := by decide +kernel
theorem dCh_lowestSquare_9 : decode cCh_lowestSquare 9 = .ok (.ireturn, 1) := by decide +kernel

def f_Ch_lowestSquare (set : Int64) : Int32 :=
  f_Lo_bitCount ((set &&& (-set)) - 1)
theorem f_Ch_lowestSquare_eq (set : Int64) : f_Ch_lowestSquare set =
  f_Lo_bitCount ((set &&& (-set)) - 1) := rfl

set_option maxHeartbeats 4000000 in
set_option maxRecDepth 100000 in
theorem c_Ch_lowestSquare (l : Launch) (dC : Nat → ClassId) (dI : Nat → Nat → Nat) (cI cJ cC : ClassId) (ad : Nat → Nat) (set : Int64) : Met l yCh_lowestSquare wsCh_lowestSquare { frames := 1, cells := 0, slots := 0, locals := 21 } (roP dC dI (TYS cI cJ cC) [.long set] [] (GS ad)) (vp_Si (fun r => r = f_Ch_lowestSquare set)) 0 0 (fun _ => False) := by
  refine Met.ofW (cc := cCh_lowestSquare) (maxL := 2) (ret := (some .int)) (by decide) rfl ?_
  intro p e s m args below meth c s₁ B hml hv
  obtain ⟨rfl, hP, hK, hG⟩ := hv
  have hx := B.exec
  have hb := B.bytes
  have hr := B.returns
  have hB : ∀ w9 ∈ BIG, w9.before ([.long set]).toArray s = true := fun w9 h => atoms_spec (ws := wsCh_lowestSquare) B.pre w9 (List.mem_cons_of_mem _ h)
  have hown : s.vm.findClass "ChessRules" = some m.cls := findClass_of_methodNamed B.named
  have hlocks := B.notSynchronized
  have hS : va_S (fun _ => False) s.heap s.heap [] := va_S.rf
  have hP : va_P (dC, dI) vwCl [] s.heap := hP
  have hl := lv_entry ([.long set]) (n := 2) (Nat.le_of_ble_eq_true rfl)
  rw [lg_entry_eq]
  generalize (lg_sl ([.long set]) ++ List.replicate (2 - (lg_sl ([.long set])).length) Slot.unset).toArray = ls at hl ⊢
  have hl : lv_has ls 2 [(0, .long set)] := hl
  refine lv_lload_n hx hb dCh_lowestSquare_0 rfl (lv_at hl 0 rfl) ?_
  refine lv_lload_n hx hb dCh_lowestSquare_1 rfl (lv_at hl 0 rfl) ?_
  refine lv_lneg hx hb dCh_lowestSquare_2 ?_
  refine lv_land hx hb dCh_lowestSquare_3 ?_
  refine lv_lconst (v := 1) hx hb dCh_lowestSquare_4 (by decide) ?_
  refine lv_lsub hx hb dCh_lowestSquare_5 ?_
  refine ro_goi (va_runS (As := [.long ((set &&& (-set)) - 1)]) (rest := []) ⟨hx, hb, hml, hown, hB⟩ (c_Lo_bitCount l dC dI cI cJ cC ad ((set &&& (-set)) - 1)) ⟨callB_of 1 hB (big_self q2_115) rfl rfl rfl (hB _ q1_13) (hB _ q2_219) (by decide +kernel) ⟨Nat.le_of_ble_eq_true rfl, Nat.le_of_ble_eq_true rfl⟩, (hB _ q2_114)⟩ (ro_preS (GS_ok ad) hK hP hG hS [] rfl) rfl rfl hl.1 rfl (lv_room (Nat.le_of_ble_eq_true rfl)) dCh_lowestSquare_6 ⟨Nat.le_of_ble_eq_true rfl, Nat.le_of_ble_eq_true rfl⟩) ?_
  exact ro_reti hx hb hr hlocks dCh_lowestSquare_9 (Eq.symm (by rw [f_Ch_lowestSquare_eq] <;> rfl))

abbrev cRa_ahead : ByteArray := prog_6_method_2_code
def yRa_ahead : MethodName := ⟨"ChessRules$Reach", "ahead", "(JI)J"⟩
def wsRa_ahead : List Cond := Cond.code yRa_ahead cRa_ahead 3 (some .long) :: BIG
theorem dRa_ahead_0 : decode cRa_ahead 0 = .ok (.iload_n 2, 1) := by decide +kernel
theorem dRa_ahead_1 : decode cRa_ahead 1 = .ok (.ifCond .ne 10, 3) := by decide +kernel
theorem dRa_ahead_4 : decode cRa_ahead 4 = .ok (.lload_n 0, 1) := by decide +kernel
theorem dRa_ahead_5 : decode cRa_ahead 5 = .ok (.bipush 8, 2) := by decide +kernel
theorem dRa_ahead_7 : decode cRa_ahead 7 = .ok (.lshl, 1) := by decide +kernel
theorem dRa_ahead_8 : decode cRa_ahead 8 = .ok (.goto 7, 3) := by decide +kernel
theorem dRa_ahead_11 : decode cRa_ahead 11 = .ok (.lload_n 0, 1) := by decide +kernel
theorem dRa_ahead_12 : decode cRa_ahead 12 = .ok (.bipush 8, 2) := by decide +kernel
theorem dRa_ahead_14 : decode cRa_ahead 14 = .ok (.lushr, 1) := by decide +kernel
theorem dRa_ahead_15 : decode cRa_ahead 15 = .ok (.lreturn, 1) := by decide +kernel

def f_Ra_ahead (fr : Int64) (side : Int32) : Int64 :=
  (if side = 0 then shl64 fr 8 else ushr64 fr 8)
theorem f_Ra_ahead_eq (fr : Int64) (side : Int32) : f_Ra_ahead fr side =
  (if side = 0 then shl64 fr 8 else ushr64 fr 8) := rfl

set_option maxHeartbeats 4000000 in
set_option maxRecDepth 100000 in
theorem c_Ra_ahead (l : Launch) (dC : Nat → ClassId) (dI : Nat → Nat → Nat) (cI cJ cC : ClassId) (ad : Nat → Nat) (fr : Int64) (side : Int32) : Met l yRa_ahead wsRa_ahead { frames := 0, cells := 0, slots := 0, locals := 0 } (roP dC dI (TYS cI cJ cC) [.long fr, .int side] [] (GS ad)) (vp_Sl (fun r => r = f_Ra_ahead fr side)) 0 0 (fun _ => False) := by
  refine Met.ofW (cc := cRa_ahead) (maxL := 3) (ret := (some .long)) (by decide) rfl ?_
  intro p e s m args below meth c s₁ B hml hv
  obtain ⟨rfl, hP, hK, hG⟩ := hv
  have hx := B.exec
  have hb := B.bytes
  have hr := B.returns
  have hB : ∀ w9 ∈ BIG, w9.before ([.long fr, .int side]).toArray s = true := fun w9 h => atoms_spec (ws := wsRa_ahead) B.pre w9 (List.mem_cons_of_mem _ h)
  have hown : s.vm.findClass "ChessRules$Reach" = some m.cls := findClass_of_methodNamed B.named
  have hlocks := B.notSynchronized
  have hS : va_S (fun _ => False) s.heap s.heap [] := va_S.rf
  have hP : va_P (dC, dI) vwCl [] s.heap := hP
  have hl := lv_entry ([.long fr, .int side]) (n := 3) (Nat.le_of_ble_eq_true rfl)
  rw [lg_entry_eq]
  generalize (lg_sl ([.long fr, .int side]) ++ List.replicate (3 - (lg_sl ([.long fr, .int side])).length) Slot.unset).toArray = ls at hl ⊢
  have hl : lv_has ls 3 [(0, .long fr), (2, .int side)] := hl
  refine lv_iload_n hx hb dRa_ahead_0 rfl (lv_at hl 1 rfl) ?_
  refine lv_if_ne (tgt := 11) hx hb dRa_ahead_1 (by decide) (fun c_1 => ?_) (fun c_1 => ?_)
  · refine lv_lload_n hx hb dRa_ahead_11 rfl (lv_at hl 0 rfl) ?_
    refine lv_bipush (v := 8) hx hb dRa_ahead_12 (by decide) ?_
    refine lv_lushr (v := ushr64 fr 8) hx hb dRa_ahead_14 rfl ?_
    exact ro_retl hx hb hr hlocks dRa_ahead_15 (Eq.symm (by rw [f_Ra_ahead_eq, if_neg c_1] <;> rfl))
  · refine lv_lload_n hx hb dRa_ahead_4 rfl (lv_at hl 0 rfl) ?_
    refine lv_bipush (v := 8) hx hb dRa_ahead_5 (by decide) ?_
    refine lv_lshl (v := shl64 fr 8) hx hb dRa_ahead_7 rfl ?_
    refine lv_goto (tgt := 15) hx hb dRa_ahead_8 (by decide) ?_
    exact ro_retl hx hb hr hlocks dRa_ahead_15 (Eq.symm (by rw [f_Ra_ahead_eq, if_pos c_1] <;> rfl))

abbrev cRa_byPawn : ByteArray := prog_6_method_3_code
def yRa_byPawn : MethodName := ⟨"ChessRules$Reach", "byPawn", "(JI)J"⟩
def wsRa_byPawn : List Cond := Cond.code yRa_byPawn cRa_byPawn 5 (some .long) :: BIG
theorem dRa_byPawn_0 : decode cRa_byPawn 0 = .ok (.lload_n 0, 1) := by decide +kernel
theorem dRa_byPawn_1 : decode cRa_byPawn 1 = .ok (.ldc2_w 11, 3) := by decide +kernel
theorem dRa_byPawn_4 : decode cRa_byPawn 4 = .ok (.land, 1) := by decide +kernel
theorem dRa_byPawn_5 : decode cRa_byPawn 5 = .ok (.iconst 1, 1) := by decide +kernel
theorem dRa_byPawn_6 : decode cRa_byPawn 6 = .ok (.lshl, 1) := by decide +kernel
theorem dRa_byPawn_7 : decode cRa_byPawn 7 = .ok (.lload_n 0, 1) := by decide +kernel
theorem dRa_byPawn_8 : decode cRa_byPawn 8 = .ok (.ldc2_w 13, 3) := by decide +kernel
theorem dRa_byPawn_11 : decode cRa_byPawn 11 = .ok (.land, 1) := by decide +kernel
theorem dRa_byPawn_12 : decode cRa_byPawn 12 = .ok (.iconst 1, 1) := by decide +kernel
theorem dRa_byPawn_13 : decode cRa_byPawn 13 = .ok (.lushr, 1) := by decide +kernel
theorem dRa_byPawn_14 : decode cRa_byPawn 14 = .ok (.lor, 1) := by decide +kernel
theorem dRa_byPawn_15 : decode cRa_byPawn 15 = .ok (.lstore_n 3, 1) := by decide +kernel
theorem dRa_byPawn_16 : decode cRa_byPawn 16 = .ok (.iload_n 2, 1) := by decide +kernel
theorem dRa_byPawn_17 : decode cRa_byPawn 17 = .ok (.ifCond .ne 10, 3) := by decide +kernel
theorem dRa_byPawn_20 : decode cRa_byPawn 20 = .ok (.lload_n 3, 1) := by decide +kernel
theorem dRa_byPawn_21 : decode cRa_byPawn 21 = .ok (.bipush 8, 2) := by decide +kernel
theorem dRa_byPawn_23 : decode cRa_byPawn 23 = .ok (.lshl, 1) := by decide +kernel
theorem dRa_byPawn_24 : decode cRa_byPawn 24 = .ok (.goto 7, 3) := by decide +kernel
theorem dRa_byPawn_27 : decode cRa_byPawn 27 = .ok (.lload_n 3, 1) := by decide +kernel
theorem dRa_byPawn_28 : decode cRa_byPawn 28 = .ok (.bipush 8, 2) := by decide +kernel
theorem dRa_byPawn_30 : decode cRa_byPawn 30 = .ok (.lushr, 1) := by decide +kernel
theorem dRa_byPawn_31 : decode cRa_byPawn 31 = .ok (.lreturn, 1) := by decide +kernel

def f_Ra_byPawn (fr : Int64) (side : Int32) : Int64 :=
  (if side = 0 then shl64 ((shl64 (fr &&& 9187201950435737471) 1) ||| (ushr64 (fr &&& (-72340172838076674)) 1)) 8 else ushr64 ((shl64 (fr &&& 9187201950435737471) 1) ||| (ushr64 (fr &&& (-72340172838076674)) 1)) 8)
theorem f_Ra_byPawn_eq (fr : Int64) (side : Int32) : f_Ra_byPawn fr side =
  (if side = 0 then shl64 ((shl64 (fr &&& 9187201950435737471) 1) ||| (ushr64 (fr &&& (-72340172838076674)) 1)) 8 else ushr64 ((shl64 (fr &&& 9187201950435737471) 1) ||| (ushr64 (fr &&& (-72340172838076674)) 1)) 8) := rfl

set_option maxHeartbeats 4000000 in
set_option maxRecDepth 100000 in
theorem c_Ra_byPawn (l : Launch) (dC : Nat → ClassId) (dI : Nat → Nat → Nat) (cI cJ cC : ClassId) (ad : Nat → Nat) (fr : Int64) (side : Int32) : Met l yRa_byPawn wsRa_byPawn { frames := 0, cells := 0, slots := 0, locals := 0 } (roP dC dI (TYS cI cJ cC) [.long fr, .int side] [] (GS ad)) (vp_Sl (fun r => r = f_Ra_byPawn fr side)) 0 0 (fun _ => False) := by
  refine Met.ofW (cc := cRa_byPawn) (maxL := 5) (ret := (some .long)) (by decide) rfl ?_
  intro p e s m args below meth c s₁ B hml hv
  obtain ⟨rfl, hP, hK, hG⟩ := hv
  have hx := B.exec
  have hb := B.bytes
  have hr := B.returns
  have hB : ∀ w9 ∈ BIG, w9.before ([.long fr, .int side]).toArray s = true := fun w9 h => atoms_spec (ws := wsRa_byPawn) B.pre w9 (List.mem_cons_of_mem _ h)
  have hown : s.vm.findClass "ChessRules$Reach" = some m.cls := findClass_of_methodNamed B.named
  have hlocks := B.notSynchronized
  have hS : va_S (fun _ => False) s.heap s.heap [] := va_S.rf
  have hP : va_P (dC, dI) vwCl [] s.heap := hP
  have hl := lv_entry ([.long fr, .int side]) (n := 5) (Nat.le_of_ble_eq_true rfl)
  rw [lg_entry_eq]
  generalize (lg_sl ([.long fr, .int side]) ++ List.replicate (5 - (lg_sl ([.long fr, .int side])).length) Slot.unset).toArray = ls at hl ⊢
  have hl : lv_has ls 5 [(0, .long fr), (2, .int side)] := hl
  refine lv_lload_n hx hb dRa_byPawn_0 rfl (lv_at hl 0 rfl) ?_
  refine lv_ldc2 (v := 9187201950435737471) hx hb hown (hB _ q2_140) dRa_byPawn_1 ?_
  refine lv_land hx hb dRa_byPawn_4 ?_
  refine lv_iconst (v := 1) hx hb dRa_byPawn_5 (by decide) ?_
  refine lv_lshl (v := shl64 (fr &&& 9187201950435737471) 1) hx hb dRa_byPawn_6 rfl ?_
  refine lv_lload_n hx hb dRa_byPawn_7 rfl (lv_at hl 0 rfl) ?_
  refine lv_ldc2 (v := (-72340172838076674)) hx hb hown (hB _ q2_141) dRa_byPawn_8 ?_
  refine lv_land hx hb dRa_byPawn_11 ?_
  refine lv_iconst (v := 1) hx hb dRa_byPawn_12 (by decide) ?_
  refine lv_lushr (v := ushr64 (fr &&& (-72340172838076674)) 1) hx hb dRa_byPawn_13 rfl ?_
  refine lv_lor hx hb dRa_byPawn_14 ?_
  refine lv_lstore_n (lv' := [(3, .long ((shl64 (fr &&& 9187201950435737471) 1) ||| (ushr64 (fr &&& (-72340172838076674)) 1))), (0, .long fr), (2, .int side)]) hx hb dRa_byPawn_15 rfl hl (by decide) rfl (fun ls hl => ?_)
  refine lv_iload_n hx hb dRa_byPawn_16 rfl (lv_at hl 2 rfl) ?_
  refine lv_if_ne (tgt := 27) hx hb dRa_byPawn_17 (by decide) (fun c_1 => ?_) (fun c_1 => ?_)
  · refine lv_lload_n hx hb dRa_byPawn_27 rfl (lv_at hl 0 rfl) ?_
    refine lv_bipush (v := 8) hx hb dRa_byPawn_28 (by decide) ?_
    refine lv_lushr (v := ushr64 ((shl64 (fr &&& 9187201950435737471) 1) ||| (ushr64 (fr &&& (-72340172838076674)) 1)) 8) hx hb dRa_byPawn_30 rfl ?_
    exact ro_retl hx hb hr hlocks dRa_byPawn_31 (Eq.symm (by rw [f_Ra_byPawn_eq, if_neg c_1] <;> rfl))
  · refine lv_lload_n hx hb dRa_byPawn_20 rfl (lv_at hl 0 rfl) ?_
    refine lv_bipush (v := 8) hx hb dRa_byPawn_21 (by decide) ?_
    refine lv_lshl (v := shl64 ((shl64 (fr &&& 9187201950435737471) 1) ||| (ushr64 (fr &&& (-72340172838076674)) 1)) 8) hx hb dRa_byPawn_23 rfl ?_
    refine lv_goto (tgt := 31) hx hb dRa_byPawn_24 (by decide) ?_
    exact ro_retl hx hb hr hlocks dRa_byPawn_31 (Eq.symm (by rw [f_Ra_byPawn_eq, if_pos c_1] <;> rfl))

abbrev cRa_byKnight : ByteArray := prog_6_method_4_code
def yRa_byKnight : MethodName := ⟨"ChessRules$Reach", "byKnight", "(J)J"⟩
def wsRa_byKnight : List Cond := Cond.code yRa_byKnight cRa_byKnight 6 (some .long) :: BIG
theorem dRa_byKnight_0 : decode cRa_byKnight 0 = .ok (.lload_n 0, 1) := by decide +kernel
theorem dRa_byKnight_1 : decode cRa_byKnight 1 = .ok (.ldc2_w 11, 3) := by decide +kernel
theorem dRa_byKnight_4 : decode cRa_byKnight 4 = .ok (.land, 1) := by decide +kernel
theorem dRa_byKnight_5 : decode cRa_byKnight 5 = .ok (.bipush 17, 2) := by decide +kernel
theorem dRa_byKnight_7 : decode cRa_byKnight 7 = .ok (.lshl, 1) := by decide +kernel
theorem dRa_byKnight_8 : decode cRa_byKnight 8 = .ok (.lload_n 0, 1) := by decide +kernel
theorem dRa_byKnight_9 : decode cRa_byKnight 9 = .ok (.ldc2_w 13, 3) := by decide +kernel
theorem dRa_byKnight_12 : decode cRa_byKnight 12 = .ok (.land, 1) := by decide +kernel
theorem dRa_byKnight_13 : decode cRa_byKnight 13 = .ok (.bipush 15, 2) := by decide +kernel
theorem dRa_byKnight_15 : decode cRa_byKnight 15 = .ok (.lshl, 1) := by decide +kernel
theorem dRa_byKnight_16 : decode cRa_byKnight 16 = .ok (.lor, 1) := by decide +kernel
theorem dRa_byKnight_17 : decode cRa_byKnight 17 = .ok (.lload_n 0, 1) := by decide +kernel
theorem dRa_byKnight_18 : decode cRa_byKnight 18 = .ok (.ldc2_w 15, 3) := by decide +kernel
theorem dRa_byKnight_21 : decode cRa_byKnight 21 = .ok (.land, 1) := by decide +kernel
theorem dRa_byKnight_22 : decode cRa_byKnight 22 = .ok (.bipush 10, 2) := by decide +kernel
theorem dRa_byKnight_24 : decode cRa_byKnight 24 = .ok (.lshl, 1) := by decide +kernel
theorem dRa_byKnight_25 : decode cRa_byKnight 25 = .ok (.lor, 1) := by decide +kernel
theorem dRa_byKnight_26 : decode cRa_byKnight 26 = .ok (.lload_n 0, 1) := by decide +kernel
theorem dRa_byKnight_27 : decode cRa_byKnight 27 = .ok (.ldc2_w 17, 3) := by decide +kernel
theorem dRa_byKnight_30 : decode cRa_byKnight 30 = .ok (.land, 1) := by decide +kernel
theorem dRa_byKnight_31 : decode cRa_byKnight 31 = .ok (.bipush 6, 2) := by decide +kernel
theorem dRa_byKnight_33 : decode cRa_byKnight 33 = .ok (.lshl, 1) := by decide +kernel
theorem dRa_byKnight_34 : decode cRa_byKnight 34 = .ok (.lor, 1) := by decide +kernel
theorem dRa_byKnight_35 : decode cRa_byKnight 35 = .ok (.lstore_n 2, 1) := by decide +kernel
theorem dRa_byKnight_36 : decode cRa_byKnight 36 = .ok (.lload_n 0, 1) := by decide +kernel
theorem dRa_byKnight_37 : decode cRa_byKnight 37 = .ok (.ldc2_w 13, 3) := by decide +kernel
theorem dRa_byKnight_40 : decode cRa_byKnight 40 = .ok (.land, 1) := by decide +kernel
theorem dRa_byKnight_41 : decode cRa_byKnight 41 = .ok (.bipush 17, 2) := by decide +kernel
theorem dRa_byKnight_43 : decode cRa_byKnight 43 = .ok (.lushr, 1) := by decide +kernel
theorem dRa_byKnight_44 : decode cRa_byKnight 44 = .ok (.lload_n 0, 1) := by decide +kernel
theorem dRa_byKnight_45 : decode cRa_byKnight 45 = .ok (.ldc2_w 11, 3) := by decide +kernel
theorem dRa_byKnight_48 : decode cRa_byKnight 48 = .ok (.land, 1) := by decide +kernel
theorem dRa_byKnight_49 : decode cRa_byKnight 49 = .ok (.bipush 15, 2) := by decide +kernel
theorem dRa_byKnight_51 : decode cRa_byKnight 51 = .ok (.lushr, 1) := by decide +kernel
theorem dRa_byKnight_52 : decode cRa_byKnight 52 = .ok (.lor, 1) := by decide +kernel
theorem dRa_byKnight_53 : decode cRa_byKnight 53 = .ok (.lload_n 0, 1) := by decide +kernel
theorem dRa_byKnight_54 : decode cRa_byKnight 54 = .ok (.ldc2_w 17, 3) := by decide +kernel
theorem dRa_byKnight_57 : decode cRa_byKnight 57 = .ok (.land, 1) := by decide +kernel
theorem dRa_byKnight_58 : decode cRa_byKnight 58 = .ok (.bipush 10, 2) := by decide +kernel
theorem dRa_byKnight_60 : decode cRa_byKnight 60 = .ok (.lushr, 1) := by decide +kernel
theorem dRa_byKnight_61 : decode cRa_byKnight 61 = .ok (.lor, 1) := by decide +kernel
theorem dRa_byKnight_62 : decode cRa_byKnight 62 = .ok (.lload_n 0, 1) := by decide +kernel
theorem dRa_byKnight_63 : decode cRa_byKnight 63 = .ok (.ldc2_w 15, 3) := by decide +kernel
theorem dRa_byKnight_66 : decode cRa_byKnight 66 = .ok (.land, 1) := by decide +kernel
theorem dRa_byKnight_67 : decode cRa_byKnight 67 = .ok (.bipush 6, 2) := by decide +kernel
theorem dRa_byKnight_69 : decode cRa_byKnight 69 = .ok (.lushr, 1) := by decide +kernel
theorem dRa_byKnight_70 : decode cRa_byKnight 70 = .ok (.lor, 1) := by decide +kernel
theorem dRa_byKnight_71 : decode cRa_byKnight 71 = .ok (.lstore 4, 2) := by decide +kernel
theorem dRa_byKnight_73 : decode cRa_byKnight 73 = .ok (.lload_n 2, 1) := by decide +kernel
theorem dRa_byKnight_74 : decode cRa_byKnight 74 = .ok (.lload 4, 2) := by decide +kernel
theorem dRa_byKnight_76 : decode cRa_byKnight 76 = .ok (.lor, 1) := by decide +kernel
theorem dRa_byKnight_77 : decode cRa_byKnight 77 = .ok (.lreturn, 1) := by decide +kernel

def f_Ra_byKnight (fr : Int64) : Int64 :=
  ((((shl64 (fr &&& 9187201950435737471) 17) ||| (shl64 (fr &&& (-72340172838076674)) 15)) ||| (shl64 (fr &&& 4557430888798830399) 10)) ||| (shl64 (fr &&& (-217020518514230020)) 6)) ||| ((((ushr64 (fr &&& (-72340172838076674)) 17) ||| (ushr64 (fr &&& 9187201950435737471) 15)) ||| (ushr64 (fr &&& (-217020518514230020)) 10)) ||| (ushr64 (fr &&& 4557430888798830399) 6))
theorem f_Ra_byKnight_eq (fr : Int64) : f_Ra_byKnight fr =
  ((((shl64 (fr &&& 9187201950435737471) 17) ||| (shl64 (fr &&& (-72340172838076674)) 15)) ||| (shl64 (fr &&& 4557430888798830399) 10)) ||| (shl64 (fr &&& (-217020518514230020)) 6)) ||| ((((ushr64 (fr &&& (-72340172838076674)) 17) ||| (ushr64 (fr &&& 9187201950435737471) 15)) ||| (ushr64 (fr &&& (-217020518514230020)) 10)) ||| (ushr64 (fr &&& 4557430888798830399) 6)) := rfl

set_option maxHeartbeats 4000000 in
set_option maxRecDepth 100000 in
theorem c_Ra_byKnight (l : Launch) (dC : Nat → ClassId) (dI : Nat → Nat → Nat) (cI cJ cC : ClassId) (ad : Nat → Nat) (fr : Int64) : Met l yRa_byKnight wsRa_byKnight { frames := 0, cells := 0, slots := 0, locals := 0 } (roP dC dI (TYS cI cJ cC) [.long fr] [] (GS ad)) (vp_Sl (fun r => r = f_Ra_byKnight fr)) 0 0 (fun _ => False) := by
  refine Met.ofW (cc := cRa_byKnight) (maxL := 6) (ret := (some .long)) (by decide) rfl ?_
  intro p e s m args below meth c s₁ B hml hv
  obtain ⟨rfl, hP, hK, hG⟩ := hv
  have hx := B.exec
  have hb := B.bytes
  have hr := B.returns
  have hB : ∀ w9 ∈ BIG, w9.before ([.long fr]).toArray s = true := fun w9 h => atoms_spec (ws := wsRa_byKnight) B.pre w9 (List.mem_cons_of_mem _ h)
  have hown : s.vm.findClass "ChessRules$Reach" = some m.cls := findClass_of_methodNamed B.named
  have hlocks := B.notSynchronized
  have hS : va_S (fun _ => False) s.heap s.heap [] := va_S.rf
  have hP : va_P (dC, dI) vwCl [] s.heap := hP
  have hl := lv_entry ([.long fr]) (n := 6) (Nat.le_of_ble_eq_true rfl)
  rw [lg_entry_eq]
  generalize (lg_sl ([.long fr]) ++ List.replicate (6 - (lg_sl ([.long fr])).length) Slot.unset).toArray = ls at hl ⊢
  have hl : lv_has ls 6 [(0, .long fr)] := hl
  refine lv_lload_n hx hb dRa_byKnight_0 rfl (lv_at hl 0 rfl) ?_
  refine lv_ldc2 (v := 9187201950435737471) hx hb hown (hB _ q2_140) dRa_byKnight_1 ?_
  refine lv_land hx hb dRa_byKnight_4 ?_
  refine lv_bipush (v := 17) hx hb dRa_byKnight_5 (by decide) ?_
  refine lv_lshl (v := shl64 (fr &&& 9187201950435737471) 17) hx hb dRa_byKnight_7 rfl ?_
  refine lv_lload_n hx hb dRa_byKnight_8 rfl (lv_at hl 0 rfl) ?_
  refine lv_ldc2 (v := (-72340172838076674)) hx hb hown (hB _ q2_141) dRa_byKnight_9 ?_
  refine lv_land hx hb dRa_byKnight_12 ?_
  refine lv_bipush (v := 15) hx hb dRa_byKnight_13 (by decide) ?_
  refine lv_lshl (v := shl64 (fr &&& (-72340172838076674)) 15) hx hb dRa_byKnight_15 rfl ?_
  refine lv_lor hx hb dRa_byKnight_16 ?_
  refine lv_lload_n hx hb dRa_byKnight_17 rfl (lv_at hl 0 rfl) ?_
  refine lv_ldc2 (v := 4557430888798830399) hx hb hown (hB _ q2_145) dRa_byKnight_18 ?_
  refine lv_land hx hb dRa_byKnight_21 ?_
  refine lv_bipush (v := 10) hx hb dRa_byKnight_22 (by decide) ?_
  refine lv_lshl (v := shl64 (fr &&& 4557430888798830399) 10) hx hb dRa_byKnight_24 rfl ?_
  refine lv_lor hx hb dRa_byKnight_25 ?_
  refine lv_lload_n hx hb dRa_byKnight_26 rfl (lv_at hl 0 rfl) ?_
  refine lv_ldc2 (v := (-217020518514230020)) hx hb hown (hB _ q2_146) dRa_byKnight_27 ?_
  refine lv_land hx hb dRa_byKnight_30 ?_
  refine lv_bipush (v := 6) hx hb dRa_byKnight_31 (by decide) ?_
  refine lv_lshl (v := shl64 (fr &&& (-217020518514230020)) 6) hx hb dRa_byKnight_33 rfl ?_
  refine lv_lor hx hb dRa_byKnight_34 ?_
  refine lv_lstore_n (lv' := [(2, .long ((((shl64 (fr &&& 9187201950435737471) 17) ||| (shl64 (fr &&& (-72340172838076674)) 15)) ||| (shl64 (fr &&& 4557430888798830399) 10)) ||| (shl64 (fr &&& (-217020518514230020)) 6))), (0, .long fr)]) hx hb dRa_byKnight_35 rfl hl (by decide) rfl (fun ls hl => ?_)
  refine lv_lload_n hx hb dRa_byKnight_36 rfl (lv_at hl 1 rfl) ?_
  refine lv_ldc2 (v := (-72340172838076674)) hx hb hown (hB _ q2_141) dRa_byKnight_37 ?_
  refine lv_land hx hb dRa_byKnight_40 ?_
  refine lv_bipush (v := 17) hx hb dRa_byKnight_41 (by decide) ?_
  refine lv_lushr (v := ushr64 (fr &&& (-72340172838076674)) 17) hx hb dRa_byKnight_43 rfl ?_
  refine lv_lload_n hx hb dRa_byKnight_44 rfl (lv_at hl 1 rfl) ?_
  refine lv_ldc2 (v := 9187201950435737471) hx hb hown (hB _ q2_140) dRa_byKnight_45 ?_
  refine lv_land hx hb dRa_byKnight_48 ?_
  refine lv_bipush (v := 15) hx hb dRa_byKnight_49 (by decide) ?_
  refine lv_lushr (v := ushr64 (fr &&& 9187201950435737471) 15) hx hb dRa_byKnight_51 rfl ?_
  refine lv_lor hx hb dRa_byKnight_52 ?_
  refine lv_lload_n hx hb dRa_byKnight_53 rfl (lv_at hl 1 rfl) ?_
  refine lv_ldc2 (v := (-217020518514230020)) hx hb hown (hB _ q2_146) dRa_byKnight_54 ?_
  refine lv_land hx hb dRa_byKnight_57 ?_
  refine lv_bipush (v := 10) hx hb dRa_byKnight_58 (by decide) ?_
  refine lv_lushr (v := ushr64 (fr &&& (-217020518514230020)) 10) hx hb dRa_byKnight_60 rfl ?_
  refine lv_lor hx hb dRa_byKnight_61 ?_
  refine lv_lload_n hx hb dRa_byKnight_62 rfl (lv_at hl 1 rfl) ?_
  refine lv_ldc2 (v := 4557430888798830399) hx hb hown (hB _ q2_145) dRa_byKnight_63 ?_
  refine lv_land hx hb dRa_byKnight_66 ?_
  refine lv_bipush (v := 6) hx hb dRa_byKnight_67 (by decide) ?_
  refine lv_lushr (v := ushr64 (fr &&& 4557430888798830399) 6) hx hb dRa_byKnight_69 rfl ?_
  refine lv_lor hx hb dRa_byKnight_70 ?_
  refine lv_lstore (lv' := [(4, .long ((((ushr64 (fr &&& (-72340172838076674)) 17) ||| (ushr64 (fr &&& 9187201950435737471) 15)) ||| (ushr64 (fr &&& (-217020518514230020)) 10)) ||| (ushr64 (fr &&& 4557430888798830399) 6))), (2, .long ((((shl64 (fr &&& 9187201950435737471) 17) ||| (shl64 (fr &&& (-72340172838076674)) 15)) ||| (shl64 (fr &&& 4557430888798830399) 10)) ||| (shl64 (fr &&& (-217020518514230020)) 6))), (0, .long fr)]) hx hb dRa_byKnight_71 hl (by decide) rfl (fun ls hl => ?_)
  refine lv_lload_n hx hb dRa_byKnight_73 rfl (lv_at hl 1 rfl) ?_
  refine lv_lload hx hb dRa_byKnight_74 (lv_at hl 0 rfl) ?_
  refine lv_lor hx hb dRa_byKnight_76 ?_
  exact ro_retl hx hb hr hlocks dRa_byKnight_77 (Eq.symm (by rw [f_Ra_byKnight_eq] <;> rfl))

abbrev cRa_byKing : ByteArray := prog_6_method_5_code
def yRa_byKing : MethodName := ⟨"ChessRules$Reach", "byKing", "(J)J"⟩
def wsRa_byKing : List Cond := Cond.code yRa_byKing cRa_byKing 4 (some .long) :: BIG
theorem dRa_byKing_0 : decode cRa_byKing 0 = .ok (.lload_n 0, 1) := by decide +kernel
theorem dRa_byKing_1 : decode cRa_byKing 1 = .ok (.lload_n 0, 1) := by decide +kernel
theorem dRa_byKing_2 : decode cRa_byKing 2 = .ok (.ldc2_w 11, 3) := by decide +kernel
theorem dRa_byKing_5 : decode cRa_byKing 5 = .ok (.land, 1) := by decide +kernel
theorem dRa_byKing_6 : decode cRa_byKing 6 = .ok (.iconst 1, 1) := by decide +kernel
theorem dRa_byKing_7 : decode cRa_byKing 7 = .ok (.lshl, 1) := by decide +kernel
theorem dRa_byKing_8 : decode cRa_byKing 8 = .ok (.lor, 1) := by decide +kernel
theorem dRa_byKing_9 : decode cRa_byKing 9 = .ok (.lload_n 0, 1) := by decide +kernel
theorem dRa_byKing_10 : decode cRa_byKing 10 = .ok (.ldc2_w 13, 3) := by decide +kernel
theorem dRa_byKing_13 : decode cRa_byKing 13 = .ok (.land, 1) := by decide +kernel
theorem dRa_byKing_14 : decode cRa_byKing 14 = .ok (.iconst 1, 1) := by decide +kernel
theorem dRa_byKing_15 : decode cRa_byKing 15 = .ok (.lushr, 1) := by decide +kernel
theorem dRa_byKing_16 : decode cRa_byKing 16 = .ok (.lor, 1) := by decide +kernel
theorem dRa_byKing_17 : decode cRa_byKing 17 = .ok (.lstore_n 2, 1) := by decide +kernel
theorem dRa_byKing_18 : decode cRa_byKing 18 = .ok (.lload_n 2, 1) := by decide +kernel
theorem dRa_byKing_19 : decode cRa_byKing 19 = .ok (.lload_n 2, 1) := by decide +kernel
theorem dRa_byKing_20 : decode cRa_byKing 20 = .ok (.bipush 8, 2) := by decide +kernel
theorem dRa_byKing_22 : decode cRa_byKing 22 = .ok (.lshl, 1) := by decide +kernel
theorem dRa_byKing_23 : decode cRa_byKing 23 = .ok (.lor, 1) := by decide +kernel
theorem dRa_byKing_24 : decode cRa_byKing 24 = .ok (.lload_n 2, 1) := by decide +kernel
theorem dRa_byKing_25 : decode cRa_byKing 25 = .ok (.bipush 8, 2) := by decide +kernel
theorem dRa_byKing_27 : decode cRa_byKing 27 = .ok (.lushr, 1) := by decide +kernel
theorem dRa_byKing_28 : decode cRa_byKing 28 = .ok (.lor, 1) := by decide +kernel
theorem dRa_byKing_29 : decode cRa_byKing 29 = .ok (.lload_n 0, 1) := by decide +kernel
theorem dRa_byKing_30 : decode cRa_byKing 30 = .ok (.ldc2_w 19, 3) := by decide +kernel
theorem dRa_byKing_33 : decode cRa_byKing 33 = .ok (.lxor, 1) := by decide +kernel
theorem dRa_byKing_34 : decode cRa_byKing 34 = .ok (.land, 1) := by decide +kernel
theorem dRa_byKing_35 : decode cRa_byKing 35 = .ok (.lreturn, 1) := by decide +kernel

def f_Ra_byKing (fr : Int64) : Int64 :=
  ((((fr ||| (shl64 (fr &&& 9187201950435737471) 1)) ||| (ushr64 (fr &&& (-72340172838076674)) 1)) ||| (shl64 ((fr ||| (shl64 (fr &&& 9187201950435737471) 1)) ||| (ushr64 (fr &&& (-72340172838076674)) 1)) 8)) ||| (ushr64 ((fr ||| (shl64 (fr &&& 9187201950435737471) 1)) ||| (ushr64 (fr &&& (-72340172838076674)) 1)) 8)) &&& (fr ^^^ (-1))
theorem f_Ra_byKing_eq (fr : Int64) : f_Ra_byKing fr =
  ((((fr ||| (shl64 (fr &&& 9187201950435737471) 1)) ||| (ushr64 (fr &&& (-72340172838076674)) 1)) ||| (shl64 ((fr ||| (shl64 (fr &&& 9187201950435737471) 1)) ||| (ushr64 (fr &&& (-72340172838076674)) 1)) 8)) ||| (ushr64 ((fr ||| (shl64 (fr &&& 9187201950435737471) 1)) ||| (ushr64 (fr &&& (-72340172838076674)) 1)) 8)) &&& (fr ^^^ (-1)) := rfl

set_option maxHeartbeats 4000000 in
set_option maxRecDepth 100000 in
theorem c_Ra_byKing (l : Launch) (dC : Nat → ClassId) (dI : Nat → Nat → Nat) (cI cJ cC : ClassId) (ad : Nat → Nat) (fr : Int64) : Met l yRa_byKing wsRa_byKing { frames := 0, cells := 0, slots := 0, locals := 0 } (roP dC dI (TYS cI cJ cC) [.long fr] [] (GS ad)) (vp_Sl (fun r => r = f_Ra_byKing fr)) 0 0 (fun _ => False) := by
  refine Met.ofW (cc := cRa_byKing) (maxL := 4) (ret := (some .long)) (by decide) rfl ?_
  intro p e s m args below meth c s₁ B hml hv
  obtain ⟨rfl, hP, hK, hG⟩ := hv
  have hx := B.exec
  have hb := B.bytes
  have hr := B.returns
  have hB : ∀ w9 ∈ BIG, w9.before ([.long fr]).toArray s = true := fun w9 h => atoms_spec (ws := wsRa_byKing) B.pre w9 (List.mem_cons_of_mem _ h)
  have hown : s.vm.findClass "ChessRules$Reach" = some m.cls := findClass_of_methodNamed B.named
  have hlocks := B.notSynchronized
  have hS : va_S (fun _ => False) s.heap s.heap [] := va_S.rf
  have hP : va_P (dC, dI) vwCl [] s.heap := hP
  have hl := lv_entry ([.long fr]) (n := 4) (Nat.le_of_ble_eq_true rfl)
  rw [lg_entry_eq]
  generalize (lg_sl ([.long fr]) ++ List.replicate (4 - (lg_sl ([.long fr])).length) Slot.unset).toArray = ls at hl ⊢
  have hl : lv_has ls 4 [(0, .long fr)] := hl
  refine lv_lload_n hx hb dRa_byKing_0 rfl (lv_at hl 0 rfl) ?_
  refine lv_lload_n hx hb dRa_byKing_1 rfl (lv_at hl 0 rfl) ?_
  refine lv_ldc2 (v := 9187201950435737471) hx hb hown (hB _ q2_140) dRa_byKing_2 ?_
  refine lv_land hx hb dRa_byKing_5 ?_
  refine lv_iconst (v := 1) hx hb dRa_byKing_6 (by decide) ?_
  refine lv_lshl (v := shl64 (fr &&& 9187201950435737471) 1) hx hb dRa_byKing_7 rfl ?_
  refine lv_lor hx hb dRa_byKing_8 ?_
  refine lv_lload_n hx hb dRa_byKing_9 rfl (lv_at hl 0 rfl) ?_
  refine lv_ldc2 (v := (-72340172838076674)) hx hb hown (hB _ q2_141) dRa_byKing_10 ?_
  refine lv_land hx hb dRa_byKing_13 ?_
  refine lv_iconst (v := 1) hx hb dRa_byKing_14 (by decide) ?_
  refine lv_lushr (v := ushr64 (fr &&& (-72340172838076674)) 1) hx hb dRa_byKing_15 rfl ?_
  refine lv_lor hx hb dRa_byKing_16 ?_
  refine lv_lstore_n (lv' := [(2, .long ((fr ||| (shl64 (fr &&& 9187201950435737471) 1)) ||| (ushr64 (fr &&& (-72340172838076674)) 1))), (0, .long fr)]) hx hb dRa_byKing_17 rfl hl (by decide) rfl (fun ls hl => ?_)
  refine lv_lload_n hx hb dRa_byKing_18 rfl (lv_at hl 0 rfl) ?_
  refine lv_lload_n hx hb dRa_byKing_19 rfl (lv_at hl 0 rfl) ?_
  refine lv_bipush (v := 8) hx hb dRa_byKing_20 (by decide) ?_
  refine lv_lshl (v := shl64 ((fr ||| (shl64 (fr &&& 9187201950435737471) 1)) ||| (ushr64 (fr &&& (-72340172838076674)) 1)) 8) hx hb dRa_byKing_22 rfl ?_
  refine lv_lor hx hb dRa_byKing_23 ?_
  refine lv_lload_n hx hb dRa_byKing_24 rfl (lv_at hl 0 rfl) ?_
  refine lv_bipush (v := 8) hx hb dRa_byKing_25 (by decide) ?_
  refine lv_lushr (v := ushr64 ((fr ||| (shl64 (fr &&& 9187201950435737471) 1)) ||| (ushr64 (fr &&& (-72340172838076674)) 1)) 8) hx hb dRa_byKing_27 rfl ?_
  refine lv_lor hx hb dRa_byKing_28 ?_
  refine lv_lload_n hx hb dRa_byKing_29 rfl (lv_at hl 1 rfl) ?_
  refine lv_ldc2 (v := (-1)) hx hb hown (hB _ q2_150) dRa_byKing_30 ?_
  refine lv_lxor hx hb dRa_byKing_33 ?_
  refine lv_land hx hb dRa_byKing_34 ?_
  exact ro_retl hx hb hr hlocks dRa_byKing_35 (Eq.symm (by rw [f_Ra_byKing_eq] <;> rfl))

abbrev cRa_along : ByteArray := prog_6_method_6_code
def yRa_along : MethodName := ⟨"ChessRules$Reach", "along", "(IJJ)J"⟩
def wsRa_along : List Cond := Cond.code yRa_along cRa_along 11 (some .long) :: BIG
theorem dRa_along_0 : decode cRa_along 0 = .ok (.iload_n 0, 1) := by decide +kernel
theorem dRa_along_1 : decode cRa_along 1 = .ok (.ifCond .lt 9, 3) := by decide +kernel
theorem dRa_along_4 : decode cRa_along 4 = .ok (.iload_n 0, 1) := by decide +kernel
theorem dRa_along_5 : decode cRa_along 5 = .ok (.bipush 8, 2) := by decide +kernel
theorem dRa_along_7 : decode cRa_along 7 = .ok (.if_icmp .lt 5, 3) := by decide +kernel
theorem dRa_along_10 : decode cRa_along 10 = .ok (.lconst 0, 1) := by decide +kernel
theorem dRa_along_11 : decode cRa_along 11 = .ok (.lreturn, 1) := by decide +kernel
theorem dRa_along_12 : decode cRa_along 12 = .ok (.getstatic 21, 3) := by decide +kernel
theorem dRa_along_15 : decode cRa_along 15 = .ok (.iload_n 0, 1) := by decide +kernel
theorem dRa_along_16 : decode cRa_along 16 = .ok (.iaload, 1) := by decide +kernel
theorem dRa_along_17 : decode cRa_along 17 = .ok (.istore 5, 2) := by decide +kernel
theorem dRa_along_19 : decode cRa_along 19 = .ok (.lload_n 1, 1) := by decide +kernel
theorem dRa_along_20 : decode cRa_along 20 = .ok (.lstore 6, 2) := by decide +kernel
theorem dRa_along_22 : decode cRa_along 22 = .ok (.lconst 0, 1) := by decide +kernel
theorem dRa_along_23 : decode cRa_along 23 = .ok (.lstore 8, 2) := by decide +kernel
theorem dRa_along_25 : decode cRa_along 25 = .ok (.iconst 0, 1) := by decide +kernel
theorem dRa_along_26 : decode cRa_along 26 = .ok (.istore 10, 2) := by decide +kernel
theorem dRa_along_28 : decode cRa_along 28 = .ok (.iload 10, 2) := by decide +kernel
theorem dRa_along_30 : decode cRa_along 30 = .ok (.bipush 7, 2) := by decide +kernel
theorem dRa_along_32 : decode cRa_along 32 = .ok (.if_icmp .ge 60, 3) := by decide +kernel
theorem dRa_along_35 : decode cRa_along 35 = .ok (.lload 6, 2) := by decide +kernel
theorem dRa_along_37 : decode cRa_along 37 = .ok (.lconst 0, 1) := by decide +kernel
theorem dRa_along_38 : decode cRa_along 38 = .ok (.lcmp, 1) := by decide +kernel
theorem dRa_along_39 : decode cRa_along 39 = .ok (.ifCond .eq 53, 3) := by decide +kernel
theorem dRa_along_42 : decode cRa_along 42 = .ok (.lload 6, 2) := by decide +kernel
theorem dRa_along_44 : decode cRa_along 44 = .ok (.getstatic 25, 3) := by decide +kernel
theorem dRa_along_47 : decode cRa_along 47 = .ok (.iload_n 0, 1) := by decide +kernel
theorem dRa_along_48 : decode cRa_along 48 = .ok (.laload, 1) := by decide +kernel
theorem dRa_along_49 : decode cRa_along 49 = .ok (.land, 1) := by decide +kernel
theorem dRa_along_50 : decode cRa_along 50 = .ok (.lstore 6, 2) := by decide +kernel
theorem dRa_along_52 : decode cRa_along 52 = .ok (.iload 5, 2) := by decide +kernel
theorem dRa_along_54 : decode cRa_along 54 = .ok (.ifCond .le 11, 3) := by decide +kernel
theorem dRa_along_57 : decode cRa_along 57 = .ok (.lload 6, 2) := by decide +kernel
theorem dRa_along_59 : decode cRa_along 59 = .ok (.iload 5, 2) := by decide +kernel
theorem dRa_along_61 : decode cRa_along 61 = .ok (.lshl, 1) := by decide +kernel
theorem dRa_along_62 : decode cRa_along 62 = .ok (.goto 9, 3) := by decide +kernel
theorem dRa_along_65 : decode cRa_along 65 = .ok (.lload 6, 2) := by decide +kernel
theorem dRa_along_67 : decode cRa_along 67 = .ok (.iload 5, 2) := by decide +kernel
theorem dRa_along_69 : decode cRa_along 69 = .ok (.ineg, 1) := by decide +kernel
theorem dRa_along_70 : decode cRa_along 70 = .ok (.lushr, 1) := by decide +kernel
theorem dRa_along_71 : decode cRa_along 71 = .ok (.lstore 6, 2) := by decide +kernel
theorem dRa_along_73 : decode cRa_along 73 = .ok (.lload 8, 2) := by decide +kernel
theorem dRa_along_75 : decode cRa_along 75 = .ok (.lload 6, 2) := by decide +kernel
theorem dRa_along_77 : decode cRa_along 77 = .ok (.lor, 1) := by decide +kernel
theorem dRa_along_78 : decode cRa_along 78 = .ok (.lstore 8, 2) := by decide +kernel
theorem dRa_along_80 : decode cRa_along 80 = .ok (.lload 6, 2) := by decide +kernel
theorem dRa_along_82 : decode cRa_along 82 = .ok (.lload_n 3, 1) := by decide +kernel
theorem dRa_along_83 : decode cRa_along 83 = .ok (.land, 1) := by decide +kernel
theorem dRa_along_84 : decode cRa_along 84 = .ok (.lstore 6, 2) := by decide +kernel
theorem dRa_along_86 : decode cRa_along 86 = .ok (.iinc 10 1, 3) := by decide +kernel
theorem dRa_along_89 : decode cRa_along 89 = .ok (.goto (-61), 3) := by decide +kernel
theorem dRa_along_92 : decode cRa_along 92 = .ok (.lload 8, 2) := by decide +kernel
theorem dRa_along_94 : decode cRa_along 94 = .ok (.lreturn, 1) := by decide +kernel

def f_Ra_along_28 (direction : Int32) (fr : Int64) (empty : Int64) : Nat → Int64 → Int64 → Int32 → Int64
  | 0 => fun _ _ _ => 0
  | n_28 + 1 => fun v6_28 v8_28 v10_28 => (if 7 ≤ v10_28 then v8_28 else (if v6_28 = 0 then v8_28 else (if (tSHIFTS direction.toNatClampNeg) ≤ 0 then (f_Ra_along_28 direction fr empty n_28) ((ushr64 (v6_28 &&& (tSTARTS direction.toNatClampNeg)) (-(tSHIFTS direction.toNatClampNeg))) &&& empty) (v8_28 ||| (ushr64 (v6_28 &&& (tSTARTS direction.toNatClampNeg)) (-(tSHIFTS direction.toNatClampNeg)))) (v10_28 + 1) else (f_Ra_along_28 direction fr empty n_28) ((shl64 (v6_28 &&& (tSTARTS direction.toNatClampNeg)) (tSHIFTS direction.toNatClampNeg)) &&& empty) (v8_28 ||| (shl64 (v6_28 &&& (tSTARTS direction.toNatClampNeg)) (tSHIFTS direction.toNatClampNeg))) (v10_28 + 1))))
theorem f_Ra_along_28_eq (direction : Int32) (fr : Int64) (empty : Int64) (n_28 : Nat) (v6_28 : Int64) (v8_28 : Int64) (v10_28 : Int32) : f_Ra_along_28 direction fr empty (n_28 + 1) v6_28 v8_28 v10_28 =
  (if 7 ≤ v10_28 then v8_28 else (if v6_28 = 0 then v8_28 else (if (tSHIFTS direction.toNatClampNeg) ≤ 0 then (f_Ra_along_28 direction fr empty n_28) ((ushr64 (v6_28 &&& (tSTARTS direction.toNatClampNeg)) (-(tSHIFTS direction.toNatClampNeg))) &&& empty) (v8_28 ||| (ushr64 (v6_28 &&& (tSTARTS direction.toNatClampNeg)) (-(tSHIFTS direction.toNatClampNeg)))) (v10_28 + 1) else (f_Ra_along_28 direction fr empty n_28) ((shl64 (v6_28 &&& (tSTARTS direction.toNatClampNeg)) (tSHIFTS direction.toNatClampNeg)) &&& empty) (v8_28 ||| (shl64 (v6_28 &&& (tSTARTS direction.toNatClampNeg)) (tSHIFTS direction.toNatClampNeg))) (v10_28 + 1)))) := rfl

def f_Ra_along (direction : Int32) (fr : Int64) (empty : Int64) : Int64 :=
  (if direction < 0 then 0 else (if direction < 8 then f_Ra_along_28 direction fr empty (8) fr 0 0 else 0))
theorem f_Ra_along_eq (direction : Int32) (fr : Int64) (empty : Int64) : f_Ra_along direction fr empty =
  (if direction < 0 then 0 else (if direction < 8 then f_Ra_along_28 direction fr empty (8) fr 0 0 else 0)) := rfl

set_option maxHeartbeats 4000000 in
set_option maxRecDepth 100000 in
theorem c_Ra_along (l : Launch) (dC : Nat → ClassId) (dI : Nat → Nat → Nat) (cI cJ cC : ClassId) (ad : Nat → Nat) (direction : Int32) (fr : Int64) (empty : Int64) : Met l yRa_along wsRa_along { frames := 0, cells := 0, slots := 0, locals := 0 } (roP dC dI (TYS cI cJ cC) [.int direction, .long fr, .long empty] [] (GS ad)) (vp_Sl (fun r => r = f_Ra_along direction fr empty)) 0 0 (fun _ => False) := by
  refine Met.ofW (cc := cRa_along) (maxL := 11) (ret := (some .long)) (by decide) rfl ?_
  intro p e s m args below meth c s₁ B hml hv
  obtain ⟨rfl, hP, hK, hG⟩ := hv
  have hx := B.exec
  have hb := B.bytes
  have hr := B.returns
  have hB : ∀ w9 ∈ BIG, w9.before ([.int direction, .long fr, .long empty]).toArray s = true := fun w9 h => atoms_spec (ws := wsRa_along) B.pre w9 (List.mem_cons_of_mem _ h)
  have hown : s.vm.findClass "ChessRules$Reach" = some m.cls := findClass_of_methodNamed B.named
  have hlocks := B.notSynchronized
  have hS : va_S (fun _ => False) s.heap s.heap [] := va_S.rf
  have hP : va_P (dC, dI) vwCl [] s.heap := hP
  have hl := lv_entry ([.int direction, .long fr, .long empty]) (n := 11) (Nat.le_of_ble_eq_true rfl)
  rw [lg_entry_eq]
  generalize (lg_sl ([.int direction, .long fr, .long empty]) ++ List.replicate (11 - (lg_sl ([.int direction, .long fr, .long empty])).length) Slot.unset).toArray = ls at hl ⊢
  have hl : lv_has ls 11 [(0, .int direction), (1, .long fr), (3, .long empty)] := hl
  refine lv_iload_n hx hb dRa_along_0 rfl (lv_at hl 0 rfl) ?_
  refine lv_if_lt (tgt := 10) hx hb dRa_along_1 (by decide) (fun c_1 => ?_) (fun c_1 => ?_)
  · refine lv_lconst (v := 0) hx hb dRa_along_10 (by decide) ?_
    exact ro_retl hx hb hr hlocks dRa_along_11 (Eq.symm (by rw [f_Ra_along_eq, if_pos c_1] <;> rfl))
  · refine lv_iload_n hx hb dRa_along_4 rfl (lv_at hl 0 rfl) ?_
    refine lv_bipush (v := 8) hx hb dRa_along_5 (by decide) ?_
    refine lv_icmp_lt (tgt := 12) hx hb dRa_along_7 (by decide) (fun c_2 => ?_) (fun c_2 => ?_)
    · refine va_gets hx hb hG.2.1.1 hS hown (hB _ q2_154) (fun _ h9 => h9) dRa_along_12 ?_
      refine lv_iload_n hx hb dRa_along_15 rfl (lv_at hl 0 rfl) ?_
      refine va_ti (v := .int (tSHIFTS direction.toNatClampNeg)) hx hb hG.2.1.2.1 hS (vp_in_iff.mpr (by have z0 := tnl c_1; have z1 := tl c_2; have y0 : (0 : Int32).toInt = 0 := rfl; have y8 : (8 : Int32).toInt = 8 := rfl; omega)) rfl dRa_along_16 ?_
      refine lv_istore (lv' := [(5, .int (tSHIFTS direction.toNatClampNeg)), (0, .int direction), (1, .long fr), (3, .long empty)]) hx hb dRa_along_17 hl (by decide) rfl (fun ls hl => ?_)
      refine lv_lload_n hx hb dRa_along_19 rfl (lv_at hl 2 rfl) ?_
      refine lv_lstore (lv' := [(6, .long fr), (5, .int (tSHIFTS direction.toNatClampNeg)), (0, .int direction), (1, .long fr), (3, .long empty)]) hx hb dRa_along_20 hl (by decide) rfl (fun ls hl => ?_)
      refine lv_lconst (v := 0) hx hb dRa_along_22 (by decide) ?_
      refine lv_lstore (lv' := [(8, .long 0), (6, .long fr), (5, .int (tSHIFTS direction.toNatClampNeg)), (0, .int direction), (1, .long fr), (3, .long empty)]) hx hb dRa_along_23 hl (by decide) rfl (fun ls hl => ?_)
      refine lv_iconst (v := 0) hx hb dRa_along_25 (by decide) ?_
      refine lv_istore (lv' := [(10, .int 0), (8, .long 0), (6, .long fr), (5, .int (tSHIFTS direction.toNatClampNeg)), (0, .int direction), (1, .long fr), (3, .long empty)]) hx hb dRa_along_26 hl (by decide) rfl (fun ls hl => ?_)
      have J_28 : ∀ (n_28 : Nat) (v6_28 : Int64) (v8_28 : Int64) (v10_28 : Int32), f_Ra_along direction fr empty = f_Ra_along_28 direction fr empty n_28 v6_28 v8_28 v10_28 → ((0 : Int) ≤ v10_28.toInt ∧ (7 : Int32).toInt - v10_28.toInt + 1 ≤ (n_28 : Int) ∧ (1 : Int) ≤ (n_28 : Int)) → ∀ ls : Array Slot, lv_has ls 11 [(0, .int direction), (3, .long empty), (5, .int (tSHIFTS direction.toNatClampNeg)), (6, .long v6_28), (8, .long v8_28), (10, .int v10_28)] → W p l e (headSpec wsRa_along { frames := 0, cells := 0, slots := 0, locals := 0 }).room s m ([.int direction, .long fr, .long empty]).toArray below meth c s.heap [] 0 0 (MQ below (vp_Sl (fun r => r = f_Ra_along direction fr empty)) ([.int direction, .long fr, .long empty]).toArray s 0 0 (fun _ => False)) (F0 m 28 ls []) := by
        intro n_28
        induction n_28 with
        | zero => intro v6_28 v8_28 v10_28 _ hm_28; exact absurd hm_28 (by omega)
        | succ n_28 ih_28 =>
          intro v6_28 v8_28 v10_28 he_28 hm_28 ls hl
          refine lv_iload hx hb dRa_along_28 (lv_at hl 5 rfl) ?_
          refine lv_bipush (v := 7) hx hb dRa_along_30 (by decide) ?_
          refine lv_icmp_ge (tgt := 92) hx hb dRa_along_32 (by decide) (fun c_3 => ?_) (fun c_3 => ?_)
          · refine lv_lload hx hb dRa_along_92 (lv_at hl 4 rfl) ?_
            exact ro_retl hx hb hr hlocks dRa_along_94 (Eq.symm (he_28.trans (by rw [f_Ra_along_28_eq, if_pos c_3] <;> rfl)))
          · refine lv_lload hx hb dRa_along_35 (lv_at hl 3 rfl) ?_
            refine lv_lconst (v := 0) hx hb dRa_along_37 (by decide) ?_
            refine W.lcmp hx hb dRa_along_38 ?_
            refine lv_if_eq (tgt := 92) hx hb dRa_along_39 (by decide) (fun q => let_c (h := v6_28 = 0) (lgc_eq.1 q) (fun c_4 => ?_)) (fun q => let_c (h := ¬ v6_28 = 0) (lgc_eq.2 q) (fun c_4 => ?_))
            · refine lv_lload hx hb dRa_along_92 (lv_at hl 4 rfl) ?_
              exact ro_retl hx hb hr hlocks dRa_along_94 (Eq.symm (he_28.trans (by rw [f_Ra_along_28_eq, if_neg c_3, if_pos c_4] <;> rfl)))
            · refine lv_lload hx hb dRa_along_42 (lv_at hl 3 rfl) ?_
              refine va_gets hx hb hG.2.1.2.2.1 hS hown (hB _ q2_156) (fun _ h9 => h9) dRa_along_44 ?_
              refine lv_iload_n hx hb dRa_along_47 rfl (lv_at hl 0 rfl) ?_
              refine va_tl (v := .long (tSTARTS direction.toNatClampNeg)) hx hb hG.2.1.2.2.2.1 hS (vp_in_iff.mpr (by have z0 := tnl c_1; have z1 := tl c_2; have z3 := tnle c_3; have y0 : (0 : Int32).toInt = 0 := rfl; have y7 : (7 : Int32).toInt = 7 := rfl; have y8 : (8 : Int32).toInt = 8 := rfl; omega)) rfl dRa_along_48 ?_
              refine lv_land hx hb dRa_along_49 ?_
              refine lv_lstore (lv' := [(6, .long (v6_28 &&& (tSTARTS direction.toNatClampNeg))), (0, .int direction), (3, .long empty), (5, .int (tSHIFTS direction.toNatClampNeg)), (8, .long v8_28), (10, .int v10_28)]) hx hb dRa_along_50 hl (by decide) rfl (fun ls hl => ?_)
              refine lv_iload hx hb dRa_along_52 (lv_at hl 3 rfl) ?_
              refine lv_if_le (tgt := 65) hx hb dRa_along_54 (by decide) (fun c_5 => ?_) (fun c_5 => ?_)
              · refine lv_lload hx hb dRa_along_65 (lv_at hl 0 rfl) ?_
                refine lv_iload hx hb dRa_along_67 (lv_at hl 3 rfl) ?_
                refine lv_ineg hx hb dRa_along_69 ?_
                refine lv_lushr (v := ushr64 (v6_28 &&& (tSTARTS direction.toNatClampNeg)) (-(tSHIFTS direction.toNatClampNeg))) hx hb dRa_along_70 rfl ?_
                refine lv_lstore (lv' := [(6, .long (ushr64 (v6_28 &&& (tSTARTS direction.toNatClampNeg)) (-(tSHIFTS direction.toNatClampNeg)))), (0, .int direction), (3, .long empty), (5, .int (tSHIFTS direction.toNatClampNeg)), (8, .long v8_28), (10, .int v10_28)]) hx hb dRa_along_71 hl (by decide) rfl (fun ls hl => ?_)
                refine lv_lload hx hb dRa_along_73 (lv_at hl 4 rfl) ?_
                refine lv_lload hx hb dRa_along_75 (lv_at hl 0 rfl) ?_
                refine lv_lor hx hb dRa_along_77 ?_
                refine lv_lstore (lv' := [(8, .long (v8_28 ||| (ushr64 (v6_28 &&& (tSTARTS direction.toNatClampNeg)) (-(tSHIFTS direction.toNatClampNeg))))), (6, .long (ushr64 (v6_28 &&& (tSTARTS direction.toNatClampNeg)) (-(tSHIFTS direction.toNatClampNeg)))), (0, .int direction), (3, .long empty), (5, .int (tSHIFTS direction.toNatClampNeg)), (10, .int v10_28)]) hx hb dRa_along_78 hl (by decide) rfl (fun ls hl => ?_)
                refine lv_lload hx hb dRa_along_80 (lv_at hl 1 rfl) ?_
                refine lv_lload_n hx hb dRa_along_82 rfl (lv_at hl 3 rfl) ?_
                refine lv_land hx hb dRa_along_83 ?_
                refine lv_lstore (lv' := [(6, .long ((ushr64 (v6_28 &&& (tSTARTS direction.toNatClampNeg)) (-(tSHIFTS direction.toNatClampNeg))) &&& empty)), (8, .long (v8_28 ||| (ushr64 (v6_28 &&& (tSTARTS direction.toNatClampNeg)) (-(tSHIFTS direction.toNatClampNeg))))), (0, .int direction), (3, .long empty), (5, .int (tSHIFTS direction.toNatClampNeg)), (10, .int v10_28)]) hx hb dRa_along_84 hl (by decide) rfl (fun ls hl => ?_)
                refine lv_iinc (v := v10_28 + 1) (lv' := [(10, .int (v10_28 + 1)), (6, .long ((ushr64 (v6_28 &&& (tSTARTS direction.toNatClampNeg)) (-(tSHIFTS direction.toNatClampNeg))) &&& empty)), (8, .long (v8_28 ||| (ushr64 (v6_28 &&& (tSTARTS direction.toNatClampNeg)) (-(tSHIFTS direction.toNatClampNeg))))), (0, .int direction), (3, .long empty), (5, .int (tSHIFTS direction.toNatClampNeg))]) hx hb dRa_along_86 hl (k := 5) rfl rfl (by decide) rfl (fun ls hl => ?_)
                refine lv_goto (tgt := 28) hx hb dRa_along_89 (by decide) ?_
                exact ih_28 ((ushr64 (v6_28 &&& (tSTARTS direction.toNatClampNeg)) (-(tSHIFTS direction.toNatClampNeg))) &&& empty) (v8_28 ||| (ushr64 (v6_28 &&& (tSTARTS direction.toNatClampNeg)) (-(tSHIFTS direction.toNatClampNeg)))) (v10_28 + 1) (he_28.trans (by rw [f_Ra_along_28_eq, if_neg c_3, if_neg c_4, if_pos c_5] <;> rfl)) (by have z0 := tnl c_1; have z1 := tl c_2; have z3 := tnle c_3; have z5 := tle c_5; have y0 : (0 : Int32).toInt = 0 := rfl; have y7 : (7 : Int32).toInt = 7 := rfl; have y8 : (8 : Int32).toInt = 8 := rfl; have zr := i_rng (7 : Int32); have zs := i_succ9 v10_28 (by omega); omega) ls (lv_sub hl [3, 4, 5, 1, 2, 0] rfl)
              · refine lv_lload hx hb dRa_along_57 (lv_at hl 0 rfl) ?_
                refine lv_iload hx hb dRa_along_59 (lv_at hl 3 rfl) ?_
                refine lv_lshl (v := shl64 (v6_28 &&& (tSTARTS direction.toNatClampNeg)) (tSHIFTS direction.toNatClampNeg)) hx hb dRa_along_61 rfl ?_
                refine lv_goto (tgt := 71) hx hb dRa_along_62 (by decide) ?_
                refine lv_lstore (lv' := [(6, .long (shl64 (v6_28 &&& (tSTARTS direction.toNatClampNeg)) (tSHIFTS direction.toNatClampNeg))), (0, .int direction), (3, .long empty), (5, .int (tSHIFTS direction.toNatClampNeg)), (8, .long v8_28), (10, .int v10_28)]) hx hb dRa_along_71 hl (by decide) rfl (fun ls hl => ?_)
                refine lv_lload hx hb dRa_along_73 (lv_at hl 4 rfl) ?_
                refine lv_lload hx hb dRa_along_75 (lv_at hl 0 rfl) ?_
                refine lv_lor hx hb dRa_along_77 ?_
                refine lv_lstore (lv' := [(8, .long (v8_28 ||| (shl64 (v6_28 &&& (tSTARTS direction.toNatClampNeg)) (tSHIFTS direction.toNatClampNeg)))), (6, .long (shl64 (v6_28 &&& (tSTARTS direction.toNatClampNeg)) (tSHIFTS direction.toNatClampNeg))), (0, .int direction), (3, .long empty), (5, .int (tSHIFTS direction.toNatClampNeg)), (10, .int v10_28)]) hx hb dRa_along_78 hl (by decide) rfl (fun ls hl => ?_)
                refine lv_lload hx hb dRa_along_80 (lv_at hl 1 rfl) ?_
                refine lv_lload_n hx hb dRa_along_82 rfl (lv_at hl 3 rfl) ?_
                refine lv_land hx hb dRa_along_83 ?_
                refine lv_lstore (lv' := [(6, .long ((shl64 (v6_28 &&& (tSTARTS direction.toNatClampNeg)) (tSHIFTS direction.toNatClampNeg)) &&& empty)), (8, .long (v8_28 ||| (shl64 (v6_28 &&& (tSTARTS direction.toNatClampNeg)) (tSHIFTS direction.toNatClampNeg)))), (0, .int direction), (3, .long empty), (5, .int (tSHIFTS direction.toNatClampNeg)), (10, .int v10_28)]) hx hb dRa_along_84 hl (by decide) rfl (fun ls hl => ?_)
                refine lv_iinc (v := v10_28 + 1) (lv' := [(10, .int (v10_28 + 1)), (6, .long ((shl64 (v6_28 &&& (tSTARTS direction.toNatClampNeg)) (tSHIFTS direction.toNatClampNeg)) &&& empty)), (8, .long (v8_28 ||| (shl64 (v6_28 &&& (tSTARTS direction.toNatClampNeg)) (tSHIFTS direction.toNatClampNeg)))), (0, .int direction), (3, .long empty), (5, .int (tSHIFTS direction.toNatClampNeg))]) hx hb dRa_along_86 hl (k := 5) rfl rfl (by decide) rfl (fun ls hl => ?_)
                refine lv_goto (tgt := 28) hx hb dRa_along_89 (by decide) ?_
                exact ih_28 ((shl64 (v6_28 &&& (tSTARTS direction.toNatClampNeg)) (tSHIFTS direction.toNatClampNeg)) &&& empty) (v8_28 ||| (shl64 (v6_28 &&& (tSTARTS direction.toNatClampNeg)) (tSHIFTS direction.toNatClampNeg))) (v10_28 + 1) (he_28.trans (by rw [f_Ra_along_28_eq, if_neg c_3, if_neg c_4, if_neg c_5] <;> rfl)) (by have z0 := tnl c_1; have z1 := tl c_2; have z3 := tnle c_3; have z5 := tnle c_5; have y0 : (0 : Int32).toInt = 0 := rfl; have y7 : (7 : Int32).toInt = 7 := rfl; have y8 : (8 : Int32).toInt = 8 := rfl; have zr := i_rng (7 : Int32); have zs := i_succ9 v10_28 (by omega); omega) ls (lv_sub hl [3, 4, 5, 1, 2, 0] rfl)
      exact J_28 (8) fr 0 0 (by rw [f_Ra_along_eq, if_neg c_1, if_pos c_2] <;> rfl) (by decide) ls (lv_sub hl [4, 6, 3, 2, 1, 0] rfl)
    · refine lv_lconst (v := 0) hx hb dRa_along_10 (by decide) ?_
      exact ro_retl hx hb hr hlocks dRa_along_11 (Eq.symm (by rw [f_Ra_along_eq, if_neg c_1, if_neg c_2] <;> rfl))

abbrev cRa_byLines : ByteArray := prog_6_method_7_code
def yRa_byLines : MethodName := ⟨"ChessRules$Reach", "byLines", "(IJJ)J"⟩
def wsRa_byLines : List Cond := Cond.code yRa_byLines cRa_byLines 10 (some .long) :: BIG
theorem dRa_byLines_0 : decode cRa_byLines 0 = .ok (.iload_n 0, 1) := by decide +kernel
theorem dRa_byLines_1 : decode cRa_byLines 1 = .ok (.iconst 3, 1) := by decide +kernel
theorem dRa_byLines_2 : decode cRa_byLines 2 = .ok (.if_icmp .ne 7, 3) := by decide +kernel
theorem dRa_byLines_5 : decode cRa_byLines 5 = .ok (.iconst 4, 1) := by decide +kernel
theorem dRa_byLines_6 : decode cRa_byLines 6 = .ok (.goto 4, 3) := by decide +kernel
theorem dRa_byLines_9 : decode cRa_byLines 9 = .ok (.iconst 0, 1) := by decide +kernel
theorem dRa_byLines_10 : decode cRa_byLines 10 = .ok (.istore 5, 2) := by decide +kernel
theorem dRa_byLines_12 : decode cRa_byLines 12 = .ok (.iload_n 0, 1) := by decide +kernel
theorem dRa_byLines_13 : decode cRa_byLines 13 = .ok (.iconst 4, 1) := by decide +kernel
theorem dRa_byLines_14 : decode cRa_byLines 14 = .ok (.if_icmp .ne 7, 3) := by decide +kernel
theorem dRa_byLines_17 : decode cRa_byLines 17 = .ok (.iconst 4, 1) := by decide +kernel
theorem dRa_byLines_18 : decode cRa_byLines 18 = .ok (.goto 5, 3) := by decide +kernel
theorem dRa_byLines_21 : decode cRa_byLines 21 = .ok (.bipush 8, 2) := by decide +kernel
theorem dRa_byLines_23 : decode cRa_byLines 23 = .ok (.istore 6, 2) := by decide +kernel
theorem dRa_byLines_25 : decode cRa_byLines 25 = .ok (.lconst 0, 1) := by decide +kernel
theorem dRa_byLines_26 : decode cRa_byLines 26 = .ok (.lstore 7, 2) := by decide +kernel
theorem dRa_byLines_28 : decode cRa_byLines 28 = .ok (.iload 5, 2) := by decide +kernel
theorem dRa_byLines_30 : decode cRa_byLines 30 = .ok (.istore 9, 2) := by decide +kernel
theorem dRa_byLines_32 : decode cRa_byLines 32 = .ok (.iload 9, 2) := by decide +kernel
theorem dRa_byLines_34 : decode cRa_byLines 34 = .ok (.iload 6, 2) := by decide +kernel
theorem dRa_byLines_36 : decode cRa_byLines 36 = .ok (.if_icmp .ge 21, 3) := by decide +kernel
theorem dRa_byLines_39 : decode cRa_byLines 39 = .ok (.lload 7, 2) := by decide +kernel
theorem dRa_byLines_41 : decode cRa_byLines 41 = .ok (.iload 9, 2) := by decide +kernel
theorem dRa_byLines_43 : decode cRa_byLines 43 = .ok (.lload_n 1, 1) := by decide +kernel
theorem dRa_byLines_44 : decode cRa_byLines 44 = .ok (.lload_n 3, 1) := by decide +kernel
theorem dRa_byLines_45 : decode cRa_byLines 45 = .ok (.invokestatic 29, 3) := by decide +kernel
theorem dRa_byLines_48 : decode cRa_byLines 48 = .ok (.lor, 1) := by decide +kernel
theorem dRa_byLines_49 : decode cRa_byLines 49 = .ok (.lstore 7, 2) := by decide +kernel
theorem dRa_byLines_51 : decode cRa_byLines 51 = .ok (.iinc 9 1, 3) := by decide +kernel
theorem dRa_byLines_54 : decode cRa_byLines 54 = .ok (.goto (-22), 3) := by decide +kernel
theorem dRa_byLines_57 : decode cRa_byLines 57 = .ok (.lload 7, 2) := by decide +kernel
theorem dRa_byLines_59 : decode cRa_byLines 59 = .ok (.lreturn, 1) := by decide +kernel

def f_Ra_byLines_32 (kind : Int32) (fr : Int64) (empty : Int64) (k0_10 : Int32) (k0_23 : Int32) : Nat → Int64 → Int32 → Int64
  | 0 => fun _ _ => 0
  | n_32 + 1 => fun v7_32 v9_32 => (if k0_23 ≤ v9_32 then v7_32 else (f_Ra_byLines_32 kind fr empty k0_10 k0_23 n_32) (v7_32 ||| (f_Ra_along v9_32 fr empty)) (v9_32 + 1))
theorem f_Ra_byLines_32_eq (kind : Int32) (fr : Int64) (empty : Int64) (k0_10 : Int32) (k0_23 : Int32) (n_32 : Nat) (v7_32 : Int64) (v9_32 : Int32) : f_Ra_byLines_32 kind fr empty k0_10 k0_23 (n_32 + 1) v7_32 v9_32 =
  (if k0_23 ≤ v9_32 then v7_32 else (f_Ra_byLines_32 kind fr empty k0_10 k0_23 n_32) (v7_32 ||| (f_Ra_along v9_32 fr empty)) (v9_32 + 1)) := rfl

def f_Ra_byLines_23 (kind : Int32) (fr : Int64) (empty : Int64) (k0_10 : Int32) (k0_23 : Int32) : Int64 :=
  f_Ra_byLines_32 kind fr empty k0_10 k0_23 (((k0_23 : Int32).toInt - k0_10.toInt).toNat + 1) 0 k0_10
theorem f_Ra_byLines_23_eq (kind : Int32) (fr : Int64) (empty : Int64) (k0_10 : Int32) (k0_23 : Int32) : f_Ra_byLines_23 kind fr empty k0_10 k0_23 =
  f_Ra_byLines_32 kind fr empty k0_10 k0_23 (((k0_23 : Int32).toInt - k0_10.toInt).toNat + 1) 0 k0_10 := rfl

def f_Ra_byLines_10 (kind : Int32) (fr : Int64) (empty : Int64) (k0_10 : Int32) : Int64 :=
  (if kind = 4 then f_Ra_byLines_23 kind fr empty k0_10 4 else f_Ra_byLines_23 kind fr empty k0_10 8)
theorem f_Ra_byLines_10_eq (kind : Int32) (fr : Int64) (empty : Int64) (k0_10 : Int32) : f_Ra_byLines_10 kind fr empty k0_10 =
  (if kind = 4 then f_Ra_byLines_23 kind fr empty k0_10 4 else f_Ra_byLines_23 kind fr empty k0_10 8) := rfl

def f_Ra_byLines (kind : Int32) (fr : Int64) (empty : Int64) : Int64 :=
  (if kind = 3 then f_Ra_byLines_10 kind fr empty 4 else f_Ra_byLines_10 kind fr empty 0)
theorem f_Ra_byLines_eq (kind : Int32) (fr : Int64) (empty : Int64) : f_Ra_byLines kind fr empty =
  (if kind = 3 then f_Ra_byLines_10 kind fr empty 4 else f_Ra_byLines_10 kind fr empty 0) := rfl

set_option maxHeartbeats 4000000 in
set_option maxRecDepth 100000 in
theorem c_Ra_byLines (l : Launch) (dC : Nat → ClassId) (dI : Nat → Nat → Nat) (cI cJ cC : ClassId) (ad : Nat → Nat) (kind : Int32) (fr : Int64) (empty : Int64) : Met l yRa_byLines wsRa_byLines { frames := 1, cells := 0, slots := 0, locals := 30 } (roP dC dI (TYS cI cJ cC) [.int kind, .long fr, .long empty] [] (GS ad)) (vp_Sl (fun r => r = f_Ra_byLines kind fr empty)) 0 0 (fun _ => False) := by
  refine Met.ofW (cc := cRa_byLines) (maxL := 10) (ret := (some .long)) (by decide) rfl ?_
  intro p e s m args below meth c s₁ B hml hv
  obtain ⟨rfl, hP, hK, hG⟩ := hv
  have hx := B.exec
  have hb := B.bytes
  have hr := B.returns
  have hB : ∀ w9 ∈ BIG, w9.before ([.int kind, .long fr, .long empty]).toArray s = true := fun w9 h => atoms_spec (ws := wsRa_byLines) B.pre w9 (List.mem_cons_of_mem _ h)
  have hown : s.vm.findClass "ChessRules$Reach" = some m.cls := findClass_of_methodNamed B.named
  have hlocks := B.notSynchronized
  have hS : va_S (fun _ => False) s.heap s.heap [] := va_S.rf
  have hP : va_P (dC, dI) vwCl [] s.heap := hP
  have hl := lv_entry ([.int kind, .long fr, .long empty]) (n := 10) (Nat.le_of_ble_eq_true rfl)
  rw [lg_entry_eq]
  generalize (lg_sl ([.int kind, .long fr, .long empty]) ++ List.replicate (10 - (lg_sl ([.int kind, .long fr, .long empty])).length) Slot.unset).toArray = ls at hl ⊢
  have hl : lv_has ls 10 [(0, .int kind), (1, .long fr), (3, .long empty)] := hl
  refine lv_iload_n hx hb dRa_byLines_0 rfl (lv_at hl 0 rfl) ?_
  refine lv_iconst (v := 3) hx hb dRa_byLines_1 (by decide) ?_
  have J_10 : ∀ (k0_10 : Int32), f_Ra_byLines kind fr empty = f_Ra_byLines_10 kind fr empty k0_10 → ∀ ls : Array Slot, lv_has ls 10 [(0, .int kind), (1, .long fr), (3, .long empty)] → W p l e (headSpec wsRa_byLines { frames := 1, cells := 0, slots := 0, locals := 30 }).room s m ([.int kind, .long fr, .long empty]).toArray below meth c s.heap [] 0 0 (MQ below (vp_Sl (fun r => r = f_Ra_byLines kind fr empty)) ([.int kind, .long fr, .long empty]).toArray s 0 0 (fun _ => False)) (F0 m 10 ls [.int k0_10]) := by
    intro k0_10 he_10 ls hl
    refine lv_istore (lv' := [(5, .int k0_10), (0, .int kind), (1, .long fr), (3, .long empty)]) hx hb dRa_byLines_10 hl (by decide) rfl (fun ls hl => ?_)
    refine lv_iload_n hx hb dRa_byLines_12 rfl (lv_at hl 1 rfl) ?_
    refine lv_iconst (v := 4) hx hb dRa_byLines_13 (by decide) ?_
    have J_23 : ∀ (k0_23 : Int32), f_Ra_byLines kind fr empty = f_Ra_byLines_23 kind fr empty k0_10 k0_23 → ∀ ls : Array Slot, lv_has ls 10 [(1, .long fr), (3, .long empty), (5, .int k0_10)] → W p l e (headSpec wsRa_byLines { frames := 1, cells := 0, slots := 0, locals := 30 }).room s m ([.int kind, .long fr, .long empty]).toArray below meth c s.heap [] 0 0 (MQ below (vp_Sl (fun r => r = f_Ra_byLines kind fr empty)) ([.int kind, .long fr, .long empty]).toArray s 0 0 (fun _ => False)) (F0 m 23 ls [.int k0_23]) := by
      intro k0_23 he_23 ls hl
      refine lv_istore (lv' := [(6, .int k0_23), (1, .long fr), (3, .long empty), (5, .int k0_10)]) hx hb dRa_byLines_23 hl (by decide) rfl (fun ls hl => ?_)
      refine lv_lconst (v := 0) hx hb dRa_byLines_25 (by decide) ?_
      refine lv_lstore (lv' := [(7, .long 0), (6, .int k0_23), (1, .long fr), (3, .long empty), (5, .int k0_10)]) hx hb dRa_byLines_26 hl (by decide) rfl (fun ls hl => ?_)
      refine lv_iload hx hb dRa_byLines_28 (lv_at hl 4 rfl) ?_
      refine lv_istore (lv' := [(9, .int k0_10), (7, .long 0), (6, .int k0_23), (1, .long fr), (3, .long empty), (5, .int k0_10)]) hx hb dRa_byLines_30 hl (by decide) rfl (fun ls hl => ?_)
      have J_32 : ∀ (n_32 : Nat) (v7_32 : Int64) (v9_32 : Int32), f_Ra_byLines kind fr empty = f_Ra_byLines_32 kind fr empty k0_10 k0_23 n_32 v7_32 v9_32 → ((k0_23 : Int32).toInt - v9_32.toInt + 1 ≤ (n_32 : Int) ∧ (1 : Int) ≤ (n_32 : Int)) → ∀ ls : Array Slot, lv_has ls 10 [(1, .long fr), (3, .long empty), (6, .int k0_23), (7, .long v7_32), (9, .int v9_32)] → W p l e (headSpec wsRa_byLines { frames := 1, cells := 0, slots := 0, locals := 30 }).room s m ([.int kind, .long fr, .long empty]).toArray below meth c s.heap [] 0 0 (MQ below (vp_Sl (fun r => r = f_Ra_byLines kind fr empty)) ([.int kind, .long fr, .long empty]).toArray s 0 0 (fun _ => False)) (F0 m 32 ls []) := by
        intro n_32
        induction n_32 with
        | zero => intro v7_32 v9_32 _ hm_32; exact absurd hm_32 (by omega)
        | succ n_32 ih_32 =>
          intro v7_32 v9_32 he_32 hm_32 ls hl
          refine lv_iload hx hb dRa_byLines_32 (lv_at hl 4 rfl) ?_
          refine lv_iload hx hb dRa_byLines_34 (lv_at hl 2 rfl) ?_
          refine lv_icmp_ge (tgt := 57) hx hb dRa_byLines_36 (by decide) (fun c_1 => ?_) (fun c_1 => ?_)
          · refine lv_lload hx hb dRa_byLines_57 (lv_at hl 3 rfl) ?_
            exact ro_retl hx hb hr hlocks dRa_byLines_59 (Eq.symm (he_32.trans (by rw [f_Ra_byLines_32_eq, if_pos c_1] <;> rfl)))
          · refine lv_lload hx hb dRa_byLines_39 (lv_at hl 3 rfl) ?_
            refine lv_iload hx hb dRa_byLines_41 (lv_at hl 4 rfl) ?_
            refine lv_lload_n hx hb dRa_byLines_43 rfl (lv_at hl 0 rfl) ?_
            refine lv_lload_n hx hb dRa_byLines_44 rfl (lv_at hl 1 rfl) ?_
            refine ro_gol (va_runS (As := [.int v9_32, .long fr, .long empty]) (rest := [.long v7_32]) ⟨hx, hb, hml, hown, hB⟩ (c_Ra_along l dC dI cI cJ cC ad v9_32 fr empty) ⟨callB_of 3 hB (big_self q2_153) rfl rfl rfl (hB _ q1_14) (hB _ q3_111) (by decide +kernel) ⟨Nat.le_of_ble_eq_true rfl, Nat.le_of_ble_eq_true rfl⟩, (hB _ q2_152)⟩ (ro_preS (GS_ok ad) hK hP hG hS [] rfl) rfl rfl hl.1 rfl (lv_room (Nat.le_of_ble_eq_true rfl)) dRa_byLines_45 ⟨Nat.le_of_ble_eq_true rfl, Nat.le_of_ble_eq_true rfl⟩) ?_
            refine lv_lor hx hb dRa_byLines_48 ?_
            refine lv_lstore (lv' := [(7, .long (v7_32 ||| (f_Ra_along v9_32 fr empty))), (1, .long fr), (3, .long empty), (6, .int k0_23), (9, .int v9_32)]) hx hb dRa_byLines_49 hl (by decide) rfl (fun ls hl => ?_)
            refine lv_iinc (v := v9_32 + 1) (lv' := [(9, .int (v9_32 + 1)), (7, .long (v7_32 ||| (f_Ra_along v9_32 fr empty))), (1, .long fr), (3, .long empty), (6, .int k0_23)]) hx hb dRa_byLines_51 hl (k := 4) rfl rfl (by decide) rfl (fun ls hl => ?_)
            refine lv_goto (tgt := 32) hx hb dRa_byLines_54 (by decide) ?_
            exact ih_32 (v7_32 ||| (f_Ra_along v9_32 fr empty)) (v9_32 + 1) (he_32.trans (by rw [f_Ra_byLines_32_eq, if_neg c_1] <;> rfl)) (by have z1 := tnle c_1; have zr := i_rng (k0_23 : Int32); have zs := i_succ9 v9_32 (by omega); omega) ls (lv_sub hl [2, 3, 4, 1, 0] rfl)
      exact J_32 (((k0_23 : Int32).toInt - k0_10.toInt).toNat + 1) 0 k0_10 (he_23.trans (by rw [f_Ra_byLines_23_eq] <;> rfl)) (by have y0 : (0 : Int32).toInt = 0 := rfl; omega) ls (lv_sub hl [3, 4, 2, 1, 0] rfl)
    refine lv_icmp_ne (tgt := 21) hx hb dRa_byLines_14 (by decide) (fun c_2 => ?_) (fun c_2 => ?_)
    · refine lv_bipush (v := 8) hx hb dRa_byLines_21 (by decide) ?_
      exact J_23 8 (he_10.trans (by rw [f_Ra_byLines_10_eq, if_neg c_2] <;> rfl)) ls (lv_sub hl [2, 3, 0] rfl)
    · refine lv_iconst (v := 4) hx hb dRa_byLines_17 (by decide) ?_
      refine lv_goto (tgt := 23) hx hb dRa_byLines_18 (by decide) ?_
      exact J_23 4 (he_10.trans (by rw [f_Ra_byLines_10_eq, if_pos c_2] <;> rfl)) ls (lv_sub hl [2, 3, 0] rfl)
  refine lv_icmp_ne (tgt := 9) hx hb dRa_byLines_2 (by decide) (fun c_3 => ?_) (fun c_3 => ?_)
  · refine lv_iconst (v := 0) hx hb dRa_byLines_9 (by decide) ?_
    exact J_10 0 (by rw [f_Ra_byLines_eq, if_neg c_3] <;> rfl) ls (lv_sub hl [0, 1, 2] rfl)
  · refine lv_iconst (v := 4) hx hb dRa_byLines_5 (by decide) ?_
    refine lv_goto (tgt := 10) hx hb dRa_byLines_6 (by decide) ?_
    exact J_10 4 (by rw [f_Ra_byLines_eq, if_pos c_3] <;> rfl) ls (lv_sub hl [0, 1, 2] rfl)

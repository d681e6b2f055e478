abbrev cMo_kind : ByteArray := prog_11_method_3_code
def yMo_kind : MethodName := ⟨"ChessRulesModel", "kind", "(I)I"⟩
def wsMo_kind : List Cond := Cond.code yMo_kind cMo_kind 1 (some .int) :: BIG
theorem dMo_kind_0 : decode cMo_kind 0 = .ok (.iload_n 0, 1) := by decide +kernel
theorem dMo_kind_1 : decode cMo_kind 1 = .ok (.bipush 7, 2) := by decide +kernel
theorem dMo_kind_3 : decode cMo_kind 3 = .ok (.iand, 1) := by decide +kernel
theorem dMo_kind_4 : decode cMo_kind 4 = .ok (.ireturn, 1) := by decide +kernel

def f_Mo_kind (man : Int32) : Int32 :=
  man &&& 7
theorem f_Mo_kind_eq (man : Int32) : f_Mo_kind man =
  man &&& 7 := rfl

set_option maxHeartbeats 4000000 in
set_option maxRecDepth 100000 in
theorem c_Mo_kind (l : Launch) (dC : Nat → ClassId) (dI : Nat → Nat → Nat) (cI cJ cC : ClassId) (ad : Nat → Nat) (man : Int32) : Met l yMo_kind wsMo_kind { frames := 0, cells := 0, slots := 0, locals := 0 } (roP dC dI (TYS cI cJ cC) [.int man] [] (GS ad)) (vp_Si (fun r => r = f_Mo_kind man)) 0 0 (fun _ => False) := by
  refine Met.ofW (cc := cMo_kind) (maxL := 1) (ret := (some .int)) (by decide) rfl ?_
  intro p e s m args below meth c s₁ B hml hv
  obtain ⟨rfl, hP, hK, hG⟩ := hv
  have hx := B.exec
  have hb := B.bytes
  have hr := B.returns
  have hB : ∀ w9 ∈ BIG, w9.before ([.int man]).toArray s = true := fun w9 h => atoms_spec (ws := wsMo_kind) B.pre w9 (List.mem_cons_of_mem _ h)
  have hown : s.vm.findClass "ChessRulesModel" = some m.cls := findClass_of_methodNamed B.named
  have hlocks := B.notSynchronized
  have hS : va_S (fun _ => False) s.heap s.heap [] := va_S.rf
  have hP : va_P (dC, dI) vwCl [] s.heap := hP
  have hl := lv_entry ([.int man]) (n := 1) (Nat.le_of_ble_eq_true rfl)
  rw [lg_entry_eq]
  generalize (lg_sl ([.int man]) ++ List.replicate (1 - (lg_sl ([.int man])).length) Slot.unset).toArray = ls at hl ⊢
  have hl : lv_has ls 1 [(0, .int man)] := hl
  refine lv_iload_n hx hb dMo_kind_0 rfl (lv_at hl 0 rfl) ?_
  refine lv_bipush (v := 7) hx hb dMo_kind_1 (by decide) ?_
  refine lv_iand hx hb dMo_kind_3 ?_
  exact ro_reti hx hb hr hlocks dMo_kind_4 (Eq.symm (by rw [f_Mo_kind_eq] <;> rfl))

abbrev cMo_isOf : ByteArray := prog_11_method_4_code
def yMo_isOf : MethodName := ⟨"ChessRulesModel", "isOf", "(II)Z"⟩
def wsMo_isOf : List Cond := Cond.code yMo_isOf cMo_isOf 3 (some .boolean) :: BIG
theorem dMo_isOf_0 : decode cMo_isOf 0 = .ok (.aload_n 0, 1) := by decide +kernel
theorem dMo_isOf_1 : decode cMo_isOf 1 = .ok (.getfield 16, 3) := by decide +kernel
theorem dMo_isOf_4 : decode cMo_isOf 4 = .ok (.iload_n 1, 1) := by decide +kernel
theorem dMo_isOf_5 : decode cMo_isOf 5 = .ok (.iaload, 1) := by decide +kernel
theorem dMo_isOf_6 : decode cMo_isOf 6 = .ok (.ifCond .eq 19, 3) := by decide +kernel
theorem dMo_isOf_9 : decode cMo_isOf 9 = .ok (.aload_n 0, 1) := by decide +kernel
theorem dMo_isOf_10 : decode cMo_isOf 10 = .ok (.getfield 16, 3) := by decide +kernel
theorem dMo_isOf_13 : decode cMo_isOf 13 = .ok (.iload_n 1, 1) := by decide +kernel
theorem dMo_isOf_14 : decode cMo_isOf 14 = .ok (.iaload, 1) := by decide +kernel
theorem dMo_isOf_15 : decode cMo_isOf 15 = .ok (.iconst 3, 1) := by decide +kernel
theorem dMo_isOf_16 : decode cMo_isOf 16 = .ok (.ishr, 1) := by decide +kernel
theorem dMo_isOf_17 : decode cMo_isOf 17 = .ok (.iload_n 2, 1) := by decide +kernel
theorem dMo_isOf_18 : decode cMo_isOf 18 = .ok (.if_icmp .ne 7, 3) := by decide +kernel
theorem dMo_isOf_21 : decode cMo_isOf 21 = .ok (.iconst 1, 1) := by decide +kernel
theorem dMo_isOf_22 : decode cMo_isOf 22 = .ok (.goto 4, 3) := by decide +kernel
theorem dMo_isOf_25 : decode cMo_isOf 25 = .ok (.iconst 0, 1) := by decide +kernel
theorem dMo_isOf_26 : decode cMo_isOf 26 = .ok (.ireturn, 1) := by decide +kernel

def f_Mo_isOf (oS_men : Nat → Int32) (square : Int32) (sd : Int32) : Int32 :=
  (if (oS_men square.toNatClampNeg) = 0 then 0 else (if ((oS_men square.toNatClampNeg) >>> ((3 : Int32) &&& 31)) = sd then 1 else 0))
theorem f_Mo_isOf_eq (oS_men : Nat → Int32) (square : Int32) (sd : Int32) : f_Mo_isOf oS_men square sd =
  (if (oS_men square.toNatClampNeg) = 0 then 0 else (if ((oS_men square.toNatClampNeg) >>> ((3 : Int32) &&& 31)) = sd then 1 else 0)) := rfl

set_option maxHeartbeats 4000000 in
set_option maxRecDepth 100000 in
theorem c_Mo_isOf (l : Launch) (dC : Nat → ClassId) (dI : Nat → Nat → Nat) (cI cJ cC : ClassId) (ad : Nat → Nat) (o o_text o_out o_men o_pastMen o_pastSide o_pastRights o_pastPassed o_pastClock o_pastNumber o_pastTakes o_playedMoves o_keptMen o_keptRest o_lists o_counts : Nat) (oS_thrown : Int32) (oS_typed : Int32) (oS_text : Nat → Int32) (oS_told : Int32) (oS_out : Nat → Int32) (oS_men : Nat → Int32) (oS_side : Int32) (oS_rights : Int32) (oS_passed : Int32) (oS_clock : Int32) (oS_number : Int32) (oS_plies : Int32) (oS_pastMen : Nat → Int32) (oS_pastSide : Nat → Int32) (oS_pastRights : Nat → Int32) (oS_pastPassed : Nat → Int32) (oS_pastClock : Nat → Int32) (oS_pastNumber : Nat → Int32) (oS_pastTakes : Nat → Int64) (oS_playedMoves : Nat → Int32) (oS_keptMen : Nat → Int32) (oS_keptRest : Nat → Int32) (oS_lists : Nat → Int32) (oS_counts : Nat → Int32) (square : Int32) (sd : Int32) (hq : 0 ≤ square.toInt ∧ square.toInt < 64) : Met l yMo_isOf wsMo_isOf { frames := 0, cells := 0, slots := 0, locals := 0 } (roP dC dI (TYS cI cJ cC) [.ref o, .int square, .int sd] [(o, .inr (6, [.int oS_thrown, .int oS_typed, .ref o_text, .int oS_told, .ref o_out, .ref o_men, .int oS_side, .int oS_rights, .int oS_passed, .int oS_clock, .int oS_number, .int oS_plies, .ref o_pastMen, .ref o_pastSide, .ref o_pastRights, .ref o_pastPassed, .ref o_pastClock, .ref o_pastNumber, .ref o_pastTakes, .ref o_playedMoves, .ref o_keptMen, .ref o_keptRest, .ref o_lists, .ref o_counts])), (o_text, .inl (cC, 100, .inl oS_text)), (o_out, .inl (cC, 100, .inl oS_out)), (o_men, .inl (cI, 64, .inl oS_men)), (o_pastMen, .inl (cI, 25664, .inl oS_pastMen)), (o_pastSide, .inl (cI, 401, .inl oS_pastSide)), (o_pastRights, .inl (cI, 401, .inl oS_pastRights)), (o_pastPassed, .inl (cI, 401, .inl oS_pastPassed)), (o_pastClock, .inl (cI, 401, .inl oS_pastClock)), (o_pastNumber, .inl (cI, 401, .inl oS_pastNumber)), (o_pastTakes, .inl (cJ, 401, .inr (.inl oS_pastTakes))), (o_playedMoves, .inl (cI, 400, .inl oS_playedMoves)), (o_keptMen, .inl (cI, 384, .inl oS_keptMen)), (o_keptRest, .inl (cI, 30, .inl oS_keptRest)), (o_lists, .inl (cI, 8192, .inl oS_lists)), (o_counts, .inl (cI, 4, .inl oS_counts))] (GS ad)) (vp_Si (fun r => r = f_Mo_isOf oS_men square sd)) 0 0 (fun _ => False) := by
  refine Met.ofW (cc := cMo_isOf) (maxL := 3) (ret := (some .boolean)) (by decide) rfl ?_
  intro p e s m args below meth c s₁ B hml hv
  obtain ⟨rfl, hP, hK, hG⟩ := hv
  have hx := B.exec
  have hb := B.bytes
  have hr := B.returns
  have hB : ∀ w9 ∈ BIG, w9.before ([.ref o, .int square, .int sd]).toArray s = true := fun w9 h => atoms_spec (ws := wsMo_isOf) B.pre w9 (List.mem_cons_of_mem _ h)
  have hown : s.vm.findClass "ChessRulesModel" = some m.cls := findClass_of_methodNamed B.named
  have hlocks := B.notSynchronized
  have hS : va_S (fun _ => False) s.heap s.heap [] := va_S.rf
  have hP : va_P (dC, dI) vwCl [(o, .inr (6, [.int oS_thrown, .int oS_typed, .ref o_text, .int oS_told, .ref o_out, .ref o_men, .int oS_side, .int oS_rights, .int oS_passed, .int oS_clock, .int oS_number, .int oS_plies, .ref o_pastMen, .ref o_pastSide, .ref o_pastRights, .ref o_pastPassed, .ref o_pastClock, .ref o_pastNumber, .ref o_pastTakes, .ref o_playedMoves, .ref o_keptMen, .ref o_keptRest, .ref o_lists, .ref o_counts])), (o_text, .inl (cC, 100, .inl oS_text)), (o_out, .inl (cC, 100, .inl oS_out)), (o_men, .inl (cI, 64, .inl oS_men)), (o_pastMen, .inl (cI, 25664, .inl oS_pastMen)), (o_pastSide, .inl (cI, 401, .inl oS_pastSide)), (o_pastRights, .inl (cI, 401, .inl oS_pastRights)), (o_pastPassed, .inl (cI, 401, .inl oS_pastPassed)), (o_pastClock, .inl (cI, 401, .inl oS_pastClock)), (o_pastNumber, .inl (cI, 401, .inl oS_pastNumber)), (o_pastTakes, .inl (cJ, 401, .inr (.inl oS_pastTakes))), (o_playedMoves, .inl (cI, 400, .inl oS_playedMoves)), (o_keptMen, .inl (cI, 384, .inl oS_keptMen)), (o_keptRest, .inl (cI, 30, .inl oS_keptRest)), (o_lists, .inl (cI, 8192, .inl oS_lists)), (o_counts, .inl (cI, 4, .inl oS_counts))] s.heap := hP
  have hl := lv_entry ([.ref o, .int square, .int sd]) (n := 3) (Nat.le_of_ble_eq_true rfl)
  rw [lg_entry_eq]
  generalize (lg_sl ([.ref o, .int square, .int sd]) ++ List.replicate (3 - (lg_sl ([.ref o, .int square, .int sd])).length) Slot.unset).toArray = ls at hl ⊢
  have hl : lv_has ls 3 [(0, .ref o), (1, .int square), (2, .int sd)] := hl
  refine lv_aload_n hx hb dMo_isOf_0 rfl (lv_at hl 0 rfl) ?_
  refine va_get (D := (dC, dI)) (ci := 6) (v := .ref o_men) (C := RMo) (T := TMo) (N := 24) hx hb hB inMo hown hK hP 0 rfl rfl 5 (by decide) (hB _ q5_16) (fun _ h9 => h9) rfl dMo_isOf_1 ?_
  refine lv_iload_n hx hb dMo_isOf_4 rfl (lv_at hl 1 rfl) ?_
  refine va_iald hx hb hK hP 3 0 rfl rfl (vp_in_iff.mpr hq) dMo_isOf_5 ?_
  refine lv_if_eq (tgt := 25) hx hb dMo_isOf_6 (by decide) (fun c_1 => ?_) (fun c_1 => ?_)
  · refine lv_iconst (v := 0) hx hb dMo_isOf_25 (by decide) ?_
    exact ro_retz hx hb hr rfl hlocks dMo_isOf_26 (Eq.symm (by rw [f_Mo_isOf_eq, if_pos c_1] <;> rfl))
  · refine lv_aload_n hx hb dMo_isOf_9 rfl (lv_at hl 0 rfl) ?_
    refine va_get (D := (dC, dI)) (ci := 6) (v := .ref o_men) (C := RMo) (T := TMo) (N := 24) hx hb hB inMo hown hK hP 0 rfl rfl 5 (by decide) (hB _ q5_16) (fun _ h9 => h9) rfl dMo_isOf_10 ?_
    refine lv_iload_n hx hb dMo_isOf_13 rfl (lv_at hl 1 rfl) ?_
    refine va_iald hx hb hK hP 3 0 rfl rfl (vp_in_iff.mpr hq) dMo_isOf_14 ?_
    refine lv_iconst (v := 3) hx hb dMo_isOf_15 (by decide) ?_
    refine lv_ishr hx hb dMo_isOf_16 ?_
    refine lv_iload_n hx hb dMo_isOf_17 rfl (lv_at hl 2 rfl) ?_
    refine lv_icmp_ne (tgt := 25) hx hb dMo_isOf_18 (by decide) (fun c_2 => ?_) (fun c_2 => ?_)
    · refine lv_iconst (v := 0) hx hb dMo_isOf_25 (by decide) ?_
      exact ro_retz hx hb hr rfl hlocks dMo_isOf_26 (Eq.symm (by rw [f_Mo_isOf_eq, if_neg c_1, if_neg c_2] <;> rfl))
    · refine lv_iconst (v := 1) hx hb dMo_isOf_21 (by decide) ?_
      refine lv_goto (tgt := 26) hx hb dMo_isOf_22 (by decide) ?_
      exact ro_retz hx hb hr rfl hlocks dMo_isOf_26 (Eq.symm (by rw [f_Mo_isOf_eq, if_neg c_1, if_pos c_2] <;> rfl))

abbrev cMo_isOn : ByteArray := prog_11_method_5_code
def yMo_isOn : MethodName := ⟨"ChessRulesModel", "isOn", "(II)Z"⟩
def wsMo_isOn : List Cond := Cond.code yMo_isOn cMo_isOn 2 (some .boolean) :: BIG
theorem dMo_isOn_0 : decode cMo_isOn 0 = .ok (.iload_n 0, 1) := by decide +kernel
theorem dMo_isOn_1 : decode cMo_isOn 1 = .ok (.ifCond .lt 23, 3) := by decide +kernel
theorem dMo_isOn_4 : decode cMo_isOn 4 = .ok (.iload_n 0, 1) := by decide +kernel
theorem dMo_isOn_5 : decode cMo_isOn 5 = .ok (.bipush 8, 2) := by decide +kernel
theorem dMo_isOn_7 : decode cMo_isOn 7 = .ok (.if_icmp .ge 17, 3) := by decide +kernel
theorem dMo_isOn_10 : decode cMo_isOn 10 = .ok (.iload_n 1, 1) := by decide +kernel
theorem dMo_isOn_11 : decode cMo_isOn 11 = .ok (.ifCond .lt 13, 3) := by decide +kernel
theorem dMo_isOn_14 : decode cMo_isOn 14 = .ok (.iload_n 1, 1) := by decide +kernel
theorem dMo_isOn_15 : decode cMo_isOn 15 = .ok (.bipush 8, 2) := by decide +kernel
theorem dMo_isOn_17 : decode cMo_isOn 17 = .ok (.if_icmp .ge 7, 3) := by decide +kernel
theorem dMo_isOn_20 : decode cMo_isOn 20 = .ok (.iconst 1, 1) := by decide +kernel
theorem dMo_isOn_21 : decode cMo_isOn 21 = .ok (.goto 4, 3) := by decide +kernel
theorem dMo_isOn_24 : decode cMo_isOn 24 = .ok (.iconst 0, 1) := by decide +kernel
theorem dMo_isOn_25 : decode cMo_isOn 25 = .ok (.ireturn, 1) := by decide +kernel

def f_Mo_isOn (file : Int32) (rank : Int32) : Int32 :=
  (if file < 0 then 0 else (if 8 ≤ file then 0 else (if rank < 0 then 0 else (if 8 ≤ rank then 0 else 1))))
theorem f_Mo_isOn_eq (file : Int32) (rank : Int32) : f_Mo_isOn file rank =
  (if file < 0 then 0 else (if 8 ≤ file then 0 else (if rank < 0 then 0 else (if 8 ≤ rank then 0 else 1)))) := rfl

set_option maxHeartbeats 4000000 in
set_option maxRecDepth 100000 in
theorem c_Mo_isOn (l : Launch) (dC : Nat → ClassId) (dI : Nat → Nat → Nat) (cI cJ cC : ClassId) (ad : Nat → Nat) (file : Int32) (rank : Int32) : Met l yMo_isOn wsMo_isOn { frames := 0, cells := 0, slots := 0, locals := 0 } (roP dC dI (TYS cI cJ cC) [.int file, .int rank] [] (GS ad)) (vp_Si (fun r => r = f_Mo_isOn file rank)) 0 0 (fun _ => False) := by
  refine Met.ofW (cc := cMo_isOn) (maxL := 2) (ret := (some .boolean)) (by decide) rfl ?_
  intro p e s m args below meth c s₁ B hml hv
  obtain ⟨rfl, hP, hK, hG⟩ := hv
  have hx := B.exec
  have hb := B.bytes
  have hr := B.returns
  have hB : ∀ w9 ∈ BIG, w9.before ([.int file, .int rank]).toArray s = true := fun w9 h => atoms_spec (ws := wsMo_isOn) B.pre w9 (List.mem_cons_of_mem _ h)
  have hown : s.vm.findClass "ChessRulesModel" = some m.cls := findClass_of_methodNamed B.named
  have hlocks := B.notSynchronized
  have hS : va_S (fun _ => False) s.heap s.heap [] := va_S.rf
  have hP : va_P (dC, dI) vwCl [] s.heap := hP
  have hl := lv_entry ([.int file, .int rank]) (n := 2) (Nat.le_of_ble_eq_true rfl)
  rw [lg_entry_eq]
  generalize (lg_sl ([.int file, .int rank]) ++ List.replicate (2 - (lg_sl ([.int file, .int rank])).length) Slot.unset).toArray = ls at hl ⊢
  have hl : lv_has ls 2 [(0, .int file), (1, .int rank)] := hl
  refine lv_iload_n hx hb dMo_isOn_0 rfl (lv_at hl 0 rfl) ?_
  refine lv_if_lt (tgt := 24) hx hb dMo_isOn_1 (by decide) (fun c_1 => ?_) (fun c_1 => ?_)
  · refine lv_iconst (v := 0) hx hb dMo_isOn_24 (by decide) ?_
    exact ro_retz hx hb hr rfl hlocks dMo_isOn_25 (Eq.symm (by rw [f_Mo_isOn_eq, if_pos c_1] <;> rfl))
  · refine lv_iload_n hx hb dMo_isOn_4 rfl (lv_at hl 0 rfl) ?_
    refine lv_bipush (v := 8) hx hb dMo_isOn_5 (by decide) ?_
    refine lv_icmp_ge (tgt := 24) hx hb dMo_isOn_7 (by decide) (fun c_2 => ?_) (fun c_2 => ?_)
    · refine lv_iconst (v := 0) hx hb dMo_isOn_24 (by decide) ?_
      exact ro_retz hx hb hr rfl hlocks dMo_isOn_25 (Eq.symm (by rw [f_Mo_isOn_eq, if_neg c_1, if_pos c_2] <;> rfl))
    · refine lv_iload_n hx hb dMo_isOn_10 rfl (lv_at hl 1 rfl) ?_
      refine lv_if_lt (tgt := 24) hx hb dMo_isOn_11 (by decide) (fun c_3 => ?_) (fun c_3 => ?_)
      · refine lv_iconst (v := 0) hx hb dMo_isOn_24 (by decide) ?_
        exact ro_retz hx hb hr rfl hlocks dMo_isOn_25 (Eq.symm (by rw [f_Mo_isOn_eq, if_neg c_1, if_neg c_2, if_pos c_3] <;> rfl))
      · refine lv_iload_n hx hb dMo_isOn_14 rfl (lv_at hl 1 rfl) ?_
        refine lv_bipush (v := 8) hx hb dMo_isOn_15 (by decide) ?_
        refine lv_icmp_ge (tgt := 24) hx hb dMo_isOn_17 (by decide) (fun c_4 => ?_) (fun c_4 => ?_)
        · refine lv_iconst (v := 0) hx hb dMo_isOn_24 (by decide) ?_
          exact ro_retz hx hb hr rfl hlocks dMo_isOn_25 (Eq.symm (by rw [f_Mo_isOn_eq, if_neg c_1, if_neg c_2, if_neg c_3, if_pos c_4] <;> rfl))
        · refine lv_iconst (v := 1) hx hb dMo_isOn_20 (by decide) ?_
          refine lv_goto (tgt := 25) hx hb dMo_isOn_21 (by decide) ?_
          exact ro_retz hx hb hr rfl hlocks dMo_isOn_25 (Eq.symm (by rw [f_Mo_isOn_eq, if_neg c_1, if_neg c_2, if_neg c_3, if_neg c_4] <;> rfl))

abbrev cMo_step : ByteArray := prog_11_method_6_code
def yMo_step : MethodName := ⟨"ChessRulesModel", "step", "(III)I"⟩
def wsMo_step : List Cond := Cond.code yMo_step cMo_step 5 (some .int) :: BIG
theorem dMo_step_0 : decode cMo_step 0 = .ok (.iload_n 0, 1) := by decide +kernel
theorem dMo_step_1 : decode cMo_step 1 = .ok (.bipush 8, 2) := by decide +kernel
theorem dMo_step_3 : decode cMo_step 3 = .ok (.irem, 1) := by decide +kernel
theorem dMo_step_4 : decode cMo_step 4 = .ok (.iload_n 1, 1) := by decide +kernel
theorem dMo_step_5 : decode cMo_step 5 = .ok (.iadd, 1) := by decide +kernel
theorem dMo_step_6 : decode cMo_step 6 = .ok (.istore_n 3, 1) := by decide +kernel
theorem dMo_step_7 : decode cMo_step 7 = .ok (.iload_n 0, 1) := by decide +kernel
theorem dMo_step_8 : decode cMo_step 8 = .ok (.bipush 8, 2) := by decide +kernel
theorem dMo_step_10 : decode cMo_step 10 = .ok (.idiv, 1) := by decide +kernel
theorem dMo_step_11 : decode cMo_step 11 = .ok (.iload_n 2, 1) := by decide +kernel
theorem dMo_step_12 : decode cMo_step 12 = .ok (.iadd, 1) := by decide +kernel
theorem dMo_step_13 : decode cMo_step 13 = .ok (.istore 4, 2) := by decide +kernel
theorem dMo_step_15 : decode cMo_step 15 = .ok (.iload_n 3, 1) := by decide +kernel
theorem dMo_step_16 : decode cMo_step 16 = .ok (.iload 4, 2) := by decide +kernel
theorem dMo_step_18 : decode cMo_step 18 = .ok (.invokestatic 73, 3) := by decide +kernel
theorem dMo_step_21 : decode cMo_step 21 = .ok (.ifCond .eq 13, 3) := by decide +kernel
theorem dMo_step_24 : decode cMo_step 24 = .ok (.bipush 8, 2) := by decide +kernel
theorem dMo_step_26 : decode cMo_step 26 = .ok (.iload 4, 2) := by decide +kernel
theorem dMo_step_28 : decode cMo_step 28 = .ok (.imul, 1) := by decide +kernel
theorem dMo_step_29 : decode cMo_step 29 = .ok (.iload_n 3, 1) := by decide +kernel
theorem dMo_step_30 : decode cMo_step 30 = .ok (.iadd, 1) := by decide +kernel
theorem dMo_step_31 : decode cMo_step 31 = .ok (.goto 4, 3) := by decide +kernel
theorem dMo_step_34 : decode cMo_step 34 = .ok (.iconst (-1), 1) := by decide +kernel
theorem dMo_step_35 : decode cMo_step 35 = .ok (.ireturn, 1) := by decide +kernel

def f_Mo_step (square : Int32) (files : Int32) (ranks : Int32) : Int32 :=
  (if (f_Mo_isOn ((square - square / 8 * 8) + files) ((square / 8) + ranks)) = 0 then (-1) else (8 * ((square / 8) + ranks)) + ((square - square / 8 * 8) + files))
theorem f_Mo_step_eq (square : Int32) (files : Int32) (ranks : Int32) : f_Mo_step square files ranks =
  (if (f_Mo_isOn ((square - square / 8 * 8) + files) ((square / 8) + ranks)) = 0 then (-1) else (8 * ((square / 8) + ranks)) + ((square - square / 8 * 8) + files)) := rfl

set_option maxHeartbeats 4000000 in
set_option maxRecDepth 100000 in
theorem c_Mo_step (l : Launch) (dC : Nat → ClassId) (dI : Nat → Nat → Nat) (cI cJ cC : ClassId) (ad : Nat → Nat) (square : Int32) (files : Int32) (ranks : Int32) : Met l yMo_step wsMo_step { frames := 1, cells := 0, slots := 0, locals := 21 } (roP dC dI (TYS cI cJ cC) [.int square, .int files, .int ranks] [] (GS ad)) (vp_Si (fun r => r = f_Mo_step square files ranks)) 0 0 (fun _ => False) := by
  refine Met.ofW (cc := cMo_step) (maxL := 5) (ret := (some .int)) (by decide) rfl ?_
  intro p e s m args below meth c s₁ B hml hv
  obtain ⟨rfl, hP, hK, hG⟩ := hv
  have hx := B.exec
  have hb := B.bytes
  have hr := B.returns
  have hB : ∀ w9 ∈ BIG, w9.before ([.int square, .int files, .int ranks]).toArray s = true := fun w9 h => atoms_spec (ws := wsMo_step) B.pre w9 (List.mem_cons_of_mem _ h)
  have hown : s.vm.findClass "ChessRulesModel" = some m.cls := findClass_of_methodNamed B.named
  have hlocks := B.notSynchronized
  have hS : va_S (fun _ => False) s.heap s.heap [] := va_S.rf
  have hP : va_P (dC, dI) vwCl [] s.heap := hP
  have hl := lv_entry ([.int square, .int files, .int ranks]) (n := 5) (Nat.le_of_ble_eq_true rfl)
  rw [lg_entry_eq]
  generalize (lg_sl ([.int square, .int files, .int ranks]) ++ List.replicate (5 - (lg_sl ([.int square, .int files, .int ranks])).length) Slot.unset).toArray = ls at hl ⊢
  have hl : lv_has ls 5 [(0, .int square), (1, .int files), (2, .int ranks)] := hl
  refine lv_iload_n hx hb dMo_step_0 rfl (lv_at hl 0 rfl) ?_
  refine lv_bipush (v := 8) hx hb dMo_step_1 (by decide) ?_
  refine lv_irem hx hb dMo_step_3 (by decide) ?_
  refine lv_iload_n hx hb dMo_step_4 rfl (lv_at hl 1 rfl) ?_
  refine lv_iadd hx hb dMo_step_5 ?_
  refine lv_istore_n (lv' := [(3, .int ((square - square / 8 * 8) + files)), (0, .int square), (1, .int files), (2, .int ranks)]) hx hb dMo_step_6 rfl hl (by decide) rfl (fun ls hl => ?_)
  refine lv_iload_n hx hb dMo_step_7 rfl (lv_at hl 1 rfl) ?_
  refine lv_bipush (v := 8) hx hb dMo_step_8 (by decide) ?_
  refine lv_idiv hx hb dMo_step_10 (by decide) ?_
  refine lv_iload_n hx hb dMo_step_11 rfl (lv_at hl 3 rfl) ?_
  refine lv_iadd hx hb dMo_step_12 ?_
  refine lv_istore (lv' := [(4, .int ((square / 8) + ranks)), (3, .int ((square - square / 8 * 8) + files)), (0, .int square), (1, .int files), (2, .int ranks)]) hx hb dMo_step_13 hl (by decide) rfl (fun ls hl => ?_)
  refine lv_iload_n hx hb dMo_step_15 rfl (lv_at hl 1 rfl) ?_
  refine lv_iload hx hb dMo_step_16 (lv_at hl 0 rfl) ?_
  refine ro_goi (va_runS (As := [.int ((square - square / 8 * 8) + files), .int ((square / 8) + ranks)]) (rest := []) ⟨hx, hb, hml, hown, hB⟩ (c_Mo_isOn l dC dI cI cJ cC ad ((square - square / 8 * 8) + files) ((square / 8) + ranks)) ⟨callB_of 2 hB (big_self q4_208) rfl rfl rfl (hB _ q1_15) (hB _ q4_206) (by decide +kernel) ⟨Nat.le_of_ble_eq_true rfl, Nat.le_of_ble_eq_true rfl⟩, (hB _ q4_207)⟩ (ro_preS (GS_ok ad) hK hP hG hS [] rfl) rfl rfl hl.1 rfl (lv_room (Nat.le_of_ble_eq_true rfl)) dMo_step_18 ⟨Nat.le_of_ble_eq_true rfl, Nat.le_of_ble_eq_true rfl⟩) ?_
  refine lv_if_eq (tgt := 34) hx hb dMo_step_21 (by decide) (fun c_1 => ?_) (fun c_1 => ?_)
  · refine lv_iconst (v := (-1)) hx hb dMo_step_34 (by decide) ?_
    exact ro_reti hx hb hr hlocks dMo_step_35 (Eq.symm (by rw [f_Mo_step_eq, if_pos c_1] <;> rfl))
  · refine lv_bipush (v := 8) hx hb dMo_step_24 (by decide) ?_
    refine lv_iload hx hb dMo_step_26 (lv_at hl 0 rfl) ?_
    refine lv_imul hx hb dMo_step_28 ?_
    refine lv_iload_n hx hb dMo_step_29 rfl (lv_at hl 1 rfl) ?_
    refine lv_iadd hx hb dMo_step_30 ?_
    refine lv_goto (tgt := 35) hx hb dMo_step_31 (by decide) ?_
    exact ro_reti hx hb hr hlocks dMo_step_35 (Eq.symm (by rw [f_Mo_step_eq, if_neg c_1] <;> rfl))

abbrev cMo_bit : ByteArray := prog_11_method_7_code
def yMo_bit : MethodName := ⟨"ChessRulesModel", "bit", "(I)J"⟩
def wsMo_bit : List Cond := Cond.code yMo_bit cMo_bit 1 (some .long) :: BIG
theorem dMo_bit_0 : decode cMo_bit 0 = .ok (.iload_n 0, 1) := by decide +kernel
theorem dMo_bit_1 : decode cMo_bit 1 = .ok (.ifCond .ge 7, 3) := by decide +kernel
theorem dMo_bit_4 : decode cMo_bit 4 = .ok (.lconst 0, 1) := by decide +kernel
theorem dMo_bit_5 : decode cMo_bit 5 = .ok (.goto 6, 3) := by decide +kernel
theorem dMo_bit_8 : decode cMo_bit 8 = .ok (.lconst 1, 1) := by decide +kernel
theorem dMo_bit_9 : decode cMo_bit 9 = .ok (.iload_n 0, 1) := by decide +kernel
theorem dMo_bit_10 : decode cMo_bit 10 = .ok (.lshl, 1) := by decide +kernel
theorem dMo_bit_11 : decode cMo_bit 11 = .ok (.lreturn, 1) := by decide +kernel

def f_Mo_bit (square : Int32) : Int64 :=
  (if 0 ≤ square then shl64 1 square else 0)
theorem f_Mo_bit_eq (square : Int32) : f_Mo_bit square =
  (if 0 ≤ square then shl64 1 square else 0) := rfl

set_option maxHeartbeats 4000000 in
set_option maxRecDepth 100000 in
theorem c_Mo_bit (l : Launch) (dC : Nat → ClassId) (dI : Nat → Nat → Nat) (cI cJ cC : ClassId) (ad : Nat → Nat) (square : Int32) : Met l yMo_bit wsMo_bit { frames := 0, cells := 0, slots := 0, locals := 0 } (roP dC dI (TYS cI cJ cC) [.int square] [] (GS ad)) (vp_Sl (fun r => r = f_Mo_bit square)) 0 0 (fun _ => False) := by
  refine Met.ofW (cc := cMo_bit) (maxL := 1) (ret := (some .long)) (by decide) rfl ?_
  intro p e s m args below meth c s₁ B hml hv
  obtain ⟨rfl, hP, hK, hG⟩ := hv
  have hx := B.exec
  have hb := B.bytes
  have hr := B.returns
  have hB : ∀ w9 ∈ BIG, w9.before ([.int square]).toArray s = true := fun w9 h => atoms_spec (ws := wsMo_bit) B.pre w9 (List.mem_cons_of_mem _ h)
  have hown : s.vm.findClass "ChessRulesModel" = some m.cls := findClass_of_methodNamed B.named
  have hlocks := B.notSynchronized
  have hS : va_S (fun _ => False) s.heap s.heap [] := va_S.rf
  have hP : va_P (dC, dI) vwCl [] s.heap := hP
  have hl := lv_entry ([.int square]) (n := 1) (Nat.le_of_ble_eq_true rfl)
  rw [lg_entry_eq]
  generalize (lg_sl ([.int square]) ++ List.replicate (1 - (lg_sl ([.int square])).length) Slot.unset).toArray = ls at hl ⊢
  have hl : lv_has ls 1 [(0, .int square)] := hl
  refine lv_iload_n hx hb dMo_bit_0 rfl (lv_at hl 0 rfl) ?_
  refine lv_if_ge (tgt := 8) hx hb dMo_bit_1 (by decide) (fun c_1 => ?_) (fun c_1 => ?_)
  · refine lv_lconst (v := 1) hx hb dMo_bit_8 (by decide) ?_
    refine lv_iload_n hx hb dMo_bit_9 rfl (lv_at hl 0 rfl) ?_
    refine lv_lshl (v := shl64 1 square) hx hb dMo_bit_10 rfl ?_
    exact ro_retl hx hb hr hlocks dMo_bit_11 (Eq.symm (by rw [f_Mo_bit_eq, if_pos c_1] <;> rfl))
  · refine lv_lconst (v := 0) hx hb dMo_bit_4 (by decide) ?_
    refine lv_goto (tgt := 11) hx hb dMo_bit_5 (by decide) ?_
    exact ro_retl hx hb hr hlocks dMo_bit_11 (Eq.symm (by rw [f_Mo_bit_eq, if_neg c_1] <;> rfl))

/-- step's answer -/
theorem step_in (square files ranks : Int32) : f_Mo_step square files ranks = -1 ∨ (0 ≤ (f_Mo_step square files ranks).toInt ∧ (f_Mo_step square files ranks).toInt < 64) := by
  unfold f_Mo_step
  split
  · exact Or.inl rfl
  · rename_i h
    right
    have hon : 0 ≤ (square - square / 8 * 8 + files).toInt ∧ (square - square / 8 * 8 + files).toInt < 8 ∧ 0 ≤ (square / 8 + ranks).toInt ∧ (square / 8 + ranks).toInt < 8 := by
      generalize square - square / 8 * 8 + files = a at h ⊢
      generalize square / 8 + ranks = b at h ⊢
      unfold f_Mo_isOn at h
      have y0 : (0 : Int32).toInt = 0 := rfl
      have y8 : (8 : Int32).toInt = 8 := rfl
      split at h
      · exact absurd rfl h
      · split at h
        · exact absurd rfl h
        · split at h
          · exact absurd rfl h
          · split at h
            · exact absurd rfl h
            · rename_i h1 h2 h3 h4
              have := tnl h1; have := tnle h2; have := tnl h3; have := tnle h4
              omega
    generalize square - square / 8 * 8 + files = a at hon ⊢
    generalize square / 8 + ranks = b at hon ⊢
    have y8 : (8 : Int32).toInt = 8 := rfl
    have h6 : (8 * b).toInt = 8 * b.toInt := by rw [i_mul (by rw [y8]; omega) (by rw [y8]; omega), y8]
    have h7 : ((8 * b) + a).toInt = 8 * b.toInt + a.toInt := by rw [i_add (by omega) (by omega), h6]
    omega

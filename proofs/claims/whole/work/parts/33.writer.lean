abbrev cWr_tellEmpty : ByteArray := prog_9_method_5_code
def yWr_tellEmpty : MethodName := ⟨"ChessRules$Writer", "tellEmpty", "(ILChessRules$Line;)V"⟩
def wsWr_tellEmpty : List Cond := Cond.code yWr_tellEmpty cWr_tellEmpty 2 none :: BIG
theorem dWr_tellEmpty_0 : decode cWr_tellEmpty 0 = .ok (.iload_n 0, 1) := by decide +kernel
theorem dWr_tellEmpty_1 : decode cWr_tellEmpty 1 = .ok (.ifCond .le 11, 3) := by decide +kernel
theorem dWr_tellEmpty_4 : decode cWr_tellEmpty 4 = .ok (.aload_n 1, 1) := by decide +kernel
theorem dWr_tellEmpty_5 : decode cWr_tellEmpty 5 = .ok (.bipush 48, 2) := by decide +kernel
theorem dWr_tellEmpty_7 : decode cWr_tellEmpty 7 = .ok (.iload_n 0, 1) := by decide +kernel
theorem dWr_tellEmpty_8 : decode cWr_tellEmpty 8 = .ok (.iadd, 1) := by decide +kernel
theorem dWr_tellEmpty_9 : decode cWr_tellEmpty 9 = .ok (.invokevirtual 21, 3) := by decide +kernel
theorem dWr_tellEmpty_12 : decode cWr_tellEmpty 12 = .ok (.return_, 1) := by decide +kernel

def f_Wr_tellEmpty_r9 (yS_characters : Nat → Int32) (yS_length : Int32) (empty : Int32) (R_9 : ((Nat → Int32) × Int32)) : (Nat → Int32) × Int32 :=
  (R_9.1, R_9.2)
theorem f_Wr_tellEmpty_r9_eq (yS_characters : Nat → Int32) (yS_length : Int32) (empty : Int32) (R_9 : ((Nat → Int32) × Int32)) : f_Wr_tellEmpty_r9 yS_characters yS_length empty R_9 =
  (R_9.1, R_9.2) := rfl

def f_Wr_tellEmpty (yS_characters : Nat → Int32) (yS_length : Int32) (empty : Int32) : (Nat → Int32) × Int32 :=
  (if empty ≤ 0 then (yS_characters, yS_length) else f_Wr_tellEmpty_r9 yS_characters yS_length empty (f_Li_add yS_characters yS_length (48 + empty)))
theorem f_Wr_tellEmpty_eq (yS_characters : Nat → Int32) (yS_length : Int32) (empty : Int32) : f_Wr_tellEmpty yS_characters yS_length empty =
  (if empty ≤ 0 then (yS_characters, yS_length) else f_Wr_tellEmpty_r9 yS_characters yS_length empty (f_Li_add yS_characters yS_length (48 + empty))) := rfl

set_option maxHeartbeats 4000000 in
set_option maxRecDepth 100000 in
theorem c_Wr_tellEmpty (l : Launch) (dC : Nat → ClassId) (dI : Nat → Nat → Nat) (cI cJ cC : ClassId) (ad : Nat → Nat) (y y_characters : Nat) (sz : Nat) (yS_characters : Nat → Int32) (yS_length : Int32) (empty : Int32) : Met l yWr_tellEmpty wsWr_tellEmpty { frames := 1, cells := 0, slots := 0, locals := 21 } (rwP dC dI (TYS cI cJ cC) [.int empty, .ref y] [(y, .inr (2, [.ref y_characters, .int yS_length])), (y_characters, .inl (cC, 100, .inl yS_characters))] sz (GS ad)) (va_Qv (fun _ : Unit => True) (rwB dC dI (TYS cI cJ cC) [(y, .inr (2, [.ref y_characters, .int ((f_Wr_tellEmpty yS_characters yS_length empty).2)])), (y_characters, .inl (cC, 100, .inl ((f_Wr_tellEmpty yS_characters yS_length empty).1)))] (va_A [(y, .inr (2, [.ref y_characters, .int yS_length])), (y_characters, .inl (cC, 100, .inl yS_characters))] sz)) (va_A [(y, .inr (2, [.ref y_characters, .int yS_length])), (y_characters, .inl (cC, 100, .inl yS_characters))] sz)) 0 0 (va_A [(y, .inr (2, [.ref y_characters, .int yS_length])), (y_characters, .inl (cC, 100, .inl yS_characters))] sz) := by
  refine Met.ofW (cc := cWr_tellEmpty) (maxL := 2) (ret := none) (by decide) rfl ?_
  intro p e s m args below meth c s₁ B hml hv
  obtain ⟨rfl, hsz, hP, hK, hD0, hG⟩ := hv
  have hx := B.exec
  have hb := B.bytes
  have hr := B.returns
  have hB : ∀ w9 ∈ BIG, w9.before ([.int empty, .ref y]).toArray s = true := fun w9 h => atoms_spec (ws := wsWr_tellEmpty) B.pre w9 (List.mem_cons_of_mem _ h)
  have hown : s.vm.findClass "ChessRules$Writer" = some m.cls := findClass_of_methodNamed B.named
  have hlocks := B.notSynchronized
  subst hsz
  have hD := hD0.self (sz := s.heap.size)
  generalize hAe : va_A [(y, .inr (2, [.ref y_characters, .int yS_length])), (y_characters, .inl (cC, 100, .inl yS_characters))] s.heap.size = A at hD hG ⊢
  have hA : ∀ q : Nat, s.heap.size ≤ q → A q := fun q h => by rw [← hAe]; exact Or.inr h
  have hS : va_S A s.heap s.heap [] := va_S.rf
  have hP : va_P (dC, dI) vwCl [(y, .inr (2, [.ref y_characters, .int yS_length])), (y_characters, .inl (cC, 100, .inl yS_characters))] s.heap := hP
  have hl := lv_entry ([.int empty, .ref y]) (n := 2) (Nat.le_of_ble_eq_true rfl)
  rw [lg_entry_eq]
  generalize (lg_sl ([.int empty, .ref y]) ++ List.replicate (2 - (lg_sl ([.int empty, .ref y])).length) Slot.unset).toArray = ls at hl ⊢
  have hl : lv_has ls 2 [(0, .int empty), (1, .ref y)] := hl
  refine lv_iload_n hx hb dWr_tellEmpty_0 rfl (lv_at hl 0 rfl) ?_
  refine lv_if_le (tgt := 12) hx hb dWr_tellEmpty_1 (by decide) (fun c_1 => ?_) (fun c_1 => ?_)
  · have hv : f_Wr_tellEmpty yS_characters yS_length empty = (yS_characters, yS_length) := (by rw [f_Wr_tellEmpty_eq, if_pos c_1] <;> rfl)
    have hP9 : va_P (dC, dI) vwCl [(y, .inr (2, [.ref y_characters, .int ((f_Wr_tellEmpty yS_characters yS_length empty).2)])), (y_characters, .inl (cC, 100, .inl ((f_Wr_tellEmpty yS_characters yS_length empty).1)))] s.heap := by first | (rw [hv]; exact hP.sub [0, 1] rfl) | exact hP.sub [0, 1] rfl
    have hD9 : va_D A [(y, .inr (2, [.ref y_characters, .int ((f_Wr_tellEmpty yS_characters yS_length empty).2)])), (y_characters, .inl (cC, 100, .inl ((f_Wr_tellEmpty yS_characters yS_length empty).1)))] := by first | (rw [hv]; exact hD.sub [0, 1] (by decide) rfl) | exact hD.sub [0, 1] (by decide) rfl
    exact rw_retv hx hb hr hlocks hK hP9 hD9 hS dWr_tellEmpty_12
  · refine lv_aload_n hx hb dWr_tellEmpty_4 rfl (lv_at hl 1 rfl) ?_
    refine lv_bipush (v := 48) hx hb dWr_tellEmpty_5 (by decide) ?_
    refine lv_iload_n hx hb dWr_tellEmpty_7 rfl (lv_at hl 0 rfl) ?_
    refine lv_iadd hx hb dWr_tellEmpty_8 ?_
    obtain ⟨R_9, hR_9⟩ : ∃ R9, R9 = f_Li_add yS_characters yS_length (48 + empty) := ⟨_, rfl⟩
    have hM_9 := (c_Li_add l dC dI cI cJ cC ad y y_characters s.heap.size yS_characters yS_length (48 + empty))
    rw [← hR_9] at hM_9
    refine rw_gov (wr := []) (va_runVN (C := "ChessRules$Line") (As := [.int (48 + empty)]) (rest := []) ⟨hx, hb, hml, hown, hB⟩ hM_9 ⟨va_cnB 1 hB (big_self q1_216) rfl rfl rfl (hG.1 _ q3_44) (hB _ q1_3) (by decide +kernel) ⟨Nat.le_of_ble_eq_true rfl, Nat.le_of_ble_eq_true rfl⟩, (hB _ q1_215), (hB _ qs1_0)⟩ (rw_preV (GS_ok ad) hK hP hD hA hG hS [0, 1] (by decide) rfl rfl (va_recv hK hP (ci := 2) (q0 := 0) rfl rfl)) rfl rfl hl.1 rfl (lv_room (Nat.le_of_ble_eq_true rfl)) dWr_tellEmpty_9 ⟨Nat.le_of_ble_eq_true rfl, Nat.le_of_ble_eq_true rfl⟩) hP hD hS hA [0, 1] [] rfl rfl (by decide) (by decide) (fun H locs hP hD hS => ?_)
    have hP : va_P (dC, dI) vwCl [(y, .inr (2, [.ref y_characters, .int R_9.2])), (y_characters, .inl (cC, 100, .inl R_9.1))] H := hP
    have hD : va_D A [(y, .inr (2, [.ref y_characters, .int R_9.2])), (y_characters, .inl (cC, 100, .inl R_9.1))] := hD
    have he_r9 : f_Wr_tellEmpty yS_characters yS_length empty = f_Wr_tellEmpty_r9 yS_characters yS_length empty R_9 := (by rw [f_Wr_tellEmpty_eq, if_neg c_1, ← hR_9] <;> rfl)
    have hv : f_Wr_tellEmpty yS_characters yS_length empty = (R_9.1, R_9.2) := (he_r9.trans (by rw [f_Wr_tellEmpty_r9_eq] <;> rfl))
    have hP9 : va_P (dC, dI) vwCl [(y, .inr (2, [.ref y_characters, .int ((f_Wr_tellEmpty yS_characters yS_length empty).2)])), (y_characters, .inl (cC, 100, .inl ((f_Wr_tellEmpty yS_characters yS_length empty).1)))] H := by first | (rw [hv]; exact hP.sub [0, 1] rfl) | exact hP.sub [0, 1] rfl
    have hD9 : va_D A [(y, .inr (2, [.ref y_characters, .int ((f_Wr_tellEmpty yS_characters yS_length empty).2)])), (y_characters, .inl (cC, 100, .inl ((f_Wr_tellEmpty yS_characters yS_length empty).1)))] := by first | (rw [hv]; exact hD.sub [0, 1] (by decide) rfl) | exact hD.sub [0, 1] (by decide) rfl
    exact rw_retv hx hb hr hlocks hK hP9 hD9 hS dWr_tellEmpty_12

abbrev cWr_letterOf : ByteArray := prog_9_method_6_code
def yWr_letterOf : MethodName := ⟨"ChessRules$Writer", "letterOf", "(I)I"⟩
def wsWr_letterOf : List Cond := Cond.code yWr_letterOf cWr_letterOf 1 (some .int) :: BIG
theorem dWr_letterOf_0 : decode cWr_letterOf 0 = .ok (.iload_n 0, 1) := by decide +kernel
theorem dWr_letterOf_1 : decode cWr_letterOf 1 = .ok (.ifCond .lt 21, 3) := by decide +kernel
theorem dWr_letterOf_4 : decode cWr_letterOf 4 = .ok (.iload_n 0, 1) := by decide +kernel
theorem dWr_letterOf_5 : decode cWr_letterOf 5 = .ok (.ldc 72, 2) := by decide +kernel
theorem dWr_letterOf_7 : decode cWr_letterOf 7 = .ok (.invokevirtual 74, 3) := by decide +kernel
theorem dWr_letterOf_10 : decode cWr_letterOf 10 = .ok (.if_icmp .ge 12, 3) := by decide +kernel
theorem dWr_letterOf_13 : decode cWr_letterOf 13 = .ok (.ldc 72, 2) := by decide +kernel
theorem dWr_letterOf_15 : decode cWr_letterOf 15 = .ok (.iload_n 0, 1) := by decide +kernel
theorem dWr_letterOf_16 : decode cWr_letterOf 16 = .ok (.invokevirtual 80, 3) := by decide +kernel
theorem dWr_letterOf_19 : decode cWr_letterOf 19 = .ok (.goto 5, 3) := by decide +kernel
theorem dWr_letterOf_22 : decode cWr_letterOf 22 = .ok (.bipush 32, 2) := by decide +kernel
theorem dWr_letterOf_24 : decode cWr_letterOf 24 = .ok (.ireturn, 1) := by decide +kernel

def f_Wr_letterOf (man : Int32) : Int32 :=
  (if man < 0 then 32 else (if (f_Js_length 15 tMEN) ≤ man then 32 else f_Js_charAt 15 tMEN man))
theorem f_Wr_letterOf_eq (man : Int32) : f_Wr_letterOf man =
  (if man < 0 then 32 else (if (f_Js_length 15 tMEN) ≤ man then 32 else f_Js_charAt 15 tMEN man)) := rfl

set_option maxHeartbeats 4000000 in
set_option maxRecDepth 100000 in
theorem c_Wr_letterOf (l : Launch) (dC : Nat → ClassId) (dI : Nat → Nat → Nat) (cI cJ cC : ClassId) (ad : Nat → Nat) (man : Int32) : Met l yWr_letterOf wsWr_letterOf { frames := 4, cells := 0, slots := 0, locals := 85 } (roP dC dI (TYS cI cJ cC) [.int man] [] (GS ad)) (vp_Si (fun r => r = f_Wr_letterOf man)) 0 0 (fun _ => False) := by
  refine Met.ofW (cc := cWr_letterOf) (maxL := 1) (ret := (some .int)) (by decide) rfl ?_
  intro p e s m args below meth c s₁ B hml hv
  obtain ⟨rfl, hP, hK, hG⟩ := hv
  have hx := B.exec
  have hb := B.bytes
  have hr := B.returns
  have hB : ∀ w9 ∈ BIG, w9.before ([.int man]).toArray s = true := fun w9 h => atoms_spec (ws := wsWr_letterOf) B.pre w9 (List.mem_cons_of_mem _ h)
  have hown : s.vm.findClass "ChessRules$Writer" = some m.cls := findClass_of_methodNamed B.named
  have hlocks := B.notSynchronized
  have hS : va_S (fun _ => False) s.heap s.heap [] := va_S.rf
  have hP : va_P (dC, dI) vwCl [] s.heap := hP
  have hl := lv_entry ([.int man]) (n := 1) (Nat.le_of_ble_eq_true rfl)
  rw [lg_entry_eq]
  generalize (lg_sl ([.int man]) ++ List.replicate (1 - (lg_sl ([.int man])).length) Slot.unset).toArray = ls at hl ⊢
  have hl : lv_has ls 1 [(0, .int man)] := hl
  refine lv_iload_n hx hb dWr_letterOf_0 rfl (lv_at hl 0 rfl) ?_
  refine lv_if_lt (tgt := 22) hx hb dWr_letterOf_1 (by decide) (fun c_1 => ?_) (fun c_1 => ?_)
  · refine lv_bipush (v := 32) hx hb dWr_letterOf_22 (by decide) ?_
    exact ro_reti hx hb hr hlocks dWr_letterOf_24 (Eq.symm (by rw [f_Wr_letterOf_eq, if_pos c_1] <;> rfl))
  · refine lv_iload_n hx hb dWr_letterOf_4 rfl (lv_at hl 0 rfl) ?_
    refine va_ldcS hx hb hown hG.2.2.1.2.2.2.2.1 dWr_letterOf_5 ?_
    refine ro_goi (va_runV (C := "java/lang/String") (As := []) (rest := [.int man]) ⟨hx, hb, hml, hown, hB⟩ (c_Js_length l dC dI cI cJ cC ad (ad 12) (ad 13) 15 tMEN (gs_men ad)) ⟨callB_of 0 hB (big_self q1_168) rfl rfl rfl (hB _ q1_7) (hB _ q3_49) (by decide +kernel) ⟨Nat.le_of_ble_eq_true rfl, Nat.le_of_ble_eq_true rfl⟩, (hB _ q1_166), (hB _ q1_167)⟩ (ro_preV (GS_ok ad) hK hP hG hS [] rfl (gs_recv hS ((gs_men ad) _ _ _ hG))) rfl rfl hl.1 rfl (lv_room (Nat.le_of_ble_eq_true rfl)) dWr_letterOf_7 ⟨Nat.le_of_ble_eq_true rfl, Nat.le_of_ble_eq_true rfl⟩) ?_
    refine lv_icmp_ge (tgt := 22) hx hb dWr_letterOf_10 (by decide) (fun c_2 => ?_) (fun c_2 => ?_)
    · refine lv_bipush (v := 32) hx hb dWr_letterOf_22 (by decide) ?_
      exact ro_reti hx hb hr hlocks dWr_letterOf_24 (Eq.symm (by rw [f_Wr_letterOf_eq, if_neg c_1, if_pos c_2] <;> rfl))
    · refine va_ldcS hx hb hown hG.2.2.1.2.2.2.2.1 dWr_letterOf_13 ?_
      refine lv_iload_n hx hb dWr_letterOf_15 rfl (lv_at hl 0 rfl) ?_
      refine ro_goi (va_runV (C := "java/lang/String") (As := [.int man]) (rest := []) ⟨hx, hb, hml, hown, hB⟩ (c_Js_charAt l dC dI cI cJ cC ad (ad 12) (ad 13) 15 tMEN man (gs_men ad) (by have z0 := tnl c_1; have z1 := tnle c_2; have y0 : (0 : Int32).toInt = 0 := rfl; have y15 : (15 : Int32).toInt = 15 := rfl; have yb : (f_Js_length 15 tMEN).toInt = 15 := (by decide); omega) (by decide)) ⟨callB_of 1 hB (big_self q1_178) rfl rfl rfl (hB _ q1_7) (hB _ q3_50) (by decide +kernel) ⟨Nat.le_of_ble_eq_true rfl, Nat.le_of_ble_eq_true rfl⟩, (hB _ q1_176), (hB _ q1_177)⟩ (ro_preV (GS_ok ad) hK hP hG hS [] rfl (gs_recv hS ((gs_men ad) _ _ _ hG))) rfl rfl hl.1 rfl (lv_room (Nat.le_of_ble_eq_true rfl)) dWr_letterOf_16 ⟨Nat.le_of_ble_eq_true rfl, Nat.le_of_ble_eq_true rfl⟩) ?_
      refine lv_goto (tgt := 24) hx hb dWr_letterOf_19 (by decide) ?_
      exact ro_reti hx hb hr hlocks dWr_letterOf_24 (Eq.symm (by rw [f_Wr_letterOf_eq, if_neg c_1, if_neg c_2] <;> rfl))

abbrev cWr_tellRank : ByteArray := prog_9_method_4_code
def yWr_tellRank : MethodName := ⟨"ChessRules$Writer", "tellRank", "(LChessRules$Position;ILChessRules$Line;)V"⟩
def wsWr_tellRank : List Cond := Cond.code yWr_tellRank cWr_tellRank 6 none :: BIG
theorem dWr_tellRank_0 : decode cWr_tellRank 0 = .ok (.iconst 0, 1) := by decide +kernel
theorem dWr_tellRank_1 : decode cWr_tellRank 1 = .ok (.istore_n 3, 1) := by decide +kernel
theorem dWr_tellRank_2 : decode cWr_tellRank 2 = .ok (.iconst 0, 1) := by decide +kernel
theorem dWr_tellRank_3 : decode cWr_tellRank 3 = .ok (.istore 4, 2) := by decide +kernel
theorem dWr_tellRank_5 : decode cWr_tellRank 5 = .ok (.iload 4, 2) := by decide +kernel
theorem dWr_tellRank_7 : decode cWr_tellRank 7 = .ok (.bipush 8, 2) := by decide +kernel
theorem dWr_tellRank_9 : decode cWr_tellRank 9 = .ok (.if_icmp .ge 52, 3) := by decide +kernel
theorem dWr_tellRank_12 : decode cWr_tellRank 12 = .ok (.aload_n 0, 1) := by decide +kernel
theorem dWr_tellRank_13 : decode cWr_tellRank 13 = .ok (.getfield 56, 3) := by decide +kernel
theorem dWr_tellRank_16 : decode cWr_tellRank 16 = .ok (.iload 4, 2) := by decide +kernel
theorem dWr_tellRank_18 : decode cWr_tellRank 18 = .ok (.bipush 8, 2) := by decide +kernel
theorem dWr_tellRank_20 : decode cWr_tellRank 20 = .ok (.iload_n 1, 1) := by decide +kernel
theorem dWr_tellRank_21 : decode cWr_tellRank 21 = .ok (.imul, 1) := by decide +kernel
theorem dWr_tellRank_22 : decode cWr_tellRank 22 = .ok (.iadd, 1) := by decide +kernel
theorem dWr_tellRank_23 : decode cWr_tellRank 23 = .ok (.invokevirtual 60, 3) := by decide +kernel
theorem dWr_tellRank_26 : decode cWr_tellRank 26 = .ok (.istore 5, 2) := by decide +kernel
theorem dWr_tellRank_28 : decode cWr_tellRank 28 = .ok (.iload 5, 2) := by decide +kernel
theorem dWr_tellRank_30 : decode cWr_tellRank 30 = .ok (.ifCond .ne 9, 3) := by decide +kernel
theorem dWr_tellRank_33 : decode cWr_tellRank 33 = .ok (.iinc 3 1, 3) := by decide +kernel
theorem dWr_tellRank_36 : decode cWr_tellRank 36 = .ok (.goto 19, 3) := by decide +kernel
theorem dWr_tellRank_39 : decode cWr_tellRank 39 = .ok (.iload_n 3, 1) := by decide +kernel
theorem dWr_tellRank_40 : decode cWr_tellRank 40 = .ok (.aload_n 2, 1) := by decide +kernel
theorem dWr_tellRank_41 : decode cWr_tellRank 41 = .ok (.invokestatic 66, 3) := by decide +kernel
theorem dWr_tellRank_44 : decode cWr_tellRank 44 = .ok (.iconst 0, 1) := by decide +kernel
theorem dWr_tellRank_45 : decode cWr_tellRank 45 = .ok (.istore_n 3, 1) := by decide +kernel
theorem dWr_tellRank_46 : decode cWr_tellRank 46 = .ok (.aload_n 2, 1) := by decide +kernel
theorem dWr_tellRank_47 : decode cWr_tellRank 47 = .ok (.iload 5, 2) := by decide +kernel
theorem dWr_tellRank_49 : decode cWr_tellRank 49 = .ok (.invokestatic 69, 3) := by decide +kernel
theorem dWr_tellRank_52 : decode cWr_tellRank 52 = .ok (.invokevirtual 21, 3) := by decide +kernel
theorem dWr_tellRank_55 : decode cWr_tellRank 55 = .ok (.iinc 4 1, 3) := by decide +kernel
theorem dWr_tellRank_58 : decode cWr_tellRank 58 = .ok (.goto (-53), 3) := by decide +kernel
theorem dWr_tellRank_61 : decode cWr_tellRank 61 = .ok (.iload_n 3, 1) := by decide +kernel
theorem dWr_tellRank_62 : decode cWr_tellRank 62 = .ok (.aload_n 2, 1) := by decide +kernel
theorem dWr_tellRank_63 : decode cWr_tellRank 63 = .ok (.invokestatic 66, 3) := by decide +kernel
theorem dWr_tellRank_66 : decode cWr_tellRank 66 = .ok (.return_, 1) := by decide +kernel

def f_Wr_tellRank_r63 (oS_board : St_Bo) (yS_characters : Nat → Int32) (yS_length : Int32) (rank : Int32) (v3_5 : Int32) (v4_5 : Int32) (W_y_5 : St_Li) (R_63 : ((Nat → Int32) × Int32)) : (Nat → Int32) × Int32 :=
  (R_63.1, R_63.2)
theorem f_Wr_tellRank_r63_eq (oS_board : St_Bo) (yS_characters : Nat → Int32) (yS_length : Int32) (rank : Int32) (v3_5 : Int32) (v4_5 : Int32) (W_y_5 : St_Li) (R_63 : ((Nat → Int32) × Int32)) : f_Wr_tellRank_r63 oS_board yS_characters yS_length rank v3_5 v4_5 W_y_5 R_63 =
  (R_63.1, R_63.2) := rfl

def f_Wr_tellRank_r52 (r_5 : Int32 → Int32 → St_Li → ((Nat → Int32) × Int32)) (oS_board : St_Bo) (yS_characters : Nat → Int32) (yS_length : Int32) (rank : Int32) (v3_5 : Int32) (v4_5 : Int32) (W_y_5 : St_Li) (R_41 : ((Nat → Int32) × Int32)) (R_52 : ((Nat → Int32) × Int32)) : (Nat → Int32) × Int32 :=
  r_5 0 (v4_5 + 1) R_52
theorem f_Wr_tellRank_r52_eq (r_5 : Int32 → Int32 → St_Li → ((Nat → Int32) × Int32)) (oS_board : St_Bo) (yS_characters : Nat → Int32) (yS_length : Int32) (rank : Int32) (v3_5 : Int32) (v4_5 : Int32) (W_y_5 : St_Li) (R_41 : ((Nat → Int32) × Int32)) (R_52 : ((Nat → Int32) × Int32)) : f_Wr_tellRank_r52 r_5 oS_board yS_characters yS_length rank v3_5 v4_5 W_y_5 R_41 R_52 =
  r_5 0 (v4_5 + 1) R_52 := rfl

def f_Wr_tellRank_r41 (r_5 : Int32 → Int32 → St_Li → ((Nat → Int32) × Int32)) (oS_board : St_Bo) (yS_characters : Nat → Int32) (yS_length : Int32) (rank : Int32) (v3_5 : Int32) (v4_5 : Int32) (W_y_5 : St_Li) (R_41 : ((Nat → Int32) × Int32)) : (Nat → Int32) × Int32 :=
  f_Wr_tellRank_r52 r_5 oS_board yS_characters yS_length rank v3_5 v4_5 W_y_5 R_41 (f_Li_add R_41.1 R_41.2 (f_Wr_letterOf (f_Bo_manAt oS_board.1 (v4_5 + (8 * rank)))))
theorem f_Wr_tellRank_r41_eq (r_5 : Int32 → Int32 → St_Li → ((Nat → Int32) × Int32)) (oS_board : St_Bo) (yS_characters : Nat → Int32) (yS_length : Int32) (rank : Int32) (v3_5 : Int32) (v4_5 : Int32) (W_y_5 : St_Li) (R_41 : ((Nat → Int32) × Int32)) : f_Wr_tellRank_r41 r_5 oS_board yS_characters yS_length rank v3_5 v4_5 W_y_5 R_41 =
  f_Wr_tellRank_r52 r_5 oS_board yS_characters yS_length rank v3_5 v4_5 W_y_5 R_41 (f_Li_add R_41.1 R_41.2 (f_Wr_letterOf (f_Bo_manAt oS_board.1 (v4_5 + (8 * rank))))) := rfl

def f_Wr_tellRank_5 (oS_board : St_Bo) (yS_characters : Nat → Int32) (yS_length : Int32) (rank : Int32) : Nat → Int32 → Int32 → St_Li → ((Nat → Int32) × Int32)
  | 0 => fun _ _ _ => (yS_characters, yS_length)
  | n_5 + 1 => fun v3_5 v4_5 W_y_5 => (if 8 ≤ v4_5 then f_Wr_tellRank_r63 oS_board yS_characters yS_length rank v3_5 v4_5 W_y_5 (f_Wr_tellEmpty W_y_5.1 W_y_5.2 v3_5) else (if (f_Bo_manAt oS_board.1 (v4_5 + (8 * rank))) = 0 then (f_Wr_tellRank_5 oS_board yS_characters yS_length rank n_5) (v3_5 + 1) (v4_5 + 1) W_y_5 else f_Wr_tellRank_r41 (f_Wr_tellRank_5 oS_board yS_characters yS_length rank n_5) oS_board yS_characters yS_length rank v3_5 v4_5 W_y_5 (f_Wr_tellEmpty W_y_5.1 W_y_5.2 v3_5)))
theorem f_Wr_tellRank_5_eq (oS_board : St_Bo) (yS_characters : Nat → Int32) (yS_length : Int32) (rank : Int32) (n_5 : Nat) (v3_5 : Int32) (v4_5 : Int32) (W_y_5 : St_Li) : f_Wr_tellRank_5 oS_board yS_characters yS_length rank (n_5 + 1) v3_5 v4_5 W_y_5 =
  (if 8 ≤ v4_5 then f_Wr_tellRank_r63 oS_board yS_characters yS_length rank v3_5 v4_5 W_y_5 (f_Wr_tellEmpty W_y_5.1 W_y_5.2 v3_5) else (if (f_Bo_manAt oS_board.1 (v4_5 + (8 * rank))) = 0 then (f_Wr_tellRank_5 oS_board yS_characters yS_length rank n_5) (v3_5 + 1) (v4_5 + 1) W_y_5 else f_Wr_tellRank_r41 (f_Wr_tellRank_5 oS_board yS_characters yS_length rank n_5) oS_board yS_characters yS_length rank v3_5 v4_5 W_y_5 (f_Wr_tellEmpty W_y_5.1 W_y_5.2 v3_5))) := rfl

def f_Wr_tellRank (oS_board : St_Bo) (yS_characters : Nat → Int32) (yS_length : Int32) (rank : Int32) : (Nat → Int32) × Int32 :=
  f_Wr_tellRank_5 oS_board yS_characters yS_length rank (9) 0 0 (yS_characters, yS_length)
theorem f_Wr_tellRank_eq (oS_board : St_Bo) (yS_characters : Nat → Int32) (yS_length : Int32) (rank : Int32) : f_Wr_tellRank oS_board yS_characters yS_length rank =
  f_Wr_tellRank_5 oS_board yS_characters yS_length rank (9) 0 0 (yS_characters, yS_length) := rfl

set_option maxHeartbeats 4000000 in
set_option maxRecDepth 100000 in
theorem c_Wr_tellRank (l : Launch) (dC : Nat → ClassId) (dI : Nat → Nat → Nat) (cI cJ cC : ClassId) (ad : Nat → Nat) (o o_board o_board_men o_board_sets y y_characters : Nat) (sz : Nat) (oS_board : St_Bo) (oS_side : Int32) (oS_rights : Int32) (oS_passed : Int32) (oS_clock : Int32) (oS_number : Int32) (yS_characters : Nat → Int32) (yS_length : Int32) (rank : Int32) : Met l yWr_tellRank wsWr_tellRank { frames := 5, cells := 0, slots := 0, locals := 105 } (rwP dC dI (TYS cI cJ cC) [.ref o, .int rank, .ref y] [(o, .inr (3, [.ref o_board, .int oS_side, .int oS_rights, .int oS_passed, .int oS_clock, .int oS_number])), (o_board, .inr (0, [.ref o_board_men, .ref o_board_sets])), (o_board_men, .inl (cI, 64, .inl oS_board.1)), (o_board_sets, .inl (cJ, 16, .inr (.inl oS_board.2))), (y, .inr (2, [.ref y_characters, .int yS_length])), (y_characters, .inl (cC, 100, .inl yS_characters))] sz (GS ad)) (va_Qv (fun _ : Unit => True) (rwB dC dI (TYS cI cJ cC) [(o, .inr (3, [.ref o_board, .int oS_side, .int oS_rights, .int oS_passed, .int oS_clock, .int oS_number])), (o_board, .inr (0, [.ref o_board_men, .ref o_board_sets])), (o_board_men, .inl (cI, 64, .inl oS_board.1)), (o_board_sets, .inl (cJ, 16, .inr (.inl oS_board.2))), (y, .inr (2, [.ref y_characters, .int ((f_Wr_tellRank oS_board yS_characters yS_length rank).2)])), (y_characters, .inl (cC, 100, .inl ((f_Wr_tellRank oS_board yS_characters yS_length rank).1)))] (va_A [(o, .inr (3, [.ref o_board, .int oS_side, .int oS_rights, .int oS_passed, .int oS_clock, .int oS_number])), (o_board, .inr (0, [.ref o_board_men, .ref o_board_sets])), (o_board_men, .inl (cI, 64, .inl oS_board.1)), (o_board_sets, .inl (cJ, 16, .inr (.inl oS_board.2))), (y, .inr (2, [.ref y_characters, .int yS_length])), (y_characters, .inl (cC, 100, .inl yS_characters))] sz)) (va_A [(o, .inr (3, [.ref o_board, .int oS_side, .int oS_rights, .int oS_passed, .int oS_clock, .int oS_number])), (o_board, .inr (0, [.ref o_board_men, .ref o_board_sets])), (o_board_men, .inl (cI, 64, .inl oS_board.1)), (o_board_sets, .inl (cJ, 16, .inr (.inl oS_board.2))), (y, .inr (2, [.ref y_characters, .int yS_length])), (y_characters, .inl (cC, 100, .inl yS_characters))] sz)) 0 0 (va_A [(o, .inr (3, [.ref o_board, .int oS_side, .int oS_rights, .int oS_passed, .int oS_clock, .int oS_number])), (o_board, .inr (0, [.ref o_board_men, .ref o_board_sets])), (o_board_men, .inl (cI, 64, .inl oS_board.1)), (o_board_sets, .inl (cJ, 16, .inr (.inl oS_board.2))), (y, .inr (2, [.ref y_characters, .int yS_length])), (y_characters, .inl (cC, 100, .inl yS_characters))] sz) := by
  refine Met.ofW (cc := cWr_tellRank) (maxL := 6) (ret := none) (by decide) rfl ?_
  intro p e s m args below meth c s₁ B hml hv
  obtain ⟨rfl, hsz, hP, hK, hD0, hG⟩ := hv
  have hx := B.exec
  have hb := B.bytes
  have hr := B.returns
  have hB : ∀ w9 ∈ BIG, w9.before ([.ref o, .int rank, .ref y]).toArray s = true := fun w9 h => atoms_spec (ws := wsWr_tellRank) B.pre w9 (List.mem_cons_of_mem _ h)
  have hown : s.vm.findClass "ChessRules$Writer" = some m.cls := findClass_of_methodNamed B.named
  have hlocks := B.notSynchronized
  subst hsz
  have hD := hD0.self (sz := s.heap.size)
  generalize hAe : va_A [(o, .inr (3, [.ref o_board, .int oS_side, .int oS_rights, .int oS_passed, .int oS_clock, .int oS_number])), (o_board, .inr (0, [.ref o_board_men, .ref o_board_sets])), (o_board_men, .inl (cI, 64, .inl oS_board.1)), (o_board_sets, .inl (cJ, 16, .inr (.inl oS_board.2))), (y, .inr (2, [.ref y_characters, .int yS_length])), (y_characters, .inl (cC, 100, .inl yS_characters))] s.heap.size = A at hD hG ⊢
  have hA : ∀ q : Nat, s.heap.size ≤ q → A q := fun q h => by rw [← hAe]; exact Or.inr h
  have hS : va_S A s.heap s.heap [] := va_S.rf
  have hP : va_P (dC, dI) vwCl [(o, .inr (3, [.ref o_board, .int oS_side, .int oS_rights, .int oS_passed, .int oS_clock, .int oS_number])), (o_board, .inr (0, [.ref o_board_men, .ref o_board_sets])), (o_board_men, .inl (cI, 64, .inl oS_board.1)), (o_board_sets, .inl (cJ, 16, .inr (.inl oS_board.2))), (y, .inr (2, [.ref y_characters, .int yS_length])), (y_characters, .inl (cC, 100, .inl yS_characters))] s.heap := hP
  have hl := lv_entry ([.ref o, .int rank, .ref y]) (n := 6) (Nat.le_of_ble_eq_true rfl)
  rw [lg_entry_eq]
  generalize (lg_sl ([.ref o, .int rank, .ref y]) ++ List.replicate (6 - (lg_sl ([.ref o, .int rank, .ref y])).length) Slot.unset).toArray = ls at hl ⊢
  have hl : lv_has ls 6 [(0, .ref o), (1, .int rank), (2, .ref y)] := hl
  refine lv_iconst (v := 0) hx hb dWr_tellRank_0 (by decide) ?_
  refine lv_istore_n (lv' := [(3, .int 0), (0, .ref o), (1, .int rank), (2, .ref y)]) hx hb dWr_tellRank_1 rfl hl (by decide) rfl (fun ls hl => ?_)
  refine lv_iconst (v := 0) hx hb dWr_tellRank_2 (by decide) ?_
  refine lv_istore (lv' := [(4, .int 0), (3, .int 0), (0, .ref o), (1, .int rank), (2, .ref y)]) hx hb dWr_tellRank_3 hl (by decide) rfl (fun ls hl => ?_)
  have J_5 : ∀ (n_5 : Nat) (v3_5 : Int32) (v4_5 : Int32) (W_y_5 : St_Li), f_Wr_tellRank oS_board yS_characters yS_length rank = f_Wr_tellRank_5 oS_board yS_characters yS_length rank n_5 v3_5 v4_5 W_y_5 → ((0 : Int) ≤ v4_5.toInt ∧ (8 : Int32).toInt - v4_5.toInt + 1 ≤ (n_5 : Int) ∧ (1 : Int) ≤ (n_5 : Int)) → ∀ (H : Heap) (locs : List Loc), va_P (dC, dI) vwCl [(o, .inr (3, [.ref o_board, .int oS_side, .int oS_rights, .int oS_passed, .int oS_clock, .int oS_number])), (o_board, .inr (0, [.ref o_board_men, .ref o_board_sets])), (o_board_men, .inl (cI, 64, .inl oS_board.1)), (o_board_sets, .inl (cJ, 16, .inr (.inl oS_board.2))), (y, .inr (2, [.ref y_characters, .int W_y_5.2])), (y_characters, .inl (cC, 100, .inl W_y_5.1))] H → va_D A [(o, .inr (3, [.ref o_board, .int oS_side, .int oS_rights, .int oS_passed, .int oS_clock, .int oS_number])), (o_board, .inr (0, [.ref o_board_men, .ref o_board_sets])), (o_board_men, .inl (cI, 64, .inl oS_board.1)), (o_board_sets, .inl (cJ, 16, .inr (.inl oS_board.2))), (y, .inr (2, [.ref y_characters, .int W_y_5.2])), (y_characters, .inl (cC, 100, .inl W_y_5.1))] → va_S A s.heap H locs → ∀ ls : Array Slot, lv_has ls 6 [(0, .ref o), (1, .int rank), (2, .ref y), (3, .int v3_5), (4, .int v4_5)] → W p l e (headSpec wsWr_tellRank { frames := 5, cells := 0, slots := 0, locals := 105 }).room s m ([.ref o, .int rank, .ref y]).toArray below meth c H locs 0 0 (MQ below (va_Qv (fun _ : Unit => True) (rwB dC dI (TYS cI cJ cC) [(o, .inr (3, [.ref o_board, .int oS_side, .int oS_rights, .int oS_passed, .int oS_clock, .int oS_number])), (o_board, .inr (0, [.ref o_board_men, .ref o_board_sets])), (o_board_men, .inl (cI, 64, .inl oS_board.1)), (o_board_sets, .inl (cJ, 16, .inr (.inl oS_board.2))), (y, .inr (2, [.ref y_characters, .int ((f_Wr_tellRank oS_board yS_characters yS_length rank).2)])), (y_characters, .inl (cC, 100, .inl ((f_Wr_tellRank oS_board yS_characters yS_length rank).1)))] A) A) ([.ref o, .int rank, .ref y]).toArray s 0 0 A) (F0 m 5 ls []) := by
    intro n_5
    induction n_5 with
    | zero => intro v3_5 v4_5 W_y_5 _ hm_5; exact absurd hm_5 (by omega)
    | succ n_5 ih_5 =>
      intro v3_5 v4_5 W_y_5 he_5 hm_5 H locs hP hD hS ls hl
      refine lv_iload hx hb dWr_tellRank_5 (lv_at hl 4 rfl) ?_
      refine lv_bipush (v := 8) hx hb dWr_tellRank_7 (by decide) ?_
      refine lv_icmp_ge (tgt := 61) hx hb dWr_tellRank_9 (by decide) (fun c_1 => ?_) (fun c_1 => ?_)
      · refine lv_iload_n hx hb dWr_tellRank_61 rfl (lv_at hl 3 rfl) ?_
        refine lv_aload_n hx hb dWr_tellRank_62 rfl (lv_at hl 2 rfl) ?_
        obtain ⟨R_63, hR_63⟩ : ∃ R9, R9 = f_Wr_tellEmpty W_y_5.1 W_y_5.2 v3_5 := ⟨_, rfl⟩
        have hM_63 := (c_Wr_tellEmpty l dC dI cI cJ cC ad y y_characters H.size W_y_5.1 W_y_5.2 v3_5)
        rw [← hR_63] at hM_63
        refine rw_gov (wr := [(o, .inr (3, [.ref o_board, .int oS_side, .int oS_rights, .int oS_passed, .int oS_clock, .int oS_number])), (o_board, .inr (0, [.ref o_board_men, .ref o_board_sets])), (o_board_men, .inl (cI, 64, .inl oS_board.1)), (o_board_sets, .inl (cJ, 16, .inr (.inl oS_board.2)))]) (va_runS (As := [.int v3_5, .ref y]) (rest := []) ⟨hx, hb, hml, hown, hB⟩ hM_63 ⟨callB_of 2 hB (big_self q3_43) rfl rfl rfl (hB _ q1_16) (hB _ q3_41) (by decide +kernel) ⟨Nat.le_of_ble_eq_true rfl, Nat.le_of_ble_eq_true rfl⟩, (hB _ q3_42)⟩ (rw_preS (GS_ok ad) hK hP hD hA hG hS [4, 5] (by decide) rfl rfl) rfl rfl hl.1 rfl (lv_room (Nat.le_of_ble_eq_true rfl)) dWr_tellRank_63 ⟨Nat.le_of_ble_eq_true rfl, Nat.le_of_ble_eq_true rfl⟩) hP hD hS hA [4, 5] [0, 1, 2, 3] rfl rfl (by decide) (by decide) (fun H locs hP hD hS => ?_)
        have hP : va_P (dC, dI) vwCl [(o, .inr (3, [.ref o_board, .int oS_side, .int oS_rights, .int oS_passed, .int oS_clock, .int oS_number])), (o_board, .inr (0, [.ref o_board_men, .ref o_board_sets])), (o_board_men, .inl (cI, 64, .inl oS_board.1)), (o_board_sets, .inl (cJ, 16, .inr (.inl oS_board.2))), (y, .inr (2, [.ref y_characters, .int R_63.2])), (y_characters, .inl (cC, 100, .inl R_63.1))] H := hP
        have hD : va_D A [(o, .inr (3, [.ref o_board, .int oS_side, .int oS_rights, .int oS_passed, .int oS_clock, .int oS_number])), (o_board, .inr (0, [.ref o_board_men, .ref o_board_sets])), (o_board_men, .inl (cI, 64, .inl oS_board.1)), (o_board_sets, .inl (cJ, 16, .inr (.inl oS_board.2))), (y, .inr (2, [.ref y_characters, .int R_63.2])), (y_characters, .inl (cC, 100, .inl R_63.1))] := hD
        have he_r63 : f_Wr_tellRank oS_board yS_characters yS_length rank = f_Wr_tellRank_r63 oS_board yS_characters yS_length rank v3_5 v4_5 W_y_5 R_63 := (he_5.trans (by rw [f_Wr_tellRank_5_eq, if_pos c_1, ← hR_63] <;> rfl))
        have hv : f_Wr_tellRank oS_board yS_characters yS_length rank = (R_63.1, R_63.2) := (he_r63.trans (by rw [f_Wr_tellRank_r63_eq] <;> rfl))
        have hP9 : va_P (dC, dI) vwCl [(o, .inr (3, [.ref o_board, .int oS_side, .int oS_rights, .int oS_passed, .int oS_clock, .int oS_number])), (o_board, .inr (0, [.ref o_board_men, .ref o_board_sets])), (o_board_men, .inl (cI, 64, .inl oS_board.1)), (o_board_sets, .inl (cJ, 16, .inr (.inl oS_board.2))), (y, .inr (2, [.ref y_characters, .int ((f_Wr_tellRank oS_board yS_characters yS_length rank).2)])), (y_characters, .inl (cC, 100, .inl ((f_Wr_tellRank oS_board yS_characters yS_length rank).1)))] H := by first | (rw [hv]; exact hP.sub [0, 1, 2, 3, 4, 5] rfl) | exact hP.sub [0, 1, 2, 3, 4, 5] rfl
        have hD9 : va_D A [(o, .inr (3, [.ref o_board, .int oS_side, .int oS_rights, .int oS_passed, .int oS_clock, .int oS_number])), (o_board, .inr (0, [.ref o_board_men, .ref o_board_sets])), (o_board_men, .inl (cI, 64, .inl oS_board.1)), (o_board_sets, .inl (cJ, 16, .inr (.inl oS_board.2))), (y, .inr (2, [.ref y_characters, .int ((f_Wr_tellRank oS_board yS_characters yS_length rank).2)])), (y_characters, .inl (cC, 100, .inl ((f_Wr_tellRank oS_board yS_characters yS_length rank).1)))] := by first | (rw [hv]; exact hD.sub [0, 1, 2, 3, 4, 5] (by decide) rfl) | exact hD.sub [0, 1, 2, 3, 4, 5] (by decide) rfl
        exact rw_retv hx hb hr hlocks hK hP9 hD9 hS dWr_tellRank_66
      · refine lv_aload_n hx hb dWr_tellRank_12 rfl (lv_at hl 0 rfl) ?_
        refine va_getN (D := (dC, dI)) (ci := 3) (v := .ref o_board) (C := RPo) (T := TPo) (N := 6) hx hb hB inPo hown hK hP 0 rfl rfl 0 (by decide) (va_Nw.use rfl (hG.1 _ q1_80)) (fun _ h9 => h9) rfl dWr_tellRank_13 ?_
        refine lv_iload hx hb dWr_tellRank_16 (lv_at hl 4 rfl) ?_
        refine lv_bipush (v := 8) hx hb dWr_tellRank_18 (by decide) ?_
        refine lv_iload_n hx hb dWr_tellRank_20 rfl (lv_at hl 1 rfl) ?_
        refine lv_imul hx hb dWr_tellRank_21 ?_
        refine lv_iadd hx hb dWr_tellRank_22 ?_
        refine ro_goi (va_runVN (C := "ChessRules$Board") (As := [.int (v4_5 + (8 * rank))]) (rest := []) ⟨hx, hb, hml, hown, hB⟩ (c_Bo_manAt l dC dI cI cJ cC ad o_board o_board_men o_board_sets oS_board.1 oS_board.2 (v4_5 + (8 * rank))) ⟨va_cnB 1 hB (big_self q2_168) rfl rfl rfl (hG.1 _ q3_40) (hB _ q1_5) (by decide +kernel) ⟨Nat.le_of_ble_eq_true rfl, Nat.le_of_ble_eq_true rfl⟩, (hB _ q2_167), (hB _ qs2_7)⟩ (ro_preV (GS_ok ad) hK hP hG hS [1, 2, 3] rfl (va_recv hK hP (ci := 0) (q0 := 1) rfl rfl)) rfl rfl hl.1 rfl (lv_room (Nat.le_of_ble_eq_true rfl)) dWr_tellRank_23 ⟨Nat.le_of_ble_eq_true rfl, Nat.le_of_ble_eq_true rfl⟩) ?_
        refine lv_istore (lv' := [(5, .int (f_Bo_manAt oS_board.1 (v4_5 + (8 * rank)))), (0, .ref o), (1, .int rank), (2, .ref y), (3, .int v3_5), (4, .int v4_5)]) hx hb dWr_tellRank_26 hl (by decide) rfl (fun ls hl => ?_)
        refine lv_iload hx hb dWr_tellRank_28 (lv_at hl 0 rfl) ?_
        refine lv_if_ne (tgt := 39) hx hb dWr_tellRank_30 (by decide) (fun c_2 => ?_) (fun c_2 => ?_)
        · refine lv_iload_n hx hb dWr_tellRank_39 rfl (lv_at hl 4 rfl) ?_
          refine lv_aload_n hx hb dWr_tellRank_40 rfl (lv_at hl 3 rfl) ?_
          obtain ⟨R_41, hR_41⟩ : ∃ R9, R9 = f_Wr_tellEmpty W_y_5.1 W_y_5.2 v3_5 := ⟨_, rfl⟩
          have hM_41 := (c_Wr_tellEmpty l dC dI cI cJ cC ad y y_characters H.size W_y_5.1 W_y_5.2 v3_5)
          rw [← hR_41] at hM_41
          refine rw_gov (wr := [(o, .inr (3, [.ref o_board, .int oS_side, .int oS_rights, .int oS_passed, .int oS_clock, .int oS_number])), (o_board, .inr (0, [.ref o_board_men, .ref o_board_sets])), (o_board_men, .inl (cI, 64, .inl oS_board.1)), (o_board_sets, .inl (cJ, 16, .inr (.inl oS_board.2)))]) (va_runS (As := [.int v3_5, .ref y]) (rest := []) ⟨hx, hb, hml, hown, hB⟩ hM_41 ⟨callB_of 2 hB (big_self q3_43) rfl rfl rfl (hB _ q1_16) (hB _ q3_41) (by decide +kernel) ⟨Nat.le_of_ble_eq_true rfl, Nat.le_of_ble_eq_true rfl⟩, (hB _ q3_42)⟩ (rw_preS (GS_ok ad) hK hP hD hA hG hS [4, 5] (by decide) rfl rfl) rfl rfl hl.1 rfl (lv_room (Nat.le_of_ble_eq_true rfl)) dWr_tellRank_41 ⟨Nat.le_of_ble_eq_true rfl, Nat.le_of_ble_eq_true rfl⟩) hP hD hS hA [4, 5] [0, 1, 2, 3] rfl rfl (by decide) (by decide) (fun H locs hP hD hS => ?_)
          have hP : va_P (dC, dI) vwCl [(o, .inr (3, [.ref o_board, .int oS_side, .int oS_rights, .int oS_passed, .int oS_clock, .int oS_number])), (o_board, .inr (0, [.ref o_board_men, .ref o_board_sets])), (o_board_men, .inl (cI, 64, .inl oS_board.1)), (o_board_sets, .inl (cJ, 16, .inr (.inl oS_board.2))), (y, .inr (2, [.ref y_characters, .int R_41.2])), (y_characters, .inl (cC, 100, .inl R_41.1))] H := hP
          have hD : va_D A [(o, .inr (3, [.ref o_board, .int oS_side, .int oS_rights, .int oS_passed, .int oS_clock, .int oS_number])), (o_board, .inr (0, [.ref o_board_men, .ref o_board_sets])), (o_board_men, .inl (cI, 64, .inl oS_board.1)), (o_board_sets, .inl (cJ, 16, .inr (.inl oS_board.2))), (y, .inr (2, [.ref y_characters, .int R_41.2])), (y_characters, .inl (cC, 100, .inl R_41.1))] := hD
          have he_r41 : f_Wr_tellRank oS_board yS_characters yS_length rank = f_Wr_tellRank_r41 (f_Wr_tellRank_5 oS_board yS_characters yS_length rank n_5) oS_board yS_characters yS_length rank v3_5 v4_5 W_y_5 R_41 := (he_5.trans (by rw [f_Wr_tellRank_5_eq, if_neg c_1, if_neg c_2, ← hR_41] <;> rfl))
          refine lv_iconst (v := 0) hx hb dWr_tellRank_44 (by decide) ?_
          refine lv_istore_n (lv' := [(3, .int 0), (5, .int (f_Bo_manAt oS_board.1 (v4_5 + (8 * rank)))), (0, .ref o), (1, .int rank), (2, .ref y), (4, .int v4_5)]) hx hb dWr_tellRank_45 rfl hl (by decide) rfl (fun ls hl => ?_)
          refine lv_aload_n hx hb dWr_tellRank_46 rfl (lv_at hl 4 rfl) ?_
          refine lv_iload hx hb dWr_tellRank_47 (lv_at hl 1 rfl) ?_
          refine ro_goi (va_runS (As := [.int (f_Bo_manAt oS_board.1 (v4_5 + (8 * rank)))]) (rest := [.ref y]) ⟨hx, hb, hml, hown, hB⟩ (c_Wr_letterOf l dC dI cI cJ cC ad (f_Bo_manAt oS_board.1 (v4_5 + (8 * rank)))) ⟨callB_of 1 hB (big_self q3_47) rfl rfl rfl (hB _ q1_16) (hB _ q3_45) (by decide +kernel) ⟨Nat.le_of_ble_eq_true rfl, Nat.le_of_ble_eq_true rfl⟩, (hB _ q3_46)⟩ (ro_preS (GS_ok ad) hK hP hG hS [] rfl) rfl rfl hl.1 rfl (lv_room (Nat.le_of_ble_eq_true rfl)) dWr_tellRank_49 ⟨Nat.le_of_ble_eq_true rfl, Nat.le_of_ble_eq_true rfl⟩) ?_
          obtain ⟨R_52, hR_52⟩ : ∃ R9, R9 = f_Li_add R_41.1 R_41.2 (f_Wr_letterOf (f_Bo_manAt oS_board.1 (v4_5 + (8 * rank)))) := ⟨_, rfl⟩
          have hM_52 := (c_Li_add l dC dI cI cJ cC ad y y_characters H.size R_41.1 R_41.2 (f_Wr_letterOf (f_Bo_manAt oS_board.1 (v4_5 + (8 * rank)))))
          rw [← hR_52] at hM_52
          refine rw_gov (wr := [(o, .inr (3, [.ref o_board, .int oS_side, .int oS_rights, .int oS_passed, .int oS_clock, .int oS_number])), (o_board, .inr (0, [.ref o_board_men, .ref o_board_sets])), (o_board_men, .inl (cI, 64, .inl oS_board.1)), (o_board_sets, .inl (cJ, 16, .inr (.inl oS_board.2)))]) (va_runVN (C := "ChessRules$Line") (As := [.int (f_Wr_letterOf (f_Bo_manAt oS_board.1 (v4_5 + (8 * rank))))]) (rest := []) ⟨hx, hb, hml, hown, hB⟩ hM_52 ⟨va_cnB 1 hB (big_self q1_216) rfl rfl rfl (hG.1 _ q3_44) (hB _ q1_3) (by decide +kernel) ⟨Nat.le_of_ble_eq_true rfl, Nat.le_of_ble_eq_true rfl⟩, (hB _ q1_215), (hB _ qs1_0)⟩ (rw_preV (GS_ok ad) hK hP hD hA hG hS [4, 5] (by decide) rfl rfl (va_recv hK hP (ci := 2) (q0 := 4) rfl rfl)) rfl rfl hl.1 rfl (lv_room (Nat.le_of_ble_eq_true rfl)) dWr_tellRank_52 ⟨Nat.le_of_ble_eq_true rfl, Nat.le_of_ble_eq_true rfl⟩) hP hD hS hA [4, 5] [0, 1, 2, 3] rfl rfl (by decide) (by decide) (fun H locs hP hD hS => ?_)
          have hP : va_P (dC, dI) vwCl [(o, .inr (3, [.ref o_board, .int oS_side, .int oS_rights, .int oS_passed, .int oS_clock, .int oS_number])), (o_board, .inr (0, [.ref o_board_men, .ref o_board_sets])), (o_board_men, .inl (cI, 64, .inl oS_board.1)), (o_board_sets, .inl (cJ, 16, .inr (.inl oS_board.2))), (y, .inr (2, [.ref y_characters, .int R_52.2])), (y_characters, .inl (cC, 100, .inl R_52.1))] H := hP
          have hD : va_D A [(o, .inr (3, [.ref o_board, .int oS_side, .int oS_rights, .int oS_passed, .int oS_clock, .int oS_number])), (o_board, .inr (0, [.ref o_board_men, .ref o_board_sets])), (o_board_men, .inl (cI, 64, .inl oS_board.1)), (o_board_sets, .inl (cJ, 16, .inr (.inl oS_board.2))), (y, .inr (2, [.ref y_characters, .int R_52.2])), (y_characters, .inl (cC, 100, .inl R_52.1))] := hD
          have he_r52 : f_Wr_tellRank oS_board yS_characters yS_length rank = f_Wr_tellRank_r52 (f_Wr_tellRank_5 oS_board yS_characters yS_length rank n_5) oS_board yS_characters yS_length rank v3_5 v4_5 W_y_5 R_41 R_52 := (he_r41.trans (by rw [f_Wr_tellRank_r41_eq, ← hR_52] <;> rfl))
          refine lv_iinc (v := v4_5 + 1) (lv' := [(4, .int (v4_5 + 1)), (3, .int 0), (5, .int (f_Bo_manAt oS_board.1 (v4_5 + (8 * rank)))), (0, .ref o), (1, .int rank), (2, .ref y)]) hx hb dWr_tellRank_55 hl (k := 5) rfl rfl (by decide) rfl (fun ls hl => ?_)
          refine lv_goto (tgt := 5) hx hb dWr_tellRank_58 (by decide) ?_
          exact ih_5 0 (v4_5 + 1) R_52 (he_r52.trans (by rw [f_Wr_tellRank_r52_eq] <;> rfl)) (by have z1 := tnle c_1; have z2 := tne c_2; have y0 : (0 : Int32).toInt = 0 := rfl; have y8 : (8 : Int32).toInt = 8 := rfl; have zr := i_rng (8 : Int32); have zs := i_succ9 v4_5 (by omega); omega) _ _ (hP.sub [0, 1, 2, 3, 4, 5] rfl) (hD.sub [0, 1, 2, 3, 4, 5] (by decide) rfl) hS ls (lv_sub hl [3, 4, 5, 1, 0] rfl)
        · refine lv_iinc (v := v3_5 + 1) (lv' := [(3, .int (v3_5 + 1)), (5, .int (f_Bo_manAt oS_board.1 (v4_5 + (8 * rank)))), (0, .ref o), (1, .int rank), (2, .ref y), (4, .int v4_5)]) hx hb dWr_tellRank_33 hl (k := 4) rfl rfl (by decide) rfl (fun ls hl => ?_)
          refine lv_goto (tgt := 55) hx hb dWr_tellRank_36 (by decide) ?_
          refine lv_iinc (v := v4_5 + 1) (lv' := [(4, .int (v4_5 + 1)), (3, .int (v3_5 + 1)), (5, .int (f_Bo_manAt oS_board.1 (v4_5 + (8 * rank)))), (0, .ref o), (1, .int rank), (2, .ref y)]) hx hb dWr_tellRank_55 hl (k := 5) rfl rfl (by decide) rfl (fun ls hl => ?_)
          refine lv_goto (tgt := 5) hx hb dWr_tellRank_58 (by decide) ?_
          exact ih_5 (v3_5 + 1) (v4_5 + 1) W_y_5 (he_5.trans (by rw [f_Wr_tellRank_5_eq, if_neg c_1, if_pos c_2] <;> rfl)) (by have z1 := tnle c_1; have z2 := teq c_2; have y0 : (0 : Int32).toInt = 0 := rfl; have y8 : (8 : Int32).toInt = 8 := rfl; have zr := i_rng (8 : Int32); have zs := i_succ9 v4_5 (by omega); omega) _ _ (hP.sub [0, 1, 2, 3, 4, 5] rfl) (hD.sub [0, 1, 2, 3, 4, 5] (by decide) rfl) hS ls (lv_sub hl [3, 4, 5, 1, 0] rfl)
  exact J_5 (9) 0 0 (yS_characters, yS_length) (by rw [f_Wr_tellRank_eq] <;> rfl) (by decide) _ _ (hP.sub [0, 1, 2, 3, 4, 5] rfl) (hD.sub [0, 1, 2, 3, 4, 5] (by decide) rfl) hS ls (lv_sub hl [2, 3, 4, 1, 0] rfl)

abbrev cWr_tellMen : ByteArray := prog_9_method_3_code
def yWr_tellMen : MethodName := ⟨"ChessRules$Writer", "tellMen", "(LChessRules$Position;LChessRules$Line;)V"⟩
def wsWr_tellMen : List Cond := Cond.code yWr_tellMen cWr_tellMen 3 none :: BIG
theorem dWr_tellMen_0 : decode cWr_tellMen 0 = .ok (.bipush 7, 2) := by decide +kernel
theorem dWr_tellMen_2 : decode cWr_tellMen 2 = .ok (.istore_n 2, 1) := by decide +kernel
theorem dWr_tellMen_3 : decode cWr_tellMen 3 = .ok (.iload_n 2, 1) := by decide +kernel
theorem dWr_tellMen_4 : decode cWr_tellMen 4 = .ok (.ifCond .lt 25, 3) := by decide +kernel
theorem dWr_tellMen_7 : decode cWr_tellMen 7 = .ok (.aload_n 0, 1) := by decide +kernel
theorem dWr_tellMen_8 : decode cWr_tellMen 8 = .ok (.iload_n 2, 1) := by decide +kernel
theorem dWr_tellMen_9 : decode cWr_tellMen 9 = .ok (.aload_n 1, 1) := by decide +kernel
theorem dWr_tellMen_10 : decode cWr_tellMen 10 = .ok (.invokestatic 52, 3) := by decide +kernel
theorem dWr_tellMen_13 : decode cWr_tellMen 13 = .ok (.iload_n 2, 1) := by decide +kernel
theorem dWr_tellMen_14 : decode cWr_tellMen 14 = .ok (.ifCond .le 9, 3) := by decide +kernel
theorem dWr_tellMen_17 : decode cWr_tellMen 17 = .ok (.aload_n 1, 1) := by decide +kernel
theorem dWr_tellMen_18 : decode cWr_tellMen 18 = .ok (.bipush 47, 2) := by decide +kernel
theorem dWr_tellMen_20 : decode cWr_tellMen 20 = .ok (.invokevirtual 21, 3) := by decide +kernel
theorem dWr_tellMen_23 : decode cWr_tellMen 23 = .ok (.iinc 2 (-1), 3) := by decide +kernel
theorem dWr_tellMen_26 : decode cWr_tellMen 26 = .ok (.goto (-23), 3) := by decide +kernel
theorem dWr_tellMen_29 : decode cWr_tellMen 29 = .ok (.return_, 1) := by decide +kernel

def f_Wr_tellMen_r20 (r_3 : Int32 → St_Li → ((Nat → Int32) × Int32)) (oS_board : St_Bo) (yS_characters : Nat → Int32) (yS_length : Int32) (v2_3 : Int32) (W_y_3 : St_Li) (R_10 : ((Nat → Int32) × Int32)) (R_20 : ((Nat → Int32) × Int32)) : (Nat → Int32) × Int32 :=
  r_3 (v2_3 + (-1)) R_20
theorem f_Wr_tellMen_r20_eq (r_3 : Int32 → St_Li → ((Nat → Int32) × Int32)) (oS_board : St_Bo) (yS_characters : Nat → Int32) (yS_length : Int32) (v2_3 : Int32) (W_y_3 : St_Li) (R_10 : ((Nat → Int32) × Int32)) (R_20 : ((Nat → Int32) × Int32)) : f_Wr_tellMen_r20 r_3 oS_board yS_characters yS_length v2_3 W_y_3 R_10 R_20 =
  r_3 (v2_3 + (-1)) R_20 := rfl

def f_Wr_tellMen_r10 (r_3 : Int32 → St_Li → ((Nat → Int32) × Int32)) (oS_board : St_Bo) (yS_characters : Nat → Int32) (yS_length : Int32) (v2_3 : Int32) (W_y_3 : St_Li) (R_10 : ((Nat → Int32) × Int32)) : (Nat → Int32) × Int32 :=
  (if v2_3 ≤ 0 then r_3 (v2_3 + (-1)) R_10 else f_Wr_tellMen_r20 r_3 oS_board yS_characters yS_length v2_3 W_y_3 R_10 (f_Li_add R_10.1 R_10.2 47))
theorem f_Wr_tellMen_r10_eq (r_3 : Int32 → St_Li → ((Nat → Int32) × Int32)) (oS_board : St_Bo) (yS_characters : Nat → Int32) (yS_length : Int32) (v2_3 : Int32) (W_y_3 : St_Li) (R_10 : ((Nat → Int32) × Int32)) : f_Wr_tellMen_r10 r_3 oS_board yS_characters yS_length v2_3 W_y_3 R_10 =
  (if v2_3 ≤ 0 then r_3 (v2_3 + (-1)) R_10 else f_Wr_tellMen_r20 r_3 oS_board yS_characters yS_length v2_3 W_y_3 R_10 (f_Li_add R_10.1 R_10.2 47)) := rfl

def f_Wr_tellMen_3 (oS_board : St_Bo) (yS_characters : Nat → Int32) (yS_length : Int32) : Nat → Int32 → St_Li → ((Nat → Int32) × Int32)
  | 0 => fun _ _ => (yS_characters, yS_length)
  | n_3 + 1 => fun v2_3 W_y_3 => (if v2_3 < 0 then (W_y_3.1, W_y_3.2) else f_Wr_tellMen_r10 (f_Wr_tellMen_3 oS_board yS_characters yS_length n_3) oS_board yS_characters yS_length v2_3 W_y_3 (f_Wr_tellRank oS_board W_y_3.1 W_y_3.2 v2_3))
theorem f_Wr_tellMen_3_eq (oS_board : St_Bo) (yS_characters : Nat → Int32) (yS_length : Int32) (n_3 : Nat) (v2_3 : Int32) (W_y_3 : St_Li) : f_Wr_tellMen_3 oS_board yS_characters yS_length (n_3 + 1) v2_3 W_y_3 =
  (if v2_3 < 0 then (W_y_3.1, W_y_3.2) else f_Wr_tellMen_r10 (f_Wr_tellMen_3 oS_board yS_characters yS_length n_3) oS_board yS_characters yS_length v2_3 W_y_3 (f_Wr_tellRank oS_board W_y_3.1 W_y_3.2 v2_3)) := rfl

def f_Wr_tellMen (oS_board : St_Bo) (yS_characters : Nat → Int32) (yS_length : Int32) : (Nat → Int32) × Int32 :=
  f_Wr_tellMen_3 oS_board yS_characters yS_length (9) 7 (yS_characters, yS_length)
theorem f_Wr_tellMen_eq (oS_board : St_Bo) (yS_characters : Nat → Int32) (yS_length : Int32) : f_Wr_tellMen oS_board yS_characters yS_length =
  f_Wr_tellMen_3 oS_board yS_characters yS_length (9) 7 (yS_characters, yS_length) := rfl

set_option maxHeartbeats 4000000 in
set_option maxRecDepth 100000 in
theorem c_Wr_tellMen (l : Launch) (dC : Nat → ClassId) (dI : Nat → Nat → Nat) (cI cJ cC : ClassId) (ad : Nat → Nat) (o o_board o_board_men o_board_sets y y_characters : Nat) (sz : Nat) (oS_board : St_Bo) (oS_side : Int32) (oS_rights : Int32) (oS_passed : Int32) (oS_clock : Int32) (oS_number : Int32) (yS_characters : Nat → Int32) (yS_length : Int32) : Met l yWr_tellMen wsWr_tellMen { frames := 6, cells := 0, slots := 0, locals := 130 } (rwP dC dI (TYS cI cJ cC) [.ref o, .ref y] [(o, .inr (3, [.ref o_board, .int oS_side, .int oS_rights, .int oS_passed, .int oS_clock, .int oS_number])), (o_board, .inr (0, [.ref o_board_men, .ref o_board_sets])), (o_board_men, .inl (cI, 64, .inl oS_board.1)), (o_board_sets, .inl (cJ, 16, .inr (.inl oS_board.2))), (y, .inr (2, [.ref y_characters, .int yS_length])), (y_characters, .inl (cC, 100, .inl yS_characters))] sz (GS ad)) (va_Qv (fun _ : Unit => True) (rwB dC dI (TYS cI cJ cC) [(o, .inr (3, [.ref o_board, .int oS_side, .int oS_rights, .int oS_passed, .int oS_clock, .int oS_number])), (o_board, .inr (0, [.ref o_board_men, .ref o_board_sets])), (o_board_men, .inl (cI, 64, .inl oS_board.1)), (o_board_sets, .inl (cJ, 16, .inr (.inl oS_board.2))), (y, .inr (2, [.ref y_characters, .int ((f_Wr_tellMen oS_board yS_characters yS_length).2)])), (y_characters, .inl (cC, 100, .inl ((f_Wr_tellMen oS_board yS_characters yS_length).1)))] (va_A [(o, .inr (3, [.ref o_board, .int oS_side, .int oS_rights, .int oS_passed, .int oS_clock, .int oS_number])), (o_board, .inr (0, [.ref o_board_men, .ref o_board_sets])), (o_board_men, .inl (cI, 64, .inl oS_board.1)), (o_board_sets, .inl (cJ, 16, .inr (.inl oS_board.2))), (y, .inr (2, [.ref y_characters, .int yS_length])), (y_characters, .inl (cC, 100, .inl yS_characters))] sz)) (va_A [(o, .inr (3, [.ref o_board, .int oS_side, .int oS_rights, .int oS_passed, .int oS_clock, .int oS_number])), (o_board, .inr (0, [.ref o_board_men, .ref o_board_sets])), (o_board_men, .inl (cI, 64, .inl oS_board.1)), (o_board_sets, .inl (cJ, 16, .inr (.inl oS_board.2))), (y, .inr (2, [.ref y_characters, .int yS_length])), (y_characters, .inl (cC, 100, .inl yS_characters))] sz)) 0 0 (va_A [(o, .inr (3, [.ref o_board, .int oS_side, .int oS_rights, .int oS_passed, .int oS_clock, .int oS_number])), (o_board, .inr (0, [.ref o_board_men, .ref o_board_sets])), (o_board_men, .inl (cI, 64, .inl oS_board.1)), (o_board_sets, .inl (cJ, 16, .inr (.inl oS_board.2))), (y, .inr (2, [.ref y_characters, .int yS_length])), (y_characters, .inl (cC, 100, .inl yS_characters))] sz) := by
  refine Met.ofW (cc := cWr_tellMen) (maxL := 3) (ret := none) (by decide) rfl ?_
  intro p e s m args below meth c s₁ B hml hv
  obtain ⟨rfl, hsz, hP, hK, hD0, hG⟩ := hv
  have hx := B.exec
  have hb := B.bytes
  have hr := B.returns
  have hB : ∀ w9 ∈ BIG, w9.before ([.ref o, .ref y]).toArray s = true := fun w9 h => atoms_spec (ws := wsWr_tellMen) B.pre w9 (List.mem_cons_of_mem _ h)
  have hown : s.vm.findClass "ChessRules$Writer" = some m.cls := findClass_of_methodNamed B.named
  have hlocks := B.notSynchronized
  subst hsz
  have hD := hD0.self (sz := s.heap.size)
  generalize hAe : va_A [(o, .inr (3, [.ref o_board, .int oS_side, .int oS_rights, .int oS_passed, .int oS_clock, .int oS_number])), (o_board, .inr (0, [.ref o_board_men, .ref o_board_sets])), (o_board_men, .inl (cI, 64, .inl oS_board.1)), (o_board_sets, .inl (cJ, 16, .inr (.inl oS_board.2))), (y, .inr (2, [.ref y_characters, .int yS_length])), (y_characters, .inl (cC, 100, .inl yS_characters))] s.heap.size = A at hD hG ⊢
  have hA : ∀ q : Nat, s.heap.size ≤ q → A q := fun q h => by rw [← hAe]; exact Or.inr h
  have hS : va_S A s.heap s.heap [] := va_S.rf
  have hP : va_P (dC, dI) vwCl [(o, .inr (3, [.ref o_board, .int oS_side, .int oS_rights, .int oS_passed, .int oS_clock, .int oS_number])), (o_board, .inr (0, [.ref o_board_men, .ref o_board_sets])), (o_board_men, .inl (cI, 64, .inl oS_board.1)), (o_board_sets, .inl (cJ, 16, .inr (.inl oS_board.2))), (y, .inr (2, [.ref y_characters, .int yS_length])), (y_characters, .inl (cC, 100, .inl yS_characters))] s.heap := hP
  have hl := lv_entry ([.ref o, .ref y]) (n := 3) (Nat.le_of_ble_eq_true rfl)
  rw [lg_entry_eq]
  generalize (lg_sl ([.ref o, .ref y]) ++ List.replicate (3 - (lg_sl ([.ref o, .ref y])).length) Slot.unset).toArray = ls at hl ⊢
  have hl : lv_has ls 3 [(0, .ref o), (1, .ref y)] := hl
  refine lv_bipush (v := 7) hx hb dWr_tellMen_0 (by decide) ?_
  refine lv_istore_n (lv' := [(2, .int 7), (0, .ref o), (1, .ref y)]) hx hb dWr_tellMen_2 rfl hl (by decide) rfl (fun ls hl => ?_)
  have J_3 : ∀ (n_3 : Nat) (v2_3 : Int32) (W_y_3 : St_Li), f_Wr_tellMen oS_board yS_characters yS_length = f_Wr_tellMen_3 oS_board yS_characters yS_length n_3 v2_3 W_y_3 → ((-1 : Int) ≤ v2_3.toInt ∧ v2_3.toInt ≤ 7 ∧ v2_3.toInt + 2 ≤ (n_3 : Int) ∧ (1 : Int) ≤ (n_3 : Int)) → ∀ (H : Heap) (locs : List Loc), va_P (dC, dI) vwCl [(o, .inr (3, [.ref o_board, .int oS_side, .int oS_rights, .int oS_passed, .int oS_clock, .int oS_number])), (o_board, .inr (0, [.ref o_board_men, .ref o_board_sets])), (o_board_men, .inl (cI, 64, .inl oS_board.1)), (o_board_sets, .inl (cJ, 16, .inr (.inl oS_board.2))), (y, .inr (2, [.ref y_characters, .int W_y_3.2])), (y_characters, .inl (cC, 100, .inl W_y_3.1))] H → va_D A [(o, .inr (3, [.ref o_board, .int oS_side, .int oS_rights, .int oS_passed, .int oS_clock, .int oS_number])), (o_board, .inr (0, [.ref o_board_men, .ref o_board_sets])), (o_board_men, .inl (cI, 64, .inl oS_board.1)), (o_board_sets, .inl (cJ, 16, .inr (.inl oS_board.2))), (y, .inr (2, [.ref y_characters, .int W_y_3.2])), (y_characters, .inl (cC, 100, .inl W_y_3.1))] → va_S A s.heap H locs → ∀ ls : Array Slot, lv_has ls 3 [(0, .ref o), (1, .ref y), (2, .int v2_3)] → W p l e (headSpec wsWr_tellMen { frames := 6, cells := 0, slots := 0, locals := 130 }).room s m ([.ref o, .ref y]).toArray below meth c H locs 0 0 (MQ below (va_Qv (fun _ : Unit => True) (rwB dC dI (TYS cI cJ cC) [(o, .inr (3, [.ref o_board, .int oS_side, .int oS_rights, .int oS_passed, .int oS_clock, .int oS_number])), (o_board, .inr (0, [.ref o_board_men, .ref o_board_sets])), (o_board_men, .inl (cI, 64, .inl oS_board.1)), (o_board_sets, .inl (cJ, 16, .inr (.inl oS_board.2))), (y, .inr (2, [.ref y_characters, .int ((f_Wr_tellMen oS_board yS_characters yS_length).2)])), (y_characters, .inl (cC, 100, .inl ((f_Wr_tellMen oS_board yS_characters yS_length).1)))] A) A) ([.ref o, .ref y]).toArray s 0 0 A) (F0 m 3 ls []) := by
    intro n_3
    induction n_3 with
    | zero => intro v2_3 W_y_3 _ hm_3; exact absurd hm_3 (by omega)
    | succ n_3 ih_3 =>
      intro v2_3 W_y_3 he_3 hm_3 H locs hP hD hS ls hl
      refine lv_iload_n hx hb dWr_tellMen_3 rfl (lv_at hl 2 rfl) ?_
      refine lv_if_lt (tgt := 29) hx hb dWr_tellMen_4 (by decide) (fun c_1 => ?_) (fun c_1 => ?_)
      · have hv : f_Wr_tellMen oS_board yS_characters yS_length = (W_y_3.1, W_y_3.2) := (he_3.trans (by rw [f_Wr_tellMen_3_eq, if_pos c_1] <;> rfl))
        have hP9 : va_P (dC, dI) vwCl [(o, .inr (3, [.ref o_board, .int oS_side, .int oS_rights, .int oS_passed, .int oS_clock, .int oS_number])), (o_board, .inr (0, [.ref o_board_men, .ref o_board_sets])), (o_board_men, .inl (cI, 64, .inl oS_board.1)), (o_board_sets, .inl (cJ, 16, .inr (.inl oS_board.2))), (y, .inr (2, [.ref y_characters, .int ((f_Wr_tellMen oS_board yS_characters yS_length).2)])), (y_characters, .inl (cC, 100, .inl ((f_Wr_tellMen oS_board yS_characters yS_length).1)))] H := by first | (rw [hv]; exact hP.sub [0, 1, 2, 3, 4, 5] rfl) | exact hP.sub [0, 1, 2, 3, 4, 5] rfl
        have hD9 : va_D A [(o, .inr (3, [.ref o_board, .int oS_side, .int oS_rights, .int oS_passed, .int oS_clock, .int oS_number])), (o_board, .inr (0, [.ref o_board_men, .ref o_board_sets])), (o_board_men, .inl (cI, 64, .inl oS_board.1)), (o_board_sets, .inl (cJ, 16, .inr (.inl oS_board.2))), (y, .inr (2, [.ref y_characters, .int ((f_Wr_tellMen oS_board yS_characters yS_length).2)])), (y_characters, .inl (cC, 100, .inl ((f_Wr_tellMen oS_board yS_characters yS_length).1)))] := by first | (rw [hv]; exact hD.sub [0, 1, 2, 3, 4, 5] (by decide) rfl) | exact hD.sub [0, 1, 2, 3, 4, 5] (by decide) rfl
        exact rw_retv hx hb hr hlocks hK hP9 hD9 hS dWr_tellMen_29
      · refine lv_aload_n hx hb dWr_tellMen_7 rfl (lv_at hl 0 rfl) ?_
        refine lv_iload_n hx hb dWr_tellMen_8 rfl (lv_at hl 2 rfl) ?_
        refine lv_aload_n hx hb dWr_tellMen_9 rfl (lv_at hl 1 rfl) ?_
        obtain ⟨R_10, hR_10⟩ : ∃ R9, R9 = f_Wr_tellRank oS_board W_y_3.1 W_y_3.2 v2_3 := ⟨_, rfl⟩
        have hM_10 := (c_Wr_tellRank l dC dI cI cJ cC ad o o_board o_board_men o_board_sets y y_characters H.size oS_board oS_side oS_rights oS_passed oS_clock oS_number W_y_3.1 W_y_3.2 v2_3)
        rw [← hR_10] at hM_10
        refine rw_gov (wr := []) (va_runS (As := [.ref o, .int v2_3, .ref y]) (rest := []) ⟨hx, hb, hml, hown, hB⟩ hM_10 ⟨callB_of 3 hB (big_self q3_39) rfl rfl rfl (hB _ q1_16) (hB _ q3_37) (by decide +kernel) ⟨Nat.le_of_ble_eq_true rfl, Nat.le_of_ble_eq_true rfl⟩, (hB _ q3_38)⟩ (rw_preS (GS_ok ad) hK hP hD hA hG hS [0, 1, 2, 3, 4, 5] (by decide) rfl rfl) rfl rfl hl.1 rfl (lv_room (Nat.le_of_ble_eq_true rfl)) dWr_tellMen_10 ⟨Nat.le_of_ble_eq_true rfl, Nat.le_of_ble_eq_true rfl⟩) hP hD hS hA [0, 1, 2, 3, 4, 5] [] rfl rfl (by decide) (by decide) (fun H locs hP hD hS => ?_)
        have hP : va_P (dC, dI) vwCl [(o, .inr (3, [.ref o_board, .int oS_side, .int oS_rights, .int oS_passed, .int oS_clock, .int oS_number])), (o_board, .inr (0, [.ref o_board_men, .ref o_board_sets])), (o_board_men, .inl (cI, 64, .inl oS_board.1)), (o_board_sets, .inl (cJ, 16, .inr (.inl oS_board.2))), (y, .inr (2, [.ref y_characters, .int R_10.2])), (y_characters, .inl (cC, 100, .inl R_10.1))] H := hP
        have hD : va_D A [(o, .inr (3, [.ref o_board, .int oS_side, .int oS_rights, .int oS_passed, .int oS_clock, .int oS_number])), (o_board, .inr (0, [.ref o_board_men, .ref o_board_sets])), (o_board_men, .inl (cI, 64, .inl oS_board.1)), (o_board_sets, .inl (cJ, 16, .inr (.inl oS_board.2))), (y, .inr (2, [.ref y_characters, .int R_10.2])), (y_characters, .inl (cC, 100, .inl R_10.1))] := hD
        have he_r10 : f_Wr_tellMen oS_board yS_characters yS_length = f_Wr_tellMen_r10 (f_Wr_tellMen_3 oS_board yS_characters yS_length n_3) oS_board yS_characters yS_length v2_3 W_y_3 R_10 := (he_3.trans (by rw [f_Wr_tellMen_3_eq, if_neg c_1, ← hR_10] <;> rfl))
        refine lv_iload_n hx hb dWr_tellMen_13 rfl (lv_at hl 2 rfl) ?_
        refine lv_if_le (tgt := 23) hx hb dWr_tellMen_14 (by decide) (fun c_2 => ?_) (fun c_2 => ?_)
        · refine lv_iinc (v := v2_3 + (-1)) (lv' := [(2, .int (v2_3 + (-1))), (0, .ref o), (1, .ref y)]) hx hb dWr_tellMen_23 hl (k := 2) rfl rfl (by decide) rfl (fun ls hl => ?_)
          refine lv_goto (tgt := 3) hx hb dWr_tellMen_26 (by decide) ?_
          exact ih_3 (v2_3 + (-1)) R_10 (he_r10.trans (by rw [f_Wr_tellMen_r10_eq, if_pos c_2] <;> rfl)) (by have z1 := tnl c_1; have z2 := tle c_2; have y0 : (0 : Int32).toInt = 0 := rfl; have zs := i_pred v2_3 (by omega); omega) _ _ (hP.sub [0, 1, 2, 3, 4, 5] rfl) (hD.sub [0, 1, 2, 3, 4, 5] (by decide) rfl) hS ls (lv_sub hl [1, 2, 0] rfl)
        · refine lv_aload_n hx hb dWr_tellMen_17 rfl (lv_at hl 1 rfl) ?_
          refine lv_bipush (v := 47) hx hb dWr_tellMen_18 (by decide) ?_
          obtain ⟨R_20, hR_20⟩ : ∃ R9, R9 = f_Li_add R_10.1 R_10.2 47 := ⟨_, rfl⟩
          have hM_20 := (c_Li_add l dC dI cI cJ cC ad y y_characters H.size R_10.1 R_10.2 47)
          rw [← hR_20] at hM_20
          refine rw_gov (wr := [(o, .inr (3, [.ref o_board, .int oS_side, .int oS_rights, .int oS_passed, .int oS_clock, .int oS_number])), (o_board, .inr (0, [.ref o_board_men, .ref o_board_sets])), (o_board_men, .inl (cI, 64, .inl oS_board.1)), (o_board_sets, .inl (cJ, 16, .inr (.inl oS_board.2)))]) (va_runVN (C := "ChessRules$Line") (As := [.int 47]) (rest := []) ⟨hx, hb, hml, hown, hB⟩ hM_20 ⟨va_cnB 1 hB (big_self q1_216) rfl rfl rfl (hG.1 _ q3_44) (hB _ q1_3) (by decide +kernel) ⟨Nat.le_of_ble_eq_true rfl, Nat.le_of_ble_eq_true rfl⟩, (hB _ q1_215), (hB _ qs1_0)⟩ (rw_preV (GS_ok ad) hK hP hD hA hG hS [4, 5] (by decide) rfl rfl (va_recv hK hP (ci := 2) (q0 := 4) rfl rfl)) rfl rfl hl.1 rfl (lv_room (Nat.le_of_ble_eq_true rfl)) dWr_tellMen_20 ⟨Nat.le_of_ble_eq_true rfl, Nat.le_of_ble_eq_true rfl⟩) hP hD hS hA [4, 5] [0, 1, 2, 3] rfl rfl (by decide) (by decide) (fun H locs hP hD hS => ?_)
          have hP : va_P (dC, dI) vwCl [(o, .inr (3, [.ref o_board, .int oS_side, .int oS_rights, .int oS_passed, .int oS_clock, .int oS_number])), (o_board, .inr (0, [.ref o_board_men, .ref o_board_sets])), (o_board_men, .inl (cI, 64, .inl oS_board.1)), (o_board_sets, .inl (cJ, 16, .inr (.inl oS_board.2))), (y, .inr (2, [.ref y_characters, .int R_20.2])), (y_characters, .inl (cC, 100, .inl R_20.1))] H := hP
          have hD : va_D A [(o, .inr (3, [.ref o_board, .int oS_side, .int oS_rights, .int oS_passed, .int oS_clock, .int oS_number])), (o_board, .inr (0, [.ref o_board_men, .ref o_board_sets])), (o_board_men, .inl (cI, 64, .inl oS_board.1)), (o_board_sets, .inl (cJ, 16, .inr (.inl oS_board.2))), (y, .inr (2, [.ref y_characters, .int R_20.2])), (y_characters, .inl (cC, 100, .inl R_20.1))] := hD
          have he_r20 : f_Wr_tellMen oS_board yS_characters yS_length = f_Wr_tellMen_r20 (f_Wr_tellMen_3 oS_board yS_characters yS_length n_3) oS_board yS_characters yS_length v2_3 W_y_3 R_10 R_20 := (he_r10.trans (by rw [f_Wr_tellMen_r10_eq, if_neg c_2, ← hR_20] <;> rfl))
          refine lv_iinc (v := v2_3 + (-1)) (lv' := [(2, .int (v2_3 + (-1))), (0, .ref o), (1, .ref y)]) hx hb dWr_tellMen_23 hl (k := 2) rfl rfl (by decide) rfl (fun ls hl => ?_)
          refine lv_goto (tgt := 3) hx hb dWr_tellMen_26 (by decide) ?_
          exact ih_3 (v2_3 + (-1)) R_20 (he_r20.trans (by rw [f_Wr_tellMen_r20_eq] <;> rfl)) (by have z1 := tnl c_1; have z2 := tnle c_2; have y0 : (0 : Int32).toInt = 0 := rfl; have zs := i_pred v2_3 (by omega); omega) _ _ (hP.sub [0, 1, 2, 3, 4, 5] rfl) (hD.sub [0, 1, 2, 3, 4, 5] (by decide) rfl) hS ls (lv_sub hl [1, 2, 0] rfl)
  exact J_3 (9) 7 (yS_characters, yS_length) (by rw [f_Wr_tellMen_eq] <;> rfl) (by decide) _ _ (hP.sub [0, 1, 2, 3, 4, 5] rfl) (hD.sub [0, 1, 2, 3, 4, 5] (by decide) rfl) hS ls (lv_sub hl [1, 2, 0] rfl)

abbrev cWr_tellRights : ByteArray := prog_9_method_7_code
def yWr_tellRights : MethodName := ⟨"ChessRules$Writer", "tellRights", "(ILChessRules$Line;)V"⟩
def wsWr_tellRights : List Cond := Cond.code yWr_tellRights cWr_tellRights 3 none :: BIG
theorem dWr_tellRights_0 : decode cWr_tellRights 0 = .ok (.iconst 0, 1) := by decide +kernel
theorem dWr_tellRights_1 : decode cWr_tellRights 1 = .ok (.istore_n 2, 1) := by decide +kernel
theorem dWr_tellRights_2 : decode cWr_tellRights 2 = .ok (.iload_n 2, 1) := by decide +kernel
theorem dWr_tellRights_3 : decode cWr_tellRights 3 = .ok (.ldc 84, 2) := by decide +kernel
theorem dWr_tellRights_5 : decode cWr_tellRights 5 = .ok (.invokevirtual 74, 3) := by decide +kernel
theorem dWr_tellRights_8 : decode cWr_tellRights 8 = .ok (.if_icmp .ge 27, 3) := by decide +kernel
theorem dWr_tellRights_11 : decode cWr_tellRights 11 = .ok (.iload_n 0, 1) := by decide +kernel
theorem dWr_tellRights_12 : decode cWr_tellRights 12 = .ok (.iload_n 2, 1) := by decide +kernel
theorem dWr_tellRights_13 : decode cWr_tellRights 13 = .ok (.ishr, 1) := by decide +kernel
theorem dWr_tellRights_14 : decode cWr_tellRights 14 = .ok (.iconst 1, 1) := by decide +kernel
theorem dWr_tellRights_15 : decode cWr_tellRights 15 = .ok (.iand, 1) := by decide +kernel
theorem dWr_tellRights_16 : decode cWr_tellRights 16 = .ok (.ifCond .eq 13, 3) := by decide +kernel
theorem dWr_tellRights_19 : decode cWr_tellRights 19 = .ok (.aload_n 1, 1) := by decide +kernel
theorem dWr_tellRights_20 : decode cWr_tellRights 20 = .ok (.ldc 84, 2) := by decide +kernel
theorem dWr_tellRights_22 : decode cWr_tellRights 22 = .ok (.iload_n 2, 1) := by decide +kernel
theorem dWr_tellRights_23 : decode cWr_tellRights 23 = .ok (.invokevirtual 80, 3) := by decide +kernel
theorem dWr_tellRights_26 : decode cWr_tellRights 26 = .ok (.invokevirtual 21, 3) := by decide +kernel
theorem dWr_tellRights_29 : decode cWr_tellRights 29 = .ok (.iinc 2 1, 3) := by decide +kernel
theorem dWr_tellRights_32 : decode cWr_tellRights 32 = .ok (.goto (-30), 3) := by decide +kernel
theorem dWr_tellRights_35 : decode cWr_tellRights 35 = .ok (.iload_n 0, 1) := by decide +kernel
theorem dWr_tellRights_36 : decode cWr_tellRights 36 = .ok (.ifCond .ne 9, 3) := by decide +kernel
theorem dWr_tellRights_39 : decode cWr_tellRights 39 = .ok (.aload_n 1, 1) := by decide +kernel
theorem dWr_tellRights_40 : decode cWr_tellRights 40 = .ok (.bipush 45, 2) := by decide +kernel
theorem dWr_tellRights_42 : decode cWr_tellRights 42 = .ok (.invokevirtual 21, 3) := by decide +kernel
theorem dWr_tellRights_45 : decode cWr_tellRights 45 = .ok (.return_, 1) := by decide +kernel

def f_Wr_tellRights_r42 (yS_characters : Nat → Int32) (yS_length : Int32) (rights : Int32) (v2_2 : Int32) (W_y_2 : St_Li) (R_42 : ((Nat → Int32) × Int32)) : (Nat → Int32) × Int32 :=
  (R_42.1, R_42.2)
theorem f_Wr_tellRights_r42_eq (yS_characters : Nat → Int32) (yS_length : Int32) (rights : Int32) (v2_2 : Int32) (W_y_2 : St_Li) (R_42 : ((Nat → Int32) × Int32)) : f_Wr_tellRights_r42 yS_characters yS_length rights v2_2 W_y_2 R_42 =
  (R_42.1, R_42.2) := rfl

def f_Wr_tellRights_r26 (r_2 : Int32 → St_Li → ((Nat → Int32) × Int32)) (yS_characters : Nat → Int32) (yS_length : Int32) (rights : Int32) (v2_2 : Int32) (W_y_2 : St_Li) (R_26 : ((Nat → Int32) × Int32)) : (Nat → Int32) × Int32 :=
  r_2 (v2_2 + 1) R_26
theorem f_Wr_tellRights_r26_eq (r_2 : Int32 → St_Li → ((Nat → Int32) × Int32)) (yS_characters : Nat → Int32) (yS_length : Int32) (rights : Int32) (v2_2 : Int32) (W_y_2 : St_Li) (R_26 : ((Nat → Int32) × Int32)) : f_Wr_tellRights_r26 r_2 yS_characters yS_length rights v2_2 W_y_2 R_26 =
  r_2 (v2_2 + 1) R_26 := rfl

def f_Wr_tellRights_2 (yS_characters : Nat → Int32) (yS_length : Int32) (rights : Int32) : Nat → Int32 → St_Li → ((Nat → Int32) × Int32)
  | 0 => fun _ _ => (yS_characters, yS_length)
  | n_2 + 1 => fun v2_2 W_y_2 => (if (f_Js_length 4 tRIGHTS) ≤ v2_2 then (if rights = 0 then f_Wr_tellRights_r42 yS_characters yS_length rights v2_2 W_y_2 (f_Li_add W_y_2.1 W_y_2.2 45) else (W_y_2.1, W_y_2.2)) else (if ((rights >>> (v2_2 &&& 31)) &&& 1) = 0 then (f_Wr_tellRights_2 yS_characters yS_length rights n_2) (v2_2 + 1) W_y_2 else f_Wr_tellRights_r26 (f_Wr_tellRights_2 yS_characters yS_length rights n_2) yS_characters yS_length rights v2_2 W_y_2 (f_Li_add W_y_2.1 W_y_2.2 (f_Js_charAt 4 tRIGHTS v2_2))))
theorem f_Wr_tellRights_2_eq (yS_characters : Nat → Int32) (yS_length : Int32) (rights : Int32) (n_2 : Nat) (v2_2 : Int32) (W_y_2 : St_Li) : f_Wr_tellRights_2 yS_characters yS_length rights (n_2 + 1) v2_2 W_y_2 =
  (if (f_Js_length 4 tRIGHTS) ≤ v2_2 then (if rights = 0 then f_Wr_tellRights_r42 yS_characters yS_length rights v2_2 W_y_2 (f_Li_add W_y_2.1 W_y_2.2 45) else (W_y_2.1, W_y_2.2)) else (if ((rights >>> (v2_2 &&& 31)) &&& 1) = 0 then (f_Wr_tellRights_2 yS_characters yS_length rights n_2) (v2_2 + 1) W_y_2 else f_Wr_tellRights_r26 (f_Wr_tellRights_2 yS_characters yS_length rights n_2) yS_characters yS_length rights v2_2 W_y_2 (f_Li_add W_y_2.1 W_y_2.2 (f_Js_charAt 4 tRIGHTS v2_2)))) := rfl

def f_Wr_tellRights (yS_characters : Nat → Int32) (yS_length : Int32) (rights : Int32) : (Nat → Int32) × Int32 :=
  f_Wr_tellRights_2 yS_characters yS_length rights (5) 0 (yS_characters, yS_length)
theorem f_Wr_tellRights_eq (yS_characters : Nat → Int32) (yS_length : Int32) (rights : Int32) : f_Wr_tellRights yS_characters yS_length rights =
  f_Wr_tellRights_2 yS_characters yS_length rights (5) 0 (yS_characters, yS_length) := rfl

set_option maxHeartbeats 4000000 in
set_option maxRecDepth 100000 in
theorem c_Wr_tellRights (l : Launch) (dC : Nat → ClassId) (dI : Nat → Nat → Nat) (cI cJ cC : ClassId) (ad : Nat → Nat) (y y_characters : Nat) (sz : Nat) (yS_characters : Nat → Int32) (yS_length : Int32) (rights : Int32) : Met l yWr_tellRights wsWr_tellRights { frames := 4, cells := 0, slots := 0, locals := 85 } (rwP dC dI (TYS cI cJ cC) [.int rights, .ref y] [(y, .inr (2, [.ref y_characters, .int yS_length])), (y_characters, .inl (cC, 100, .inl yS_characters))] sz (GS ad)) (va_Qv (fun _ : Unit => True) (rwB dC dI (TYS cI cJ cC) [(y, .inr (2, [.ref y_characters, .int ((f_Wr_tellRights yS_characters yS_length rights).2)])), (y_characters, .inl (cC, 100, .inl ((f_Wr_tellRights yS_characters yS_length rights).1)))] (va_A [(y, .inr (2, [.ref y_characters, .int yS_length])), (y_characters, .inl (cC, 100, .inl yS_characters))] sz)) (va_A [(y, .inr (2, [.ref y_characters, .int yS_length])), (y_characters, .inl (cC, 100, .inl yS_characters))] sz)) 0 0 (va_A [(y, .inr (2, [.ref y_characters, .int yS_length])), (y_characters, .inl (cC, 100, .inl yS_characters))] sz) := by
  refine Met.ofW (cc := cWr_tellRights) (maxL := 3) (ret := none) (by decide) rfl ?_
  intro p e s m args below meth c s₁ B hml hv
  obtain ⟨rfl, hsz, hP, hK, hD0, hG⟩ := hv
  have hx := B.exec
  have hb := B.bytes
  have hr := B.returns
  have hB : ∀ w9 ∈ BIG, w9.before ([.int rights, .ref y]).toArray s = true := fun w9 h => atoms_spec (ws := wsWr_tellRights) B.pre w9 (List.mem_cons_of_mem _ h)
  have hown : s.vm.findClass "ChessRules$Writer" = some m.cls := findClass_of_methodNamed B.named
  have hlocks := B.notSynchronized
  subst hsz
  have hD := hD0.self (sz := s.heap.size)
  generalize hAe : va_A [(y, .inr (2, [.ref y_characters, .int yS_length])), (y_characters, .inl (cC, 100, .inl yS_characters))] s.heap.size = A at hD hG ⊢
  have hA : ∀ q : Nat, s.heap.size ≤ q → A q := fun q h => by rw [← hAe]; exact Or.inr h
  have hS : va_S A s.heap s.heap [] := va_S.rf
  have hP : va_P (dC, dI) vwCl [(y, .inr (2, [.ref y_characters, .int yS_length])), (y_characters, .inl (cC, 100, .inl yS_characters))] s.heap := hP
  have hl := lv_entry ([.int rights, .ref y]) (n := 3) (Nat.le_of_ble_eq_true rfl)
  rw [lg_entry_eq]
  generalize (lg_sl ([.int rights, .ref y]) ++ List.replicate (3 - (lg_sl ([.int rights, .ref y])).length) Slot.unset).toArray = ls at hl ⊢
  have hl : lv_has ls 3 [(0, .int rights), (1, .ref y)] := hl
  refine lv_iconst (v := 0) hx hb dWr_tellRights_0 (by decide) ?_
  refine lv_istore_n (lv' := [(2, .int 0), (0, .int rights), (1, .ref y)]) hx hb dWr_tellRights_1 rfl hl (by decide) rfl (fun ls hl => ?_)
  have J_2 : ∀ (n_2 : Nat) (v2_2 : Int32) (W_y_2 : St_Li), f_Wr_tellRights yS_characters yS_length rights = f_Wr_tellRights_2 yS_characters yS_length rights n_2 v2_2 W_y_2 → ((0 : Int) ≤ v2_2.toInt ∧ (4 : Int32).toInt - v2_2.toInt + 1 ≤ (n_2 : Int) ∧ (1 : Int) ≤ (n_2 : Int)) → ∀ (H : Heap) (locs : List Loc), va_P (dC, dI) vwCl [(y, .inr (2, [.ref y_characters, .int W_y_2.2])), (y_characters, .inl (cC, 100, .inl W_y_2.1))] H → va_D A [(y, .inr (2, [.ref y_characters, .int W_y_2.2])), (y_characters, .inl (cC, 100, .inl W_y_2.1))] → va_S A s.heap H locs → ∀ ls : Array Slot, lv_has ls 3 [(0, .int rights), (1, .ref y), (2, .int v2_2)] → W p l e (headSpec wsWr_tellRights { frames := 4, cells := 0, slots := 0, locals := 85 }).room s m ([.int rights, .ref y]).toArray below meth c H locs 0 0 (MQ below (va_Qv (fun _ : Unit => True) (rwB dC dI (TYS cI cJ cC) [(y, .inr (2, [.ref y_characters, .int ((f_Wr_tellRights yS_characters yS_length rights).2)])), (y_characters, .inl (cC, 100, .inl ((f_Wr_tellRights yS_characters yS_length rights).1)))] A) A) ([.int rights, .ref y]).toArray s 0 0 A) (F0 m 2 ls []) := by
    intro n_2
    induction n_2 with
    | zero => intro v2_2 W_y_2 _ hm_2; exact absurd hm_2 (by omega)
    | succ n_2 ih_2 =>
      intro v2_2 W_y_2 he_2 hm_2 H locs hP hD hS ls hl
      refine lv_iload_n hx hb dWr_tellRights_2 rfl (lv_at hl 2 rfl) ?_
      refine va_ldcS hx hb hown hG.2.2.1.2.2.2.2.2.1 dWr_tellRights_3 ?_
      refine ro_goi (va_runV (C := "java/lang/String") (As := []) (rest := [.int v2_2]) ⟨hx, hb, hml, hown, hB⟩ (c_Js_length l dC dI cI cJ cC ad (ad 16) (ad 17) 4 tRIGHTS (gs_rights ad)) ⟨callB_of 0 hB (big_self q1_168) rfl rfl rfl (hB _ q1_7) (hB _ q3_49) (by decide +kernel) ⟨Nat.le_of_ble_eq_true rfl, Nat.le_of_ble_eq_true rfl⟩, (hB _ q1_166), (hB _ q1_167)⟩ (ro_preV (GS_ok ad) hK hP hG hS [] rfl (gs_recv hS ((gs_rights ad) _ _ _ hG))) rfl rfl hl.1 rfl (lv_room (Nat.le_of_ble_eq_true rfl)) dWr_tellRights_5 ⟨Nat.le_of_ble_eq_true rfl, Nat.le_of_ble_eq_true rfl⟩) ?_
      refine lv_icmp_ge (tgt := 35) hx hb dWr_tellRights_8 (by decide) (fun c_1 => ?_) (fun c_1 => ?_)
      · refine lv_iload_n hx hb dWr_tellRights_35 rfl (lv_at hl 0 rfl) ?_
        refine lv_if_ne (tgt := 45) hx hb dWr_tellRights_36 (by decide) (fun c_2 => ?_) (fun c_2 => ?_)
        · have hv : f_Wr_tellRights yS_characters yS_length rights = (W_y_2.1, W_y_2.2) := (he_2.trans (by rw [f_Wr_tellRights_2_eq, if_pos c_1, if_neg c_2] <;> rfl))
          have hP9 : va_P (dC, dI) vwCl [(y, .inr (2, [.ref y_characters, .int ((f_Wr_tellRights yS_characters yS_length rights).2)])), (y_characters, .inl (cC, 100, .inl ((f_Wr_tellRights yS_characters yS_length rights).1)))] H := by first | (rw [hv]; exact hP.sub [0, 1] rfl) | exact hP.sub [0, 1] rfl
          have hD9 : va_D A [(y, .inr (2, [.ref y_characters, .int ((f_Wr_tellRights yS_characters yS_length rights).2)])), (y_characters, .inl (cC, 100, .inl ((f_Wr_tellRights yS_characters yS_length rights).1)))] := by first | (rw [hv]; exact hD.sub [0, 1] (by decide) rfl) | exact hD.sub [0, 1] (by decide) rfl
          exact rw_retv hx hb hr hlocks hK hP9 hD9 hS dWr_tellRights_45
        · refine lv_aload_n hx hb dWr_tellRights_39 rfl (lv_at hl 1 rfl) ?_
          refine lv_bipush (v := 45) hx hb dWr_tellRights_40 (by decide) ?_
          obtain ⟨R_42, hR_42⟩ : ∃ R9, R9 = f_Li_add W_y_2.1 W_y_2.2 45 := ⟨_, rfl⟩
          have hM_42 := (c_Li_add l dC dI cI cJ cC ad y y_characters H.size W_y_2.1 W_y_2.2 45)
          rw [← hR_42] at hM_42
          refine rw_gov (wr := []) (va_runVN (C := "ChessRules$Line") (As := [.int 45]) (rest := []) ⟨hx, hb, hml, hown, hB⟩ hM_42 ⟨va_cnB 1 hB (big_self q1_216) rfl rfl rfl (hG.1 _ q3_44) (hB _ q1_3) (by decide +kernel) ⟨Nat.le_of_ble_eq_true rfl, Nat.le_of_ble_eq_true rfl⟩, (hB _ q1_215), (hB _ qs1_0)⟩ (rw_preV (GS_ok ad) hK hP hD hA hG hS [0, 1] (by decide) rfl rfl (va_recv hK hP (ci := 2) (q0 := 0) rfl rfl)) rfl rfl hl.1 rfl (lv_room (Nat.le_of_ble_eq_true rfl)) dWr_tellRights_42 ⟨Nat.le_of_ble_eq_true rfl, Nat.le_of_ble_eq_true rfl⟩) hP hD hS hA [0, 1] [] rfl rfl (by decide) (by decide) (fun H locs hP hD hS => ?_)
          have hP : va_P (dC, dI) vwCl [(y, .inr (2, [.ref y_characters, .int R_42.2])), (y_characters, .inl (cC, 100, .inl R_42.1))] H := hP
          have hD : va_D A [(y, .inr (2, [.ref y_characters, .int R_42.2])), (y_characters, .inl (cC, 100, .inl R_42.1))] := hD
          have he_r42 : f_Wr_tellRights yS_characters yS_length rights = f_Wr_tellRights_r42 yS_characters yS_length rights v2_2 W_y_2 R_42 := (he_2.trans (by rw [f_Wr_tellRights_2_eq, if_pos c_1, if_pos c_2, ← hR_42] <;> rfl))
          have hv : f_Wr_tellRights yS_characters yS_length rights = (R_42.1, R_42.2) := (he_r42.trans (by rw [f_Wr_tellRights_r42_eq] <;> rfl))
          have hP9 : va_P (dC, dI) vwCl [(y, .inr (2, [.ref y_characters, .int ((f_Wr_tellRights yS_characters yS_length rights).2)])), (y_characters, .inl (cC, 100, .inl ((f_Wr_tellRights yS_characters yS_length rights).1)))] H := by first | (rw [hv]; exact hP.sub [0, 1] rfl) | exact hP.sub [0, 1] rfl
          have hD9 : va_D A [(y, .inr (2, [.ref y_characters, .int ((f_Wr_tellRights yS_characters yS_length rights).2)])), (y_characters, .inl (cC, 100, .inl ((f_Wr_tellRights yS_characters yS_length rights).1)))] := by first | (rw [hv]; exact hD.sub [0, 1] (by decide) rfl) | exact hD.sub [0, 1] (by decide) rfl
          exact rw_retv hx hb hr hlocks hK hP9 hD9 hS dWr_tellRights_45
      · refine lv_iload_n hx hb dWr_tellRights_11 rfl (lv_at hl 0 rfl) ?_
        refine lv_iload_n hx hb dWr_tellRights_12 rfl (lv_at hl 2 rfl) ?_
        refine lv_ishr hx hb dWr_tellRights_13 ?_
        refine lv_iconst (v := 1) hx hb dWr_tellRights_14 (by decide) ?_
        refine lv_iand hx hb dWr_tellRights_15 ?_
        refine lv_if_eq (tgt := 29) hx hb dWr_tellRights_16 (by decide) (fun c_3 => ?_) (fun c_3 => ?_)
        · refine lv_iinc (v := v2_2 + 1) (lv' := [(2, .int (v2_2 + 1)), (0, .int rights), (1, .ref y)]) hx hb dWr_tellRights_29 hl (k := 2) rfl rfl (by decide) rfl (fun ls hl => ?_)
          refine lv_goto (tgt := 2) hx hb dWr_tellRights_32 (by decide) ?_
          exact ih_2 (v2_2 + 1) W_y_2 (he_2.trans (by rw [f_Wr_tellRights_2_eq, if_neg c_1, if_pos c_3] <;> rfl)) (by have z1 := tnle c_1; have z2 := teq c_3; have y0 : (0 : Int32).toInt = 0 := rfl; have y1 : (1 : Int32).toInt = 1 := rfl; have y4 : (4 : Int32).toInt = 4 := rfl; have y31 : (31 : Int32).toInt = 31 := rfl; have yb : (f_Js_length 4 tRIGHTS).toInt = 4 := (by decide); have zr := i_rng (4 : Int32); have zs := i_succ9 v2_2 (by omega); omega) _ _ (hP.sub [0, 1] rfl) (hD.sub [0, 1] (by decide) rfl) hS ls (lv_sub hl [1, 2, 0] rfl)
        · refine lv_aload_n hx hb dWr_tellRights_19 rfl (lv_at hl 1 rfl) ?_
          refine va_ldcS hx hb hown hG.2.2.1.2.2.2.2.2.1 dWr_tellRights_20 ?_
          refine lv_iload_n hx hb dWr_tellRights_22 rfl (lv_at hl 2 rfl) ?_
          refine ro_goi (va_runV (C := "java/lang/String") (As := [.int v2_2]) (rest := [.ref y]) ⟨hx, hb, hml, hown, hB⟩ (c_Js_charAt l dC dI cI cJ cC ad (ad 16) (ad 17) 4 tRIGHTS v2_2 (gs_rights ad) (by have z1 := tnle c_1; have z2 := tne c_3; have y0 : (0 : Int32).toInt = 0 := rfl; have y1 : (1 : Int32).toInt = 1 := rfl; have y4 : (4 : Int32).toInt = 4 := rfl; have y31 : (31 : Int32).toInt = 31 := rfl; have yb : (f_Js_length 4 tRIGHTS).toInt = 4 := (by decide); omega) (by decide)) ⟨callB_of 1 hB (big_self q1_178) rfl rfl rfl (hB _ q1_7) (hB _ q3_50) (by decide +kernel) ⟨Nat.le_of_ble_eq_true rfl, Nat.le_of_ble_eq_true rfl⟩, (hB _ q1_176), (hB _ q1_177)⟩ (ro_preV (GS_ok ad) hK hP hG hS [] rfl (gs_recv hS ((gs_rights ad) _ _ _ hG))) rfl rfl hl.1 rfl (lv_room (Nat.le_of_ble_eq_true rfl)) dWr_tellRights_23 ⟨Nat.le_of_ble_eq_true rfl, Nat.le_of_ble_eq_true rfl⟩) ?_
          obtain ⟨R_26, hR_26⟩ : ∃ R9, R9 = f_Li_add W_y_2.1 W_y_2.2 (f_Js_charAt 4 tRIGHTS v2_2) := ⟨_, rfl⟩
          have hM_26 := (c_Li_add l dC dI cI cJ cC ad y y_characters H.size W_y_2.1 W_y_2.2 (f_Js_charAt 4 tRIGHTS v2_2))
          rw [← hR_26] at hM_26
          refine rw_gov (wr := []) (va_runVN (C := "ChessRules$Line") (As := [.int (f_Js_charAt 4 tRIGHTS v2_2)]) (rest := []) ⟨hx, hb, hml, hown, hB⟩ hM_26 ⟨va_cnB 1 hB (big_self q1_216) rfl rfl rfl (hG.1 _ q3_44) (hB _ q1_3) (by decide +kernel) ⟨Nat.le_of_ble_eq_true rfl, Nat.le_of_ble_eq_true rfl⟩, (hB _ q1_215), (hB _ qs1_0)⟩ (rw_preV (GS_ok ad) hK hP hD hA hG hS [0, 1] (by decide) rfl rfl (va_recv hK hP (ci := 2) (q0 := 0) rfl rfl)) rfl rfl hl.1 rfl (lv_room (Nat.le_of_ble_eq_true rfl)) dWr_tellRights_26 ⟨Nat.le_of_ble_eq_true rfl, Nat.le_of_ble_eq_true rfl⟩) hP hD hS hA [0, 1] [] rfl rfl (by decide) (by decide) (fun H locs hP hD hS => ?_)
          have hP : va_P (dC, dI) vwCl [(y, .inr (2, [.ref y_characters, .int R_26.2])), (y_characters, .inl (cC, 100, .inl R_26.1))] H := hP
          have hD : va_D A [(y, .inr (2, [.ref y_characters, .int R_26.2])), (y_characters, .inl (cC, 100, .inl R_26.1))] := hD
          have he_r26 : f_Wr_tellRights yS_characters yS_length rights = f_Wr_tellRights_r26 (f_Wr_tellRights_2 yS_characters yS_length rights n_2) yS_characters yS_length rights v2_2 W_y_2 R_26 := (he_2.trans (by rw [f_Wr_tellRights_2_eq, if_neg c_1, if_neg c_3, ← hR_26] <;> rfl))
          refine lv_iinc (v := v2_2 + 1) (lv' := [(2, .int (v2_2 + 1)), (0, .int rights), (1, .ref y)]) hx hb dWr_tellRights_29 hl (k := 2) rfl rfl (by decide) rfl (fun ls hl => ?_)
          refine lv_goto (tgt := 2) hx hb dWr_tellRights_32 (by decide) ?_
          exact ih_2 (v2_2 + 1) R_26 (he_r26.trans (by rw [f_Wr_tellRights_r26_eq] <;> rfl)) (by have z1 := tnle c_1; have z2 := tne c_3; have y0 : (0 : Int32).toInt = 0 := rfl; have y1 : (1 : Int32).toInt = 1 := rfl; have y4 : (4 : Int32).toInt = 4 := rfl; have y31 : (31 : Int32).toInt = 31 := rfl; have yb : (f_Js_length 4 tRIGHTS).toInt = 4 := (by decide); have zr := i_rng (4 : Int32); have zs := i_succ9 v2_2 (by omega); omega) _ _ (hP.sub [0, 1] rfl) (hD.sub [0, 1] (by decide) rfl) hS ls (lv_sub hl [1, 2, 0] rfl)
  exact J_2 (5) 0 (yS_characters, yS_length) (by rw [f_Wr_tellRights_eq] <;> rfl) (by decide) _ _ (hP.sub [0, 1] rfl) (hD.sub [0, 1] (by decide) rfl) hS ls (lv_sub hl [1, 2, 0] rfl)

abbrev cWr_tellPassed : ByteArray := prog_9_method_8_code
def yWr_tellPassed : MethodName := ⟨"ChessRules$Writer", "tellPassed", "(ILChessRules$Line;)V"⟩
def wsWr_tellPassed : List Cond := Cond.code yWr_tellPassed cWr_tellPassed 2 none :: BIG
theorem dWr_tellPassed_0 : decode cWr_tellPassed 0 = .ok (.iload_n 0, 1) := by decide +kernel
theorem dWr_tellPassed_1 : decode cWr_tellPassed 1 = .ok (.iconst (-1), 1) := by decide +kernel
theorem dWr_tellPassed_2 : decode cWr_tellPassed 2 = .ok (.if_icmp .ne 12, 3) := by decide +kernel
theorem dWr_tellPassed_5 : decode cWr_tellPassed 5 = .ok (.aload_n 1, 1) := by decide +kernel
theorem dWr_tellPassed_6 : decode cWr_tellPassed 6 = .ok (.bipush 45, 2) := by decide +kernel
theorem dWr_tellPassed_8 : decode cWr_tellPassed 8 = .ok (.invokevirtual 21, 3) := by decide +kernel
theorem dWr_tellPassed_11 : decode cWr_tellPassed 11 = .ok (.goto 24, 3) := by decide +kernel
theorem dWr_tellPassed_14 : decode cWr_tellPassed 14 = .ok (.aload_n 1, 1) := by decide +kernel
theorem dWr_tellPassed_15 : decode cWr_tellPassed 15 = .ok (.bipush 97, 2) := by decide +kernel
theorem dWr_tellPassed_17 : decode cWr_tellPassed 17 = .ok (.iload_n 0, 1) := by decide +kernel
theorem dWr_tellPassed_18 : decode cWr_tellPassed 18 = .ok (.bipush 7, 2) := by decide +kernel
theorem dWr_tellPassed_20 : decode cWr_tellPassed 20 = .ok (.iand, 1) := by decide +kernel
theorem dWr_tellPassed_21 : decode cWr_tellPassed 21 = .ok (.iadd, 1) := by decide +kernel
theorem dWr_tellPassed_22 : decode cWr_tellPassed 22 = .ok (.invokevirtual 21, 3) := by decide +kernel
theorem dWr_tellPassed_25 : decode cWr_tellPassed 25 = .ok (.aload_n 1, 1) := by decide +kernel
theorem dWr_tellPassed_26 : decode cWr_tellPassed 26 = .ok (.bipush 49, 2) := by decide +kernel
theorem dWr_tellPassed_28 : decode cWr_tellPassed 28 = .ok (.iload_n 0, 1) := by decide +kernel
theorem dWr_tellPassed_29 : decode cWr_tellPassed 29 = .ok (.iconst 3, 1) := by decide +kernel
theorem dWr_tellPassed_30 : decode cWr_tellPassed 30 = .ok (.ishr, 1) := by decide +kernel
theorem dWr_tellPassed_31 : decode cWr_tellPassed 31 = .ok (.iadd, 1) := by decide +kernel
theorem dWr_tellPassed_32 : decode cWr_tellPassed 32 = .ok (.invokevirtual 21, 3) := by decide +kernel
theorem dWr_tellPassed_35 : decode cWr_tellPassed 35 = .ok (.return_, 1) := by decide +kernel

def f_Wr_tellPassed_r32 (yS_characters : Nat → Int32) (yS_length : Int32) (passed : Int32) (R_22 : ((Nat → Int32) × Int32)) (R_32 : ((Nat → Int32) × Int32)) : (Nat → Int32) × Int32 :=
  (R_32.1, R_32.2)
theorem f_Wr_tellPassed_r32_eq (yS_characters : Nat → Int32) (yS_length : Int32) (passed : Int32) (R_22 : ((Nat → Int32) × Int32)) (R_32 : ((Nat → Int32) × Int32)) : f_Wr_tellPassed_r32 yS_characters yS_length passed R_22 R_32 =
  (R_32.1, R_32.2) := rfl

def f_Wr_tellPassed_r22 (yS_characters : Nat → Int32) (yS_length : Int32) (passed : Int32) (R_22 : ((Nat → Int32) × Int32)) : (Nat → Int32) × Int32 :=
  f_Wr_tellPassed_r32 yS_characters yS_length passed R_22 (f_Li_add R_22.1 R_22.2 (49 + (passed >>> ((3 : Int32) &&& 31))))
theorem f_Wr_tellPassed_r22_eq (yS_characters : Nat → Int32) (yS_length : Int32) (passed : Int32) (R_22 : ((Nat → Int32) × Int32)) : f_Wr_tellPassed_r22 yS_characters yS_length passed R_22 =
  f_Wr_tellPassed_r32 yS_characters yS_length passed R_22 (f_Li_add R_22.1 R_22.2 (49 + (passed >>> ((3 : Int32) &&& 31)))) := rfl

def f_Wr_tellPassed_r8 (yS_characters : Nat → Int32) (yS_length : Int32) (passed : Int32) (R_8 : ((Nat → Int32) × Int32)) : (Nat → Int32) × Int32 :=
  (R_8.1, R_8.2)
theorem f_Wr_tellPassed_r8_eq (yS_characters : Nat → Int32) (yS_length : Int32) (passed : Int32) (R_8 : ((Nat → Int32) × Int32)) : f_Wr_tellPassed_r8 yS_characters yS_length passed R_8 =
  (R_8.1, R_8.2) := rfl

def f_Wr_tellPassed (yS_characters : Nat → Int32) (yS_length : Int32) (passed : Int32) : (Nat → Int32) × Int32 :=
  (if passed = (-1) then f_Wr_tellPassed_r8 yS_characters yS_length passed (f_Li_add yS_characters yS_length 45) else f_Wr_tellPassed_r22 yS_characters yS_length passed (f_Li_add yS_characters yS_length (97 + (passed &&& 7))))
theorem f_Wr_tellPassed_eq (yS_characters : Nat → Int32) (yS_length : Int32) (passed : Int32) : f_Wr_tellPassed yS_characters yS_length passed =
  (if passed = (-1) then f_Wr_tellPassed_r8 yS_characters yS_length passed (f_Li_add yS_characters yS_length 45) else f_Wr_tellPassed_r22 yS_characters yS_length passed (f_Li_add yS_characters yS_length (97 + (passed &&& 7)))) := rfl

set_option maxHeartbeats 4000000 in
set_option maxRecDepth 100000 in
theorem c_Wr_tellPassed (l : Launch) (dC : Nat → ClassId) (dI : Nat → Nat → Nat) (cI cJ cC : ClassId) (ad : Nat → Nat) (y y_characters : Nat) (sz : Nat) (yS_characters : Nat → Int32) (yS_length : Int32) (passed : Int32) : Met l yWr_tellPassed wsWr_tellPassed { frames := 1, cells := 0, slots := 0, locals := 21 } (rwP dC dI (TYS cI cJ cC) [.int passed, .ref y] [(y, .inr (2, [.ref y_characters, .int yS_length])), (y_characters, .inl (cC, 100, .inl yS_characters))] sz (GS ad)) (va_Qv (fun _ : Unit => True) (rwB dC dI (TYS cI cJ cC) [(y, .inr (2, [.ref y_characters, .int ((f_Wr_tellPassed yS_characters yS_length passed).2)])), (y_characters, .inl (cC, 100, .inl ((f_Wr_tellPassed yS_characters yS_length passed).1)))] (va_A [(y, .inr (2, [.ref y_characters, .int yS_length])), (y_characters, .inl (cC, 100, .inl yS_characters))] sz)) (va_A [(y, .inr (2, [.ref y_characters, .int yS_length])), (y_characters, .inl (cC, 100, .inl yS_characters))] sz)) 0 0 (va_A [(y, .inr (2, [.ref y_characters, .int yS_length])), (y_characters, .inl (cC, 100, .inl yS_characters))] sz) := by
  refine Met.ofW (cc := cWr_tellPassed) (maxL := 2) (ret := none) (by decide) rfl ?_
  intro p e s m args below meth c s₁ B hml hv
  obtain ⟨rfl, hsz, hP, hK, hD0, hG⟩ := hv
  have hx := B.exec
  have hb := B.bytes
  have hr := B.returns
  have hB : ∀ w9 ∈ BIG, w9.before ([.int passed, .ref y]).toArray s = true := fun w9 h => atoms_spec (ws := wsWr_tellPassed) B.pre w9 (List.mem_cons_of_mem _ h)
  have hown : s.vm.findClass "ChessRules$Writer" = some m.cls := findClass_of_methodNamed B.named
  have hlocks := B.notSynchronized
  subst hsz
  have hD := hD0.self (sz := s.heap.size)
  generalize hAe : va_A [(y, .inr (2, [.ref y_characters, .int yS_length])), (y_characters, .inl (cC, 100, .inl yS_characters))] s.heap.size = A at hD hG ⊢
  have hA : ∀ q : Nat, s.heap.size ≤ q → A q := fun q h => by rw [← hAe]; exact Or.inr h
  have hS : va_S A s.heap s.heap [] := va_S.rf
  have hP : va_P (dC, dI) vwCl [(y, .inr (2, [.ref y_characters, .int yS_length])), (y_characters, .inl (cC, 100, .inl yS_characters))] s.heap := hP
  have hl := lv_entry ([.int passed, .ref y]) (n := 2) (Nat.le_of_ble_eq_true rfl)
  rw [lg_entry_eq]
  generalize (lg_sl ([.int passed, .ref y]) ++ List.replicate (2 - (lg_sl ([.int passed, .ref y])).length) Slot.unset).toArray = ls at hl ⊢
  have hl : lv_has ls 2 [(0, .int passed), (1, .ref y)] := hl
  refine lv_iload_n hx hb dWr_tellPassed_0 rfl (lv_at hl 0 rfl) ?_
  refine lv_iconst (v := (-1)) hx hb dWr_tellPassed_1 (by decide) ?_
  refine lv_icmp_ne (tgt := 14) hx hb dWr_tellPassed_2 (by decide) (fun c_1 => ?_) (fun c_1 => ?_)
  · refine lv_aload_n hx hb dWr_tellPassed_14 rfl (lv_at hl 1 rfl) ?_
    refine lv_bipush (v := 97) hx hb dWr_tellPassed_15 (by decide) ?_
    refine lv_iload_n hx hb dWr_tellPassed_17 rfl (lv_at hl 0 rfl) ?_
    refine lv_bipush (v := 7) hx hb dWr_tellPassed_18 (by decide) ?_
    refine lv_iand hx hb dWr_tellPassed_20 ?_
    refine lv_iadd hx hb dWr_tellPassed_21 ?_
    obtain ⟨R_22, hR_22⟩ : ∃ R9, R9 = f_Li_add yS_characters yS_length (97 + (passed &&& 7)) := ⟨_, rfl⟩
    have hM_22 := (c_Li_add l dC dI cI cJ cC ad y y_characters s.heap.size yS_characters yS_length (97 + (passed &&& 7)))
    rw [← hR_22] at hM_22
    refine rw_gov (wr := []) (va_runVN (C := "ChessRules$Line") (As := [.int (97 + (passed &&& 7))]) (rest := []) ⟨hx, hb, hml, hown, hB⟩ hM_22 ⟨va_cnB 1 hB (big_self q1_216) rfl rfl rfl (hG.1 _ q3_44) (hB _ q1_3) (by decide +kernel) ⟨Nat.le_of_ble_eq_true rfl, Nat.le_of_ble_eq_true rfl⟩, (hB _ q1_215), (hB _ qs1_0)⟩ (rw_preV (GS_ok ad) hK hP hD hA hG hS [0, 1] (by decide) rfl rfl (va_recv hK hP (ci := 2) (q0 := 0) rfl rfl)) rfl rfl hl.1 rfl (lv_room (Nat.le_of_ble_eq_true rfl)) dWr_tellPassed_22 ⟨Nat.le_of_ble_eq_true rfl, Nat.le_of_ble_eq_true rfl⟩) hP hD hS hA [0, 1] [] rfl rfl (by decide) (by decide) (fun H locs hP hD hS => ?_)
    have hP : va_P (dC, dI) vwCl [(y, .inr (2, [.ref y_characters, .int R_22.2])), (y_characters, .inl (cC, 100, .inl R_22.1))] H := hP
    have hD : va_D A [(y, .inr (2, [.ref y_characters, .int R_22.2])), (y_characters, .inl (cC, 100, .inl R_22.1))] := hD
    have he_r22 : f_Wr_tellPassed yS_characters yS_length passed = f_Wr_tellPassed_r22 yS_characters yS_length passed R_22 := (by rw [f_Wr_tellPassed_eq, if_neg c_1, ← hR_22] <;> rfl)
    refine lv_aload_n hx hb dWr_tellPassed_25 rfl (lv_at hl 1 rfl) ?_
    refine lv_bipush (v := 49) hx hb dWr_tellPassed_26 (by decide) ?_
    refine lv_iload_n hx hb dWr_tellPassed_28 rfl (lv_at hl 0 rfl) ?_
    refine lv_iconst (v := 3) hx hb dWr_tellPassed_29 (by decide) ?_
    refine lv_ishr hx hb dWr_tellPassed_30 ?_
    refine lv_iadd hx hb dWr_tellPassed_31 ?_
    obtain ⟨R_32, hR_32⟩ : ∃ R9, R9 = f_Li_add R_22.1 R_22.2 (49 + (passed >>> ((3 : Int32) &&& 31))) := ⟨_, rfl⟩
    have hM_32 := (c_Li_add l dC dI cI cJ cC ad y y_characters H.size R_22.1 R_22.2 (49 + (passed >>> ((3 : Int32) &&& 31))))
    rw [← hR_32] at hM_32
    refine rw_gov (wr := []) (va_runVN (C := "ChessRules$Line") (As := [.int (49 + (passed >>> ((3 : Int32) &&& 31)))]) (rest := []) ⟨hx, hb, hml, hown, hB⟩ hM_32 ⟨va_cnB 1 hB (big_self q1_216) rfl rfl rfl (hG.1 _ q3_44) (hB _ q1_3) (by decide +kernel) ⟨Nat.le_of_ble_eq_true rfl, Nat.le_of_ble_eq_true rfl⟩, (hB _ q1_215), (hB _ qs1_0)⟩ (rw_preV (GS_ok ad) hK hP hD hA hG hS [0, 1] (by decide) rfl rfl (va_recv hK hP (ci := 2) (q0 := 0) rfl rfl)) rfl rfl hl.1 rfl (lv_room (Nat.le_of_ble_eq_true rfl)) dWr_tellPassed_32 ⟨Nat.le_of_ble_eq_true rfl, Nat.le_of_ble_eq_true rfl⟩) hP hD hS hA [0, 1] [] rfl rfl (by decide) (by decide) (fun H locs hP hD hS => ?_)
    have hP : va_P (dC, dI) vwCl [(y, .inr (2, [.ref y_characters, .int R_32.2])), (y_characters, .inl (cC, 100, .inl R_32.1))] H := hP
    have hD : va_D A [(y, .inr (2, [.ref y_characters, .int R_32.2])), (y_characters, .inl (cC, 100, .inl R_32.1))] := hD
    have he_r32 : f_Wr_tellPassed yS_characters yS_length passed = f_Wr_tellPassed_r32 yS_characters yS_length passed R_22 R_32 := (he_r22.trans (by rw [f_Wr_tellPassed_r22_eq, ← hR_32] <;> rfl))
    have hv : f_Wr_tellPassed yS_characters yS_length passed = (R_32.1, R_32.2) := (he_r32.trans (by rw [f_Wr_tellPassed_r32_eq] <;> rfl))
    have hP9 : va_P (dC, dI) vwCl [(y, .inr (2, [.ref y_characters, .int ((f_Wr_tellPassed yS_characters yS_length passed).2)])), (y_characters, .inl (cC, 100, .inl ((f_Wr_tellPassed yS_characters yS_length passed).1)))] H := by first | (rw [hv]; exact hP.sub [0, 1] rfl) | exact hP.sub [0, 1] rfl
    have hD9 : va_D A [(y, .inr (2, [.ref y_characters, .int ((f_Wr_tellPassed yS_characters yS_length passed).2)])), (y_characters, .inl (cC, 100, .inl ((f_Wr_tellPassed yS_characters yS_length passed).1)))] := by first | (rw [hv]; exact hD.sub [0, 1] (by decide) rfl) | exact hD.sub [0, 1] (by decide) rfl
    exact rw_retv hx hb hr hlocks hK hP9 hD9 hS dWr_tellPassed_35
  · refine lv_aload_n hx hb dWr_tellPassed_5 rfl (lv_at hl 1 rfl) ?_
    refine lv_bipush (v := 45) hx hb dWr_tellPassed_6 (by decide) ?_
    obtain ⟨R_8, hR_8⟩ : ∃ R9, R9 = f_Li_add yS_characters yS_length 45 := ⟨_, rfl⟩
    have hM_8 := (c_Li_add l dC dI cI cJ cC ad y y_characters s.heap.size yS_characters yS_length 45)
    rw [← hR_8] at hM_8
    refine rw_gov (wr := []) (va_runVN (C := "ChessRules$Line") (As := [.int 45]) (rest := []) ⟨hx, hb, hml, hown, hB⟩ hM_8 ⟨va_cnB 1 hB (big_self q1_216) rfl rfl rfl (hG.1 _ q3_44) (hB _ q1_3) (by decide +kernel) ⟨Nat.le_of_ble_eq_true rfl, Nat.le_of_ble_eq_true rfl⟩, (hB _ q1_215), (hB _ qs1_0)⟩ (rw_preV (GS_ok ad) hK hP hD hA hG hS [0, 1] (by decide) rfl rfl (va_recv hK hP (ci := 2) (q0 := 0) rfl rfl)) rfl rfl hl.1 rfl (lv_room (Nat.le_of_ble_eq_true rfl)) dWr_tellPassed_8 ⟨Nat.le_of_ble_eq_true rfl, Nat.le_of_ble_eq_true rfl⟩) hP hD hS hA [0, 1] [] rfl rfl (by decide) (by decide) (fun H locs hP hD hS => ?_)
    have hP : va_P (dC, dI) vwCl [(y, .inr (2, [.ref y_characters, .int R_8.2])), (y_characters, .inl (cC, 100, .inl R_8.1))] H := hP
    have hD : va_D A [(y, .inr (2, [.ref y_characters, .int R_8.2])), (y_characters, .inl (cC, 100, .inl R_8.1))] := hD
    have he_r8 : f_Wr_tellPassed yS_characters yS_length passed = f_Wr_tellPassed_r8 yS_characters yS_length passed R_8 := (by rw [f_Wr_tellPassed_eq, if_pos c_1, ← hR_8] <;> rfl)
    refine lv_goto (tgt := 35) hx hb dWr_tellPassed_11 (by decide) ?_
    have hv : f_Wr_tellPassed yS_characters yS_length passed = (R_8.1, R_8.2) := (he_r8.trans (by rw [f_Wr_tellPassed_r8_eq] <;> rfl))
    have hP9 : va_P (dC, dI) vwCl [(y, .inr (2, [.ref y_characters, .int ((f_Wr_tellPassed yS_characters yS_length passed).2)])), (y_characters, .inl (cC, 100, .inl ((f_Wr_tellPassed yS_characters yS_length passed).1)))] H := by first | (rw [hv]; exact hP.sub [0, 1] rfl) | exact hP.sub [0, 1] rfl
    have hD9 : va_D A [(y, .inr (2, [.ref y_characters, .int ((f_Wr_tellPassed yS_characters yS_length passed).2)])), (y_characters, .inl (cC, 100, .inl ((f_Wr_tellPassed yS_characters yS_length passed).1)))] := by first | (rw [hv]; exact hD.sub [0, 1] (by decide) rfl) | exact hD.sub [0, 1] (by decide) rfl
    exact rw_retv hx hb hr hlocks hK hP9 hD9 hS dWr_tellPassed_35

abbrev cWr_tellNumber : ByteArray := prog_9_method_9_code
def yWr_tellNumber : MethodName := ⟨"ChessRules$Writer", "tellNumber", "(ILChessRules$Line;)V"⟩
def wsWr_tellNumber : List Cond := Cond.code yWr_tellNumber cWr_tellNumber 3 none :: BIG
theorem dWr_tellNumber_0 : decode cWr_tellNumber 0 = .ok (.iload_n 0, 1) := by decide +kernel
theorem dWr_tellNumber_1 : decode cWr_tellNumber 1 = .ok (.sipush 999, 3) := by decide +kernel
theorem dWr_tellNumber_4 : decode cWr_tellNumber 4 = .ok (.invokestatic 86, 3) := by decide +kernel
theorem dWr_tellNumber_7 : decode cWr_tellNumber 7 = .ok (.istore_n 2, 1) := by decide +kernel
theorem dWr_tellNumber_8 : decode cWr_tellNumber 8 = .ok (.iload_n 2, 1) := by decide +kernel
theorem dWr_tellNumber_9 : decode cWr_tellNumber 9 = .ok (.bipush 100, 2) := by decide +kernel
theorem dWr_tellNumber_11 : decode cWr_tellNumber 11 = .ok (.if_icmp .lt 14, 3) := by decide +kernel
theorem dWr_tellNumber_14 : decode cWr_tellNumber 14 = .ok (.aload_n 1, 1) := by decide +kernel
theorem dWr_tellNumber_15 : decode cWr_tellNumber 15 = .ok (.bipush 48, 2) := by decide +kernel
theorem dWr_tellNumber_17 : decode cWr_tellNumber 17 = .ok (.iload_n 2, 1) := by decide +kernel
theorem dWr_tellNumber_18 : decode cWr_tellNumber 18 = .ok (.bipush 100, 2) := by decide +kernel
theorem dWr_tellNumber_20 : decode cWr_tellNumber 20 = .ok (.idiv, 1) := by decide +kernel
theorem dWr_tellNumber_21 : decode cWr_tellNumber 21 = .ok (.iadd, 1) := by decide +kernel
theorem dWr_tellNumber_22 : decode cWr_tellNumber 22 = .ok (.invokevirtual 21, 3) := by decide +kernel
theorem dWr_tellNumber_25 : decode cWr_tellNumber 25 = .ok (.iload_n 2, 1) := by decide +kernel
theorem dWr_tellNumber_26 : decode cWr_tellNumber 26 = .ok (.bipush 10, 2) := by decide +kernel
theorem dWr_tellNumber_28 : decode cWr_tellNumber 28 = .ok (.if_icmp .lt 17, 3) := by decide +kernel
theorem dWr_tellNumber_31 : decode cWr_tellNumber 31 = .ok (.aload_n 1, 1) := by decide +kernel
theorem dWr_tellNumber_32 : decode cWr_tellNumber 32 = .ok (.bipush 48, 2) := by decide +kernel
theorem dWr_tellNumber_34 : decode cWr_tellNumber 34 = .ok (.iload_n 2, 1) := by decide +kernel
theorem dWr_tellNumber_35 : decode cWr_tellNumber 35 = .ok (.bipush 10, 2) := by decide +kernel
theorem dWr_tellNumber_37 : decode cWr_tellNumber 37 = .ok (.idiv, 1) := by decide +kernel
theorem dWr_tellNumber_38 : decode cWr_tellNumber 38 = .ok (.bipush 10, 2) := by decide +kernel
theorem dWr_tellNumber_40 : decode cWr_tellNumber 40 = .ok (.irem, 1) := by decide +kernel
theorem dWr_tellNumber_41 : decode cWr_tellNumber 41 = .ok (.iadd, 1) := by decide +kernel
theorem dWr_tellNumber_42 : decode cWr_tellNumber 42 = .ok (.invokevirtual 21, 3) := by decide +kernel
theorem dWr_tellNumber_45 : decode cWr_tellNumber 45 = .ok (.aload_n 1, 1) := by decide +kernel
theorem dWr_tellNumber_46 : decode cWr_tellNumber 46 = .ok (.bipush 48, 2) := by decide +kernel
theorem dWr_tellNumber_48 : decode cWr_tellNumber 48 = .ok (.iload_n 2, 1) := by decide +kernel
theorem dWr_tellNumber_49 : decode cWr_tellNumber 49 = .ok (.bipush 10, 2) := by decide +kernel
theorem dWr_tellNumber_51 : decode cWr_tellNumber 51 = .ok (.irem, 1) := by decide +kernel
theorem dWr_tellNumber_52 : decode cWr_tellNumber 52 = .ok (.iadd, 1) := by decide +kernel
theorem dWr_tellNumber_53 : decode cWr_tellNumber 53 = .ok (.invokevirtual 21, 3) := by decide +kernel
theorem dWr_tellNumber_56 : decode cWr_tellNumber 56 = .ok (.return_, 1) := by decide +kernel

def f_Wr_tellNumber_r53 (yS_characters : Nat → Int32) (yS_length : Int32) (number : Int32) (W_y_25 : St_Li) (W_y_45 : St_Li) (R_53 : ((Nat → Int32) × Int32)) : (Nat → Int32) × Int32 :=
  (R_53.1, R_53.2)
theorem f_Wr_tellNumber_r53_eq (yS_characters : Nat → Int32) (yS_length : Int32) (number : Int32) (W_y_25 : St_Li) (W_y_45 : St_Li) (R_53 : ((Nat → Int32) × Int32)) : f_Wr_tellNumber_r53 yS_characters yS_length number W_y_25 W_y_45 R_53 =
  (R_53.1, R_53.2) := rfl

def f_Wr_tellNumber_45 (yS_characters : Nat → Int32) (yS_length : Int32) (number : Int32) (W_y_25 : St_Li) (W_y_45 : St_Li) : (Nat → Int32) × Int32 :=
  f_Wr_tellNumber_r53 yS_characters yS_length number W_y_25 W_y_45 (f_Li_add W_y_45.1 W_y_45.2 (48 + ((min32 number 999) - (min32 number 999) / 10 * 10)))
theorem f_Wr_tellNumber_45_eq (yS_characters : Nat → Int32) (yS_length : Int32) (number : Int32) (W_y_25 : St_Li) (W_y_45 : St_Li) : f_Wr_tellNumber_45 yS_characters yS_length number W_y_25 W_y_45 =
  f_Wr_tellNumber_r53 yS_characters yS_length number W_y_25 W_y_45 (f_Li_add W_y_45.1 W_y_45.2 (48 + ((min32 number 999) - (min32 number 999) / 10 * 10))) := rfl

def f_Wr_tellNumber_r42 (yS_characters : Nat → Int32) (yS_length : Int32) (number : Int32) (W_y_25 : St_Li) (R_42 : ((Nat → Int32) × Int32)) : (Nat → Int32) × Int32 :=
  f_Wr_tellNumber_45 yS_characters yS_length number W_y_25 R_42
theorem f_Wr_tellNumber_r42_eq (yS_characters : Nat → Int32) (yS_length : Int32) (number : Int32) (W_y_25 : St_Li) (R_42 : ((Nat → Int32) × Int32)) : f_Wr_tellNumber_r42 yS_characters yS_length number W_y_25 R_42 =
  f_Wr_tellNumber_45 yS_characters yS_length number W_y_25 R_42 := rfl

def f_Wr_tellNumber_25 (yS_characters : Nat → Int32) (yS_length : Int32) (number : Int32) (W_y_25 : St_Li) : (Nat → Int32) × Int32 :=
  (if (min32 number 999) < 10 then f_Wr_tellNumber_45 yS_characters yS_length number W_y_25 W_y_25 else f_Wr_tellNumber_r42 yS_characters yS_length number W_y_25 (f_Li_add W_y_25.1 W_y_25.2 (48 + (((min32 number 999) / 10) - ((min32 number 999) / 10) / 10 * 10))))
theorem f_Wr_tellNumber_25_eq (yS_characters : Nat → Int32) (yS_length : Int32) (number : Int32) (W_y_25 : St_Li) : f_Wr_tellNumber_25 yS_characters yS_length number W_y_25 =
  (if (min32 number 999) < 10 then f_Wr_tellNumber_45 yS_characters yS_length number W_y_25 W_y_25 else f_Wr_tellNumber_r42 yS_characters yS_length number W_y_25 (f_Li_add W_y_25.1 W_y_25.2 (48 + (((min32 number 999) / 10) - ((min32 number 999) / 10) / 10 * 10)))) := rfl

def f_Wr_tellNumber_r22 (yS_characters : Nat → Int32) (yS_length : Int32) (number : Int32) (R_22 : ((Nat → Int32) × Int32)) : (Nat → Int32) × Int32 :=
  f_Wr_tellNumber_25 yS_characters yS_length number R_22
theorem f_Wr_tellNumber_r22_eq (yS_characters : Nat → Int32) (yS_length : Int32) (number : Int32) (R_22 : ((Nat → Int32) × Int32)) : f_Wr_tellNumber_r22 yS_characters yS_length number R_22 =
  f_Wr_tellNumber_25 yS_characters yS_length number R_22 := rfl

def f_Wr_tellNumber (yS_characters : Nat → Int32) (yS_length : Int32) (number : Int32) : (Nat → Int32) × Int32 :=
  (if (min32 number 999) < 100 then f_Wr_tellNumber_25 yS_characters yS_length number (yS_characters, yS_length) else f_Wr_tellNumber_r22 yS_characters yS_length number (f_Li_add yS_characters yS_length (48 + ((min32 number 999) / 100))))
theorem f_Wr_tellNumber_eq (yS_characters : Nat → Int32) (yS_length : Int32) (number : Int32) : f_Wr_tellNumber yS_characters yS_length number =
  (if (min32 number 999) < 100 then f_Wr_tellNumber_25 yS_characters yS_length number (yS_characters, yS_length) else f_Wr_tellNumber_r22 yS_characters yS_length number (f_Li_add yS_characters yS_length (48 + ((min32 number 999) / 100)))) := rfl

set_option maxHeartbeats 4000000 in
set_option maxRecDepth 100000 in
theorem c_Wr_tellNumber (l : Launch) (dC : Nat → ClassId) (dI : Nat → Nat → Nat) (cI cJ cC : ClassId) (ad : Nat → Nat) (y y_characters : Nat) (sz : Nat) (yS_characters : Nat → Int32) (yS_length : Int32) (number : Int32) : Met l yWr_tellNumber wsWr_tellNumber { frames := 1, cells := 0, slots := 0, locals := 21 } (rwP dC dI (TYS cI cJ cC) [.int number, .ref y] [(y, .inr (2, [.ref y_characters, .int yS_length])), (y_characters, .inl (cC, 100, .inl yS_characters))] sz (GS ad)) (va_Qv (fun _ : Unit => True) (rwB dC dI (TYS cI cJ cC) [(y, .inr (2, [.ref y_characters, .int ((f_Wr_tellNumber yS_characters yS_length number).2)])), (y_characters, .inl (cC, 100, .inl ((f_Wr_tellNumber yS_characters yS_length number).1)))] (va_A [(y, .inr (2, [.ref y_characters, .int yS_length])), (y_characters, .inl (cC, 100, .inl yS_characters))] sz)) (va_A [(y, .inr (2, [.ref y_characters, .int yS_length])), (y_characters, .inl (cC, 100, .inl yS_characters))] sz)) 0 0 (va_A [(y, .inr (2, [.ref y_characters, .int yS_length])), (y_characters, .inl (cC, 100, .inl yS_characters))] sz) := by
  refine Met.ofW (cc := cWr_tellNumber) (maxL := 3) (ret := none) (by decide) rfl ?_
  intro p e s m args below meth c s₁ B hml hv
  obtain ⟨rfl, hsz, hP, hK, hD0, hG⟩ := hv
  have hx := B.exec
  have hb := B.bytes
  have hr := B.returns
  have hB : ∀ w9 ∈ BIG, w9.before ([.int number, .ref y]).toArray s = true := fun w9 h => atoms_spec (ws := wsWr_tellNumber) B.pre w9 (List.mem_cons_of_mem _ h)
  have hown : s.vm.findClass "ChessRules$Writer" = some m.cls := findClass_of_methodNamed B.named
  have hlocks := B.notSynchronized
  subst hsz
  have hD := hD0.self (sz := s.heap.size)
  generalize hAe : va_A [(y, .inr (2, [.ref y_characters, .int yS_length])), (y_characters, .inl (cC, 100, .inl yS_characters))] s.heap.size = A at hD hG ⊢
  have hA : ∀ q : Nat, s.heap.size ≤ q → A q := fun q h => by rw [← hAe]; exact Or.inr h
  have hS : va_S A s.heap s.heap [] := va_S.rf
  have hP : va_P (dC, dI) vwCl [(y, .inr (2, [.ref y_characters, .int yS_length])), (y_characters, .inl (cC, 100, .inl yS_characters))] s.heap := hP
  have hl := lv_entry ([.int number, .ref y]) (n := 3) (Nat.le_of_ble_eq_true rfl)
  rw [lg_entry_eq]
  generalize (lg_sl ([.int number, .ref y]) ++ List.replicate (3 - (lg_sl ([.int number, .ref y])).length) Slot.unset).toArray = ls at hl ⊢
  have hl : lv_has ls 3 [(0, .int number), (1, .ref y)] := hl
  refine lv_iload_n hx hb dWr_tellNumber_0 rfl (lv_at hl 0 rfl) ?_
  refine lv_sipush (v := 999) hx hb dWr_tellNumber_1 (by decide) ?_
  refine va_mmin hx hb (by rw [hml]; exact hl.1.symm) hown (hB _ q3_61) (hB _ q2_32) (hB _ q1_11) (hB _ q2_33) (Nat.le_of_ble_eq_true rfl) (Nat.le_of_ble_eq_true rfl) (Nat.zero_le _) (Nat.zero_le _) dWr_tellNumber_4 ?_
  refine W.eq (g2 := F0 m 7 ls [.int (min32 number 999)]) rfl ?_
  refine lv_istore_n (lv' := [(2, .int (min32 number 999)), (0, .int number), (1, .ref y)]) hx hb dWr_tellNumber_7 rfl hl (by decide) rfl (fun ls hl => ?_)
  refine lv_iload_n hx hb dWr_tellNumber_8 rfl (lv_at hl 0 rfl) ?_
  refine lv_bipush (v := 100) hx hb dWr_tellNumber_9 (by decide) ?_
  have J_25 : ∀ (W_y_25 : St_Li), f_Wr_tellNumber yS_characters yS_length number = f_Wr_tellNumber_25 yS_characters yS_length number W_y_25 → ∀ (H : Heap) (locs : List Loc), va_P (dC, dI) vwCl [(y, .inr (2, [.ref y_characters, .int W_y_25.2])), (y_characters, .inl (cC, 100, .inl W_y_25.1))] H → va_D A [(y, .inr (2, [.ref y_characters, .int W_y_25.2])), (y_characters, .inl (cC, 100, .inl W_y_25.1))] → va_S A s.heap H locs → ∀ ls : Array Slot, lv_has ls 3 [(1, .ref y), (2, .int (min32 number 999))] → W p l e (headSpec wsWr_tellNumber { frames := 1, cells := 0, slots := 0, locals := 21 }).room s m ([.int number, .ref y]).toArray below meth c H locs 0 0 (MQ below (va_Qv (fun _ : Unit => True) (rwB dC dI (TYS cI cJ cC) [(y, .inr (2, [.ref y_characters, .int ((f_Wr_tellNumber yS_characters yS_length number).2)])), (y_characters, .inl (cC, 100, .inl ((f_Wr_tellNumber yS_characters yS_length number).1)))] A) A) ([.int number, .ref y]).toArray s 0 0 A) (F0 m 25 ls []) := by
    intro W_y_25 he_25 H locs hP hD hS ls hl
    refine lv_iload_n hx hb dWr_tellNumber_25 rfl (lv_at hl 1 rfl) ?_
    refine lv_bipush (v := 10) hx hb dWr_tellNumber_26 (by decide) ?_
    have J_45 : ∀ (W_y_45 : St_Li), f_Wr_tellNumber yS_characters yS_length number = f_Wr_tellNumber_45 yS_characters yS_length number W_y_25 W_y_45 → ∀ (H : Heap) (locs : List Loc), va_P (dC, dI) vwCl [(y, .inr (2, [.ref y_characters, .int W_y_45.2])), (y_characters, .inl (cC, 100, .inl W_y_45.1))] H → va_D A [(y, .inr (2, [.ref y_characters, .int W_y_45.2])), (y_characters, .inl (cC, 100, .inl W_y_45.1))] → va_S A s.heap H locs → ∀ ls : Array Slot, lv_has ls 3 [(1, .ref y), (2, .int (min32 number 999))] → W p l e (headSpec wsWr_tellNumber { frames := 1, cells := 0, slots := 0, locals := 21 }).room s m ([.int number, .ref y]).toArray below meth c H locs 0 0 (MQ below (va_Qv (fun _ : Unit => True) (rwB dC dI (TYS cI cJ cC) [(y, .inr (2, [.ref y_characters, .int ((f_Wr_tellNumber yS_characters yS_length number).2)])), (y_characters, .inl (cC, 100, .inl ((f_Wr_tellNumber yS_characters yS_length number).1)))] A) A) ([.int number, .ref y]).toArray s 0 0 A) (F0 m 45 ls []) := by
      intro W_y_45 he_45 H locs hP hD hS ls hl
      refine lv_aload_n hx hb dWr_tellNumber_45 rfl (lv_at hl 0 rfl) ?_
      refine lv_bipush (v := 48) hx hb dWr_tellNumber_46 (by decide) ?_
      refine lv_iload_n hx hb dWr_tellNumber_48 rfl (lv_at hl 1 rfl) ?_
      refine lv_bipush (v := 10) hx hb dWr_tellNumber_49 (by decide) ?_
      refine lv_irem hx hb dWr_tellNumber_51 (by decide) ?_
      refine lv_iadd hx hb dWr_tellNumber_52 ?_
      obtain ⟨R_53, hR_53⟩ : ∃ R9, R9 = f_Li_add W_y_45.1 W_y_45.2 (48 + ((min32 number 999) - (min32 number 999) / 10 * 10)) := ⟨_, rfl⟩
      have hM_53 := (c_Li_add l dC dI cI cJ cC ad y y_characters H.size W_y_45.1 W_y_45.2 (48 + ((min32 number 999) - (min32 number 999) / 10 * 10)))
      rw [← hR_53] at hM_53
      refine rw_gov (wr := []) (va_runVN (C := "ChessRules$Line") (As := [.int (48 + ((min32 number 999) - (min32 number 999) / 10 * 10))]) (rest := []) ⟨hx, hb, hml, hown, hB⟩ hM_53 ⟨va_cnB 1 hB (big_self q1_216) rfl rfl rfl (hG.1 _ q3_44) (hB _ q1_3) (by decide +kernel) ⟨Nat.le_of_ble_eq_true rfl, Nat.le_of_ble_eq_true rfl⟩, (hB _ q1_215), (hB _ qs1_0)⟩ (rw_preV (GS_ok ad) hK hP hD hA hG hS [0, 1] (by decide) rfl rfl (va_recv hK hP (ci := 2) (q0 := 0) rfl rfl)) rfl rfl hl.1 rfl (lv_room (Nat.le_of_ble_eq_true rfl)) dWr_tellNumber_53 ⟨Nat.le_of_ble_eq_true rfl, Nat.le_of_ble_eq_true rfl⟩) hP hD hS hA [0, 1] [] rfl rfl (by decide) (by decide) (fun H locs hP hD hS => ?_)
      have hP : va_P (dC, dI) vwCl [(y, .inr (2, [.ref y_characters, .int R_53.2])), (y_characters, .inl (cC, 100, .inl R_53.1))] H := hP
      have hD : va_D A [(y, .inr (2, [.ref y_characters, .int R_53.2])), (y_characters, .inl (cC, 100, .inl R_53.1))] := hD
      have he_r53 : f_Wr_tellNumber yS_characters yS_length number = f_Wr_tellNumber_r53 yS_characters yS_length number W_y_25 W_y_45 R_53 := (he_45.trans (by rw [f_Wr_tellNumber_45_eq, ← hR_53] <;> rfl))
      have hv : f_Wr_tellNumber yS_characters yS_length number = (R_53.1, R_53.2) := (he_r53.trans (by rw [f_Wr_tellNumber_r53_eq] <;> rfl))
      have hP9 : va_P (dC, dI) vwCl [(y, .inr (2, [.ref y_characters, .int ((f_Wr_tellNumber yS_characters yS_length number).2)])), (y_characters, .inl (cC, 100, .inl ((f_Wr_tellNumber yS_characters yS_length number).1)))] H := by first | (rw [hv]; exact hP.sub [0, 1] rfl) | exact hP.sub [0, 1] rfl
      have hD9 : va_D A [(y, .inr (2, [.ref y_characters, .int ((f_Wr_tellNumber yS_characters yS_length number).2)])), (y_characters, .inl (cC, 100, .inl ((f_Wr_tellNumber yS_characters yS_length number).1)))] := by first | (rw [hv]; exact hD.sub [0, 1] (by decide) rfl) | exact hD.sub [0, 1] (by decide) rfl
      exact rw_retv hx hb hr hlocks hK hP9 hD9 hS dWr_tellNumber_56
    refine lv_icmp_lt (tgt := 45) hx hb dWr_tellNumber_28 (by decide) (fun c_1 => ?_) (fun c_1 => ?_)
    · exact J_45 W_y_25 (he_25.trans (by rw [f_Wr_tellNumber_25_eq, if_pos c_1] <;> rfl)) _ _ (hP.sub [0, 1] rfl) (hD.sub [0, 1] (by decide) rfl) hS ls (lv_sub hl [0, 1] rfl)
    · refine lv_aload_n hx hb dWr_tellNumber_31 rfl (lv_at hl 0 rfl) ?_
      refine lv_bipush (v := 48) hx hb dWr_tellNumber_32 (by decide) ?_
      refine lv_iload_n hx hb dWr_tellNumber_34 rfl (lv_at hl 1 rfl) ?_
      refine lv_bipush (v := 10) hx hb dWr_tellNumber_35 (by decide) ?_
      refine lv_idiv hx hb dWr_tellNumber_37 (by decide) ?_
      refine lv_bipush (v := 10) hx hb dWr_tellNumber_38 (by decide) ?_
      refine lv_irem hx hb dWr_tellNumber_40 (by decide) ?_
      refine lv_iadd hx hb dWr_tellNumber_41 ?_
      obtain ⟨R_42, hR_42⟩ : ∃ R9, R9 = f_Li_add W_y_25.1 W_y_25.2 (48 + (((min32 number 999) / 10) - ((min32 number 999) / 10) / 10 * 10)) := ⟨_, rfl⟩
      have hM_42 := (c_Li_add l dC dI cI cJ cC ad y y_characters H.size W_y_25.1 W_y_25.2 (48 + (((min32 number 999) / 10) - ((min32 number 999) / 10) / 10 * 10)))
      rw [← hR_42] at hM_42
      refine rw_gov (wr := []) (va_runVN (C := "ChessRules$Line") (As := [.int (48 + (((min32 number 999) / 10) - ((min32 number 999) / 10) / 10 * 10))]) (rest := []) ⟨hx, hb, hml, hown, hB⟩ hM_42 ⟨va_cnB 1 hB (big_self q1_216) rfl rfl rfl (hG.1 _ q3_44) (hB _ q1_3) (by decide +kernel) ⟨Nat.le_of_ble_eq_true rfl, Nat.le_of_ble_eq_true rfl⟩, (hB _ q1_215), (hB _ qs1_0)⟩ (rw_preV (GS_ok ad) hK hP hD hA hG hS [0, 1] (by decide) rfl rfl (va_recv hK hP (ci := 2) (q0 := 0) rfl rfl)) rfl rfl hl.1 rfl (lv_room (Nat.le_of_ble_eq_true rfl)) dWr_tellNumber_42 ⟨Nat.le_of_ble_eq_true rfl, Nat.le_of_ble_eq_true rfl⟩) hP hD hS hA [0, 1] [] rfl rfl (by decide) (by decide) (fun H locs hP hD hS => ?_)
      have hP : va_P (dC, dI) vwCl [(y, .inr (2, [.ref y_characters, .int R_42.2])), (y_characters, .inl (cC, 100, .inl R_42.1))] H := hP
      have hD : va_D A [(y, .inr (2, [.ref y_characters, .int R_42.2])), (y_characters, .inl (cC, 100, .inl R_42.1))] := hD
      have he_r42 : f_Wr_tellNumber yS_characters yS_length number = f_Wr_tellNumber_r42 yS_characters yS_length number W_y_25 R_42 := (he_25.trans (by rw [f_Wr_tellNumber_25_eq, if_neg c_1, ← hR_42] <;> rfl))
      exact J_45 R_42 (he_r42.trans (by rw [f_Wr_tellNumber_r42_eq] <;> rfl)) _ _ (hP.sub [0, 1] rfl) (hD.sub [0, 1] (by decide) rfl) hS ls (lv_sub hl [0, 1] rfl)
  refine lv_icmp_lt (tgt := 25) hx hb dWr_tellNumber_11 (by decide) (fun c_2 => ?_) (fun c_2 => ?_)
  · exact J_25 (yS_characters, yS_length) (by rw [f_Wr_tellNumber_eq, if_pos c_2] <;> rfl) _ _ (hP.sub [0, 1] rfl) (hD.sub [0, 1] (by decide) rfl) hS ls (lv_sub hl [2, 0] rfl)
  · refine lv_aload_n hx hb dWr_tellNumber_14 rfl (lv_at hl 2 rfl) ?_
    refine lv_bipush (v := 48) hx hb dWr_tellNumber_15 (by decide) ?_
    refine lv_iload_n hx hb dWr_tellNumber_17 rfl (lv_at hl 0 rfl) ?_
    refine lv_bipush (v := 100) hx hb dWr_tellNumber_18 (by decide) ?_
    refine lv_idiv hx hb dWr_tellNumber_20 (by decide) ?_
    refine lv_iadd hx hb dWr_tellNumber_21 ?_
    obtain ⟨R_22, hR_22⟩ : ∃ R9, R9 = f_Li_add yS_characters yS_length (48 + ((min32 number 999) / 100)) := ⟨_, rfl⟩
    have hM_22 := (c_Li_add l dC dI cI cJ cC ad y y_characters s.heap.size yS_characters yS_length (48 + ((min32 number 999) / 100)))
    rw [← hR_22] at hM_22
    refine rw_gov (wr := []) (va_runVN (C := "ChessRules$Line") (As := [.int (48 + ((min32 number 999) / 100))]) (rest := []) ⟨hx, hb, hml, hown, hB⟩ hM_22 ⟨va_cnB 1 hB (big_self q1_216) rfl rfl rfl (hG.1 _ q3_44) (hB _ q1_3) (by decide +kernel) ⟨Nat.le_of_ble_eq_true rfl, Nat.le_of_ble_eq_true rfl⟩, (hB _ q1_215), (hB _ qs1_0)⟩ (rw_preV (GS_ok ad) hK hP hD hA hG hS [0, 1] (by decide) rfl rfl (va_recv hK hP (ci := 2) (q0 := 0) rfl rfl)) rfl rfl hl.1 rfl (lv_room (Nat.le_of_ble_eq_true rfl)) dWr_tellNumber_22 ⟨Nat.le_of_ble_eq_true rfl, Nat.le_of_ble_eq_true rfl⟩) hP hD hS hA [0, 1] [] rfl rfl (by decide) (by decide) (fun H locs hP hD hS => ?_)
    have hP : va_P (dC, dI) vwCl [(y, .inr (2, [.ref y_characters, .int R_22.2])), (y_characters, .inl (cC, 100, .inl R_22.1))] H := hP
    have hD : va_D A [(y, .inr (2, [.ref y_characters, .int R_22.2])), (y_characters, .inl (cC, 100, .inl R_22.1))] := hD
    have he_r22 : f_Wr_tellNumber yS_characters yS_length number = f_Wr_tellNumber_r22 yS_characters yS_length number R_22 := (by rw [f_Wr_tellNumber_eq, if_neg c_2, ← hR_22] <;> rfl)
    exact J_25 R_22 (he_r22.trans (by rw [f_Wr_tellNumber_r22_eq] <;> rfl)) _ _ (hP.sub [0, 1] rfl) (hD.sub [0, 1] (by decide) rfl) hS ls (lv_sub hl [2, 0] rfl)

abbrev cWr_tell : ByteArray := prog_9_method_2_code
def yWr_tell : MethodName := ⟨"ChessRules$Writer", "tell", "(LChessRules$Position;LChessRules$Line;)V"⟩
def wsWr_tell : List Cond := Cond.code yWr_tell cWr_tell 2 none :: BIG
theorem dWr_tell_0 : decode cWr_tell 0 = .ok (.aload_n 1, 1) := by decide +kernel
theorem dWr_tell_1 : decode cWr_tell 1 = .ok (.iconst 0, 1) := by decide +kernel
theorem dWr_tell_2 : decode cWr_tell 2 = .ok (.invokevirtual 9, 3) := by decide +kernel
theorem dWr_tell_5 : decode cWr_tell 5 = .ok (.aload_n 0, 1) := by decide +kernel
theorem dWr_tell_6 : decode cWr_tell 6 = .ok (.aload_n 1, 1) := by decide +kernel
theorem dWr_tell_7 : decode cWr_tell 7 = .ok (.invokestatic 15, 3) := by decide +kernel
theorem dWr_tell_10 : decode cWr_tell 10 = .ok (.aload_n 1, 1) := by decide +kernel
theorem dWr_tell_11 : decode cWr_tell 11 = .ok (.bipush 32, 2) := by decide +kernel
theorem dWr_tell_13 : decode cWr_tell 13 = .ok (.invokevirtual 21, 3) := by decide +kernel
theorem dWr_tell_16 : decode cWr_tell 16 = .ok (.aload_n 1, 1) := by decide +kernel
theorem dWr_tell_17 : decode cWr_tell 17 = .ok (.aload_n 0, 1) := by decide +kernel
theorem dWr_tell_18 : decode cWr_tell 18 = .ok (.getfield 24, 3) := by decide +kernel
theorem dWr_tell_21 : decode cWr_tell 21 = .ok (.ifCond .ne 8, 3) := by decide +kernel
theorem dWr_tell_24 : decode cWr_tell 24 = .ok (.bipush 119, 2) := by decide +kernel
theorem dWr_tell_26 : decode cWr_tell 26 = .ok (.goto 5, 3) := by decide +kernel
theorem dWr_tell_29 : decode cWr_tell 29 = .ok (.bipush 98, 2) := by decide +kernel
theorem dWr_tell_31 : decode cWr_tell 31 = .ok (.invokevirtual 21, 3) := by decide +kernel
theorem dWr_tell_34 : decode cWr_tell 34 = .ok (.aload_n 1, 1) := by decide +kernel
theorem dWr_tell_35 : decode cWr_tell 35 = .ok (.bipush 32, 2) := by decide +kernel
theorem dWr_tell_37 : decode cWr_tell 37 = .ok (.invokevirtual 21, 3) := by decide +kernel
theorem dWr_tell_40 : decode cWr_tell 40 = .ok (.aload_n 0, 1) := by decide +kernel
theorem dWr_tell_41 : decode cWr_tell 41 = .ok (.getfield 30, 3) := by decide +kernel
theorem dWr_tell_44 : decode cWr_tell 44 = .ok (.aload_n 1, 1) := by decide +kernel
theorem dWr_tell_45 : decode cWr_tell 45 = .ok (.invokestatic 33, 3) := by decide +kernel
theorem dWr_tell_48 : decode cWr_tell 48 = .ok (.aload_n 1, 1) := by decide +kernel
theorem dWr_tell_49 : decode cWr_tell 49 = .ok (.bipush 32, 2) := by decide +kernel
theorem dWr_tell_51 : decode cWr_tell 51 = .ok (.invokevirtual 21, 3) := by decide +kernel
theorem dWr_tell_54 : decode cWr_tell 54 = .ok (.aload_n 0, 1) := by decide +kernel
theorem dWr_tell_55 : decode cWr_tell 55 = .ok (.getfield 37, 3) := by decide +kernel
theorem dWr_tell_58 : decode cWr_tell 58 = .ok (.aload_n 1, 1) := by decide +kernel
theorem dWr_tell_59 : decode cWr_tell 59 = .ok (.invokestatic 40, 3) := by decide +kernel
theorem dWr_tell_62 : decode cWr_tell 62 = .ok (.aload_n 1, 1) := by decide +kernel
theorem dWr_tell_63 : decode cWr_tell 63 = .ok (.bipush 32, 2) := by decide +kernel
theorem dWr_tell_65 : decode cWr_tell 65 = .ok (.invokevirtual 21, 3) := by decide +kernel
theorem dWr_tell_68 : decode cWr_tell 68 = .ok (.aload_n 0, 1) := by decide +kernel
theorem dWr_tell_69 : decode cWr_tell 69 = .ok (.getfield 43, 3) := by decide +kernel
theorem dWr_tell_72 : decode cWr_tell 72 = .ok (.aload_n 1, 1) := by decide +kernel
theorem dWr_tell_73 : decode cWr_tell 73 = .ok (.invokestatic 46, 3) := by decide +kernel
theorem dWr_tell_76 : decode cWr_tell 76 = .ok (.aload_n 1, 1) := by decide +kernel
theorem dWr_tell_77 : decode cWr_tell 77 = .ok (.bipush 32, 2) := by decide +kernel
theorem dWr_tell_79 : decode cWr_tell 79 = .ok (.invokevirtual 21, 3) := by decide +kernel
theorem dWr_tell_82 : decode cWr_tell 82 = .ok (.aload_n 0, 1) := by decide +kernel
theorem dWr_tell_83 : decode cWr_tell 83 = .ok (.getfield 49, 3) := by decide +kernel
theorem dWr_tell_86 : decode cWr_tell 86 = .ok (.aload_n 1, 1) := by decide +kernel
theorem dWr_tell_87 : decode cWr_tell 87 = .ok (.invokestatic 46, 3) := by decide +kernel
theorem dWr_tell_90 : decode cWr_tell 90 = .ok (.return_, 1) := by decide +kernel

def f_Wr_tell_r87 (oS_board : St_Bo) (oS_side : Int32) (oS_rights : Int32) (oS_passed : Int32) (oS_clock : Int32) (oS_number : Int32) (yS_characters : Nat → Int32) (yS_length : Int32) (R_7 : ((Nat → Int32) × Int32)) (R_13 : ((Nat → Int32) × Int32)) (k0_31 : Int32) (R_31 : ((Nat → Int32) × Int32)) (R_37 : ((Nat → Int32) × Int32)) (R_45 : ((Nat → Int32) × Int32)) (R_51 : ((Nat → Int32) × Int32)) (R_59 : ((Nat → Int32) × Int32)) (R_65 : ((Nat → Int32) × Int32)) (R_73 : ((Nat → Int32) × Int32)) (R_79 : ((Nat → Int32) × Int32)) (R_87 : ((Nat → Int32) × Int32)) : (Nat → Int32) × Int32 :=
  (R_87.1, R_87.2)
theorem f_Wr_tell_r87_eq (oS_board : St_Bo) (oS_side : Int32) (oS_rights : Int32) (oS_passed : Int32) (oS_clock : Int32) (oS_number : Int32) (yS_characters : Nat → Int32) (yS_length : Int32) (R_7 : ((Nat → Int32) × Int32)) (R_13 : ((Nat → Int32) × Int32)) (k0_31 : Int32) (R_31 : ((Nat → Int32) × Int32)) (R_37 : ((Nat → Int32) × Int32)) (R_45 : ((Nat → Int32) × Int32)) (R_51 : ((Nat → Int32) × Int32)) (R_59 : ((Nat → Int32) × Int32)) (R_65 : ((Nat → Int32) × Int32)) (R_73 : ((Nat → Int32) × Int32)) (R_79 : ((Nat → Int32) × Int32)) (R_87 : ((Nat → Int32) × Int32)) : f_Wr_tell_r87 oS_board oS_side oS_rights oS_passed oS_clock oS_number yS_characters yS_length R_7 R_13 k0_31 R_31 R_37 R_45 R_51 R_59 R_65 R_73 R_79 R_87 =
  (R_87.1, R_87.2) := rfl

def f_Wr_tell_r79 (oS_board : St_Bo) (oS_side : Int32) (oS_rights : Int32) (oS_passed : Int32) (oS_clock : Int32) (oS_number : Int32) (yS_characters : Nat → Int32) (yS_length : Int32) (R_7 : ((Nat → Int32) × Int32)) (R_13 : ((Nat → Int32) × Int32)) (k0_31 : Int32) (R_31 : ((Nat → Int32) × Int32)) (R_37 : ((Nat → Int32) × Int32)) (R_45 : ((Nat → Int32) × Int32)) (R_51 : ((Nat → Int32) × Int32)) (R_59 : ((Nat → Int32) × Int32)) (R_65 : ((Nat → Int32) × Int32)) (R_73 : ((Nat → Int32) × Int32)) (R_79 : ((Nat → Int32) × Int32)) : (Nat → Int32) × Int32 :=
  f_Wr_tell_r87 oS_board oS_side oS_rights oS_passed oS_clock oS_number yS_characters yS_length R_7 R_13 k0_31 R_31 R_37 R_45 R_51 R_59 R_65 R_73 R_79 (f_Wr_tellNumber R_79.1 R_79.2 oS_number)
theorem f_Wr_tell_r79_eq (oS_board : St_Bo) (oS_side : Int32) (oS_rights : Int32) (oS_passed : Int32) (oS_clock : Int32) (oS_number : Int32) (yS_characters : Nat → Int32) (yS_length : Int32) (R_7 : ((Nat → Int32) × Int32)) (R_13 : ((Nat → Int32) × Int32)) (k0_31 : Int32) (R_31 : ((Nat → Int32) × Int32)) (R_37 : ((Nat → Int32) × Int32)) (R_45 : ((Nat → Int32) × Int32)) (R_51 : ((Nat → Int32) × Int32)) (R_59 : ((Nat → Int32) × Int32)) (R_65 : ((Nat → Int32) × Int32)) (R_73 : ((Nat → Int32) × Int32)) (R_79 : ((Nat → Int32) × Int32)) : f_Wr_tell_r79 oS_board oS_side oS_rights oS_passed oS_clock oS_number yS_characters yS_length R_7 R_13 k0_31 R_31 R_37 R_45 R_51 R_59 R_65 R_73 R_79 =
  f_Wr_tell_r87 oS_board oS_side oS_rights oS_passed oS_clock oS_number yS_characters yS_length R_7 R_13 k0_31 R_31 R_37 R_45 R_51 R_59 R_65 R_73 R_79 (f_Wr_tellNumber R_79.1 R_79.2 oS_number) := rfl

def f_Wr_tell_r73 (oS_board : St_Bo) (oS_side : Int32) (oS_rights : Int32) (oS_passed : Int32) (oS_clock : Int32) (oS_number : Int32) (yS_characters : Nat → Int32) (yS_length : Int32) (R_7 : ((Nat → Int32) × Int32)) (R_13 : ((Nat → Int32) × Int32)) (k0_31 : Int32) (R_31 : ((Nat → Int32) × Int32)) (R_37 : ((Nat → Int32) × Int32)) (R_45 : ((Nat → Int32) × Int32)) (R_51 : ((Nat → Int32) × Int32)) (R_59 : ((Nat → Int32) × Int32)) (R_65 : ((Nat → Int32) × Int32)) (R_73 : ((Nat → Int32) × Int32)) : (Nat → Int32) × Int32 :=
  f_Wr_tell_r79 oS_board oS_side oS_rights oS_passed oS_clock oS_number yS_characters yS_length R_7 R_13 k0_31 R_31 R_37 R_45 R_51 R_59 R_65 R_73 (f_Li_add R_73.1 R_73.2 32)
theorem f_Wr_tell_r73_eq (oS_board : St_Bo) (oS_side : Int32) (oS_rights : Int32) (oS_passed : Int32) (oS_clock : Int32) (oS_number : Int32) (yS_characters : Nat → Int32) (yS_length : Int32) (R_7 : ((Nat → Int32) × Int32)) (R_13 : ((Nat → Int32) × Int32)) (k0_31 : Int32) (R_31 : ((Nat → Int32) × Int32)) (R_37 : ((Nat → Int32) × Int32)) (R_45 : ((Nat → Int32) × Int32)) (R_51 : ((Nat → Int32) × Int32)) (R_59 : ((Nat → Int32) × Int32)) (R_65 : ((Nat → Int32) × Int32)) (R_73 : ((Nat → Int32) × Int32)) : f_Wr_tell_r73 oS_board oS_side oS_rights oS_passed oS_clock oS_number yS_characters yS_length R_7 R_13 k0_31 R_31 R_37 R_45 R_51 R_59 R_65 R_73 =
  f_Wr_tell_r79 oS_board oS_side oS_rights oS_passed oS_clock oS_number yS_characters yS_length R_7 R_13 k0_31 R_31 R_37 R_45 R_51 R_59 R_65 R_73 (f_Li_add R_73.1 R_73.2 32) := rfl

def f_Wr_tell_r65 (oS_board : St_Bo) (oS_side : Int32) (oS_rights : Int32) (oS_passed : Int32) (oS_clock : Int32) (oS_number : Int32) (yS_characters : Nat → Int32) (yS_length : Int32) (R_7 : ((Nat → Int32) × Int32)) (R_13 : ((Nat → Int32) × Int32)) (k0_31 : Int32) (R_31 : ((Nat → Int32) × Int32)) (R_37 : ((Nat → Int32) × Int32)) (R_45 : ((Nat → Int32) × Int32)) (R_51 : ((Nat → Int32) × Int32)) (R_59 : ((Nat → Int32) × Int32)) (R_65 : ((Nat → Int32) × Int32)) : (Nat → Int32) × Int32 :=
  f_Wr_tell_r73 oS_board oS_side oS_rights oS_passed oS_clock oS_number yS_characters yS_length R_7 R_13 k0_31 R_31 R_37 R_45 R_51 R_59 R_65 (f_Wr_tellNumber R_65.1 R_65.2 oS_clock)
theorem f_Wr_tell_r65_eq (oS_board : St_Bo) (oS_side : Int32) (oS_rights : Int32) (oS_passed : Int32) (oS_clock : Int32) (oS_number : Int32) (yS_characters : Nat → Int32) (yS_length : Int32) (R_7 : ((Nat → Int32) × Int32)) (R_13 : ((Nat → Int32) × Int32)) (k0_31 : Int32) (R_31 : ((Nat → Int32) × Int32)) (R_37 : ((Nat → Int32) × Int32)) (R_45 : ((Nat → Int32) × Int32)) (R_51 : ((Nat → Int32) × Int32)) (R_59 : ((Nat → Int32) × Int32)) (R_65 : ((Nat → Int32) × Int32)) : f_Wr_tell_r65 oS_board oS_side oS_rights oS_passed oS_clock oS_number yS_characters yS_length R_7 R_13 k0_31 R_31 R_37 R_45 R_51 R_59 R_65 =
  f_Wr_tell_r73 oS_board oS_side oS_rights oS_passed oS_clock oS_number yS_characters yS_length R_7 R_13 k0_31 R_31 R_37 R_45 R_51 R_59 R_65 (f_Wr_tellNumber R_65.1 R_65.2 oS_clock) := rfl

def f_Wr_tell_r59 (oS_board : St_Bo) (oS_side : Int32) (oS_rights : Int32) (oS_passed : Int32) (oS_clock : Int32) (oS_number : Int32) (yS_characters : Nat → Int32) (yS_length : Int32) (R_7 : ((Nat → Int32) × Int32)) (R_13 : ((Nat → Int32) × Int32)) (k0_31 : Int32) (R_31 : ((Nat → Int32) × Int32)) (R_37 : ((Nat → Int32) × Int32)) (R_45 : ((Nat → Int32) × Int32)) (R_51 : ((Nat → Int32) × Int32)) (R_59 : ((Nat → Int32) × Int32)) : (Nat → Int32) × Int32 :=
  f_Wr_tell_r65 oS_board oS_side oS_rights oS_passed oS_clock oS_number yS_characters yS_length R_7 R_13 k0_31 R_31 R_37 R_45 R_51 R_59 (f_Li_add R_59.1 R_59.2 32)
theorem f_Wr_tell_r59_eq (oS_board : St_Bo) (oS_side : Int32) (oS_rights : Int32) (oS_passed : Int32) (oS_clock : Int32) (oS_number : Int32) (yS_characters : Nat → Int32) (yS_length : Int32) (R_7 : ((Nat → Int32) × Int32)) (R_13 : ((Nat → Int32) × Int32)) (k0_31 : Int32) (R_31 : ((Nat → Int32) × Int32)) (R_37 : ((Nat → Int32) × Int32)) (R_45 : ((Nat → Int32) × Int32)) (R_51 : ((Nat → Int32) × Int32)) (R_59 : ((Nat → Int32) × Int32)) : f_Wr_tell_r59 oS_board oS_side oS_rights oS_passed oS_clock oS_number yS_characters yS_length R_7 R_13 k0_31 R_31 R_37 R_45 R_51 R_59 =
  f_Wr_tell_r65 oS_board oS_side oS_rights oS_passed oS_clock oS_number yS_characters yS_length R_7 R_13 k0_31 R_31 R_37 R_45 R_51 R_59 (f_Li_add R_59.1 R_59.2 32) := rfl

def f_Wr_tell_r51 (oS_board : St_Bo) (oS_side : Int32) (oS_rights : Int32) (oS_passed : Int32) (oS_clock : Int32) (oS_number : Int32) (yS_characters : Nat → Int32) (yS_length : Int32) (R_7 : ((Nat → Int32) × Int32)) (R_13 : ((Nat → Int32) × Int32)) (k0_31 : Int32) (R_31 : ((Nat → Int32) × Int32)) (R_37 : ((Nat → Int32) × Int32)) (R_45 : ((Nat → Int32) × Int32)) (R_51 : ((Nat → Int32) × Int32)) : (Nat → Int32) × Int32 :=
  f_Wr_tell_r59 oS_board oS_side oS_rights oS_passed oS_clock oS_number yS_characters yS_length R_7 R_13 k0_31 R_31 R_37 R_45 R_51 (f_Wr_tellPassed R_51.1 R_51.2 oS_passed)
theorem f_Wr_tell_r51_eq (oS_board : St_Bo) (oS_side : Int32) (oS_rights : Int32) (oS_passed : Int32) (oS_clock : Int32) (oS_number : Int32) (yS_characters : Nat → Int32) (yS_length : Int32) (R_7 : ((Nat → Int32) × Int32)) (R_13 : ((Nat → Int32) × Int32)) (k0_31 : Int32) (R_31 : ((Nat → Int32) × Int32)) (R_37 : ((Nat → Int32) × Int32)) (R_45 : ((Nat → Int32) × Int32)) (R_51 : ((Nat → Int32) × Int32)) : f_Wr_tell_r51 oS_board oS_side oS_rights oS_passed oS_clock oS_number yS_characters yS_length R_7 R_13 k0_31 R_31 R_37 R_45 R_51 =
  f_Wr_tell_r59 oS_board oS_side oS_rights oS_passed oS_clock oS_number yS_characters yS_length R_7 R_13 k0_31 R_31 R_37 R_45 R_51 (f_Wr_tellPassed R_51.1 R_51.2 oS_passed) := rfl

def f_Wr_tell_r45 (oS_board : St_Bo) (oS_side : Int32) (oS_rights : Int32) (oS_passed : Int32) (oS_clock : Int32) (oS_number : Int32) (yS_characters : Nat → Int32) (yS_length : Int32) (R_7 : ((Nat → Int32) × Int32)) (R_13 : ((Nat → Int32) × Int32)) (k0_31 : Int32) (R_31 : ((Nat → Int32) × Int32)) (R_37 : ((Nat → Int32) × Int32)) (R_45 : ((Nat → Int32) × Int32)) : (Nat → Int32) × Int32 :=
  f_Wr_tell_r51 oS_board oS_side oS_rights oS_passed oS_clock oS_number yS_characters yS_length R_7 R_13 k0_31 R_31 R_37 R_45 (f_Li_add R_45.1 R_45.2 32)
theorem f_Wr_tell_r45_eq (oS_board : St_Bo) (oS_side : Int32) (oS_rights : Int32) (oS_passed : Int32) (oS_clock : Int32) (oS_number : Int32) (yS_characters : Nat → Int32) (yS_length : Int32) (R_7 : ((Nat → Int32) × Int32)) (R_13 : ((Nat → Int32) × Int32)) (k0_31 : Int32) (R_31 : ((Nat → Int32) × Int32)) (R_37 : ((Nat → Int32) × Int32)) (R_45 : ((Nat → Int32) × Int32)) : f_Wr_tell_r45 oS_board oS_side oS_rights oS_passed oS_clock oS_number yS_characters yS_length R_7 R_13 k0_31 R_31 R_37 R_45 =
  f_Wr_tell_r51 oS_board oS_side oS_rights oS_passed oS_clock oS_number yS_characters yS_length R_7 R_13 k0_31 R_31 R_37 R_45 (f_Li_add R_45.1 R_45.2 32) := rfl

def f_Wr_tell_r37 (oS_board : St_Bo) (oS_side : Int32) (oS_rights : Int32) (oS_passed : Int32) (oS_clock : Int32) (oS_number : Int32) (yS_characters : Nat → Int32) (yS_length : Int32) (R_7 : ((Nat → Int32) × Int32)) (R_13 : ((Nat → Int32) × Int32)) (k0_31 : Int32) (R_31 : ((Nat → Int32) × Int32)) (R_37 : ((Nat → Int32) × Int32)) : (Nat → Int32) × Int32 :=
  f_Wr_tell_r45 oS_board oS_side oS_rights oS_passed oS_clock oS_number yS_characters yS_length R_7 R_13 k0_31 R_31 R_37 (f_Wr_tellRights R_37.1 R_37.2 oS_rights)
theorem f_Wr_tell_r37_eq (oS_board : St_Bo) (oS_side : Int32) (oS_rights : Int32) (oS_passed : Int32) (oS_clock : Int32) (oS_number : Int32) (yS_characters : Nat → Int32) (yS_length : Int32) (R_7 : ((Nat → Int32) × Int32)) (R_13 : ((Nat → Int32) × Int32)) (k0_31 : Int32) (R_31 : ((Nat → Int32) × Int32)) (R_37 : ((Nat → Int32) × Int32)) : f_Wr_tell_r37 oS_board oS_side oS_rights oS_passed oS_clock oS_number yS_characters yS_length R_7 R_13 k0_31 R_31 R_37 =
  f_Wr_tell_r45 oS_board oS_side oS_rights oS_passed oS_clock oS_number yS_characters yS_length R_7 R_13 k0_31 R_31 R_37 (f_Wr_tellRights R_37.1 R_37.2 oS_rights) := rfl

def f_Wr_tell_r31 (oS_board : St_Bo) (oS_side : Int32) (oS_rights : Int32) (oS_passed : Int32) (oS_clock : Int32) (oS_number : Int32) (yS_characters : Nat → Int32) (yS_length : Int32) (R_7 : ((Nat → Int32) × Int32)) (R_13 : ((Nat → Int32) × Int32)) (k0_31 : Int32) (R_31 : ((Nat → Int32) × Int32)) : (Nat → Int32) × Int32 :=
  f_Wr_tell_r37 oS_board oS_side oS_rights oS_passed oS_clock oS_number yS_characters yS_length R_7 R_13 k0_31 R_31 (f_Li_add R_31.1 R_31.2 32)
theorem f_Wr_tell_r31_eq (oS_board : St_Bo) (oS_side : Int32) (oS_rights : Int32) (oS_passed : Int32) (oS_clock : Int32) (oS_number : Int32) (yS_characters : Nat → Int32) (yS_length : Int32) (R_7 : ((Nat → Int32) × Int32)) (R_13 : ((Nat → Int32) × Int32)) (k0_31 : Int32) (R_31 : ((Nat → Int32) × Int32)) : f_Wr_tell_r31 oS_board oS_side oS_rights oS_passed oS_clock oS_number yS_characters yS_length R_7 R_13 k0_31 R_31 =
  f_Wr_tell_r37 oS_board oS_side oS_rights oS_passed oS_clock oS_number yS_characters yS_length R_7 R_13 k0_31 R_31 (f_Li_add R_31.1 R_31.2 32) := rfl

def f_Wr_tell_31 (oS_board : St_Bo) (oS_side : Int32) (oS_rights : Int32) (oS_passed : Int32) (oS_clock : Int32) (oS_number : Int32) (yS_characters : Nat → Int32) (yS_length : Int32) (R_7 : ((Nat → Int32) × Int32)) (R_13 : ((Nat → Int32) × Int32)) (k0_31 : Int32) : (Nat → Int32) × Int32 :=
  f_Wr_tell_r31 oS_board oS_side oS_rights oS_passed oS_clock oS_number yS_characters yS_length R_7 R_13 k0_31 (f_Li_add R_13.1 R_13.2 k0_31)
theorem f_Wr_tell_31_eq (oS_board : St_Bo) (oS_side : Int32) (oS_rights : Int32) (oS_passed : Int32) (oS_clock : Int32) (oS_number : Int32) (yS_characters : Nat → Int32) (yS_length : Int32) (R_7 : ((Nat → Int32) × Int32)) (R_13 : ((Nat → Int32) × Int32)) (k0_31 : Int32) : f_Wr_tell_31 oS_board oS_side oS_rights oS_passed oS_clock oS_number yS_characters yS_length R_7 R_13 k0_31 =
  f_Wr_tell_r31 oS_board oS_side oS_rights oS_passed oS_clock oS_number yS_characters yS_length R_7 R_13 k0_31 (f_Li_add R_13.1 R_13.2 k0_31) := rfl

def f_Wr_tell_r13 (oS_board : St_Bo) (oS_side : Int32) (oS_rights : Int32) (oS_passed : Int32) (oS_clock : Int32) (oS_number : Int32) (yS_characters : Nat → Int32) (yS_length : Int32) (R_7 : ((Nat → Int32) × Int32)) (R_13 : ((Nat → Int32) × Int32)) : (Nat → Int32) × Int32 :=
  (if oS_side = 0 then f_Wr_tell_31 oS_board oS_side oS_rights oS_passed oS_clock oS_number yS_characters yS_length R_7 R_13 119 else f_Wr_tell_31 oS_board oS_side oS_rights oS_passed oS_clock oS_number yS_characters yS_length R_7 R_13 98)
theorem f_Wr_tell_r13_eq (oS_board : St_Bo) (oS_side : Int32) (oS_rights : Int32) (oS_passed : Int32) (oS_clock : Int32) (oS_number : Int32) (yS_characters : Nat → Int32) (yS_length : Int32) (R_7 : ((Nat → Int32) × Int32)) (R_13 : ((Nat → Int32) × Int32)) : f_Wr_tell_r13 oS_board oS_side oS_rights oS_passed oS_clock oS_number yS_characters yS_length R_7 R_13 =
  (if oS_side = 0 then f_Wr_tell_31 oS_board oS_side oS_rights oS_passed oS_clock oS_number yS_characters yS_length R_7 R_13 119 else f_Wr_tell_31 oS_board oS_side oS_rights oS_passed oS_clock oS_number yS_characters yS_length R_7 R_13 98) := rfl

def f_Wr_tell_r7 (oS_board : St_Bo) (oS_side : Int32) (oS_rights : Int32) (oS_passed : Int32) (oS_clock : Int32) (oS_number : Int32) (yS_characters : Nat → Int32) (yS_length : Int32) (R_7 : ((Nat → Int32) × Int32)) : (Nat → Int32) × Int32 :=
  f_Wr_tell_r13 oS_board oS_side oS_rights oS_passed oS_clock oS_number yS_characters yS_length R_7 (f_Li_add R_7.1 R_7.2 32)
theorem f_Wr_tell_r7_eq (oS_board : St_Bo) (oS_side : Int32) (oS_rights : Int32) (oS_passed : Int32) (oS_clock : Int32) (oS_number : Int32) (yS_characters : Nat → Int32) (yS_length : Int32) (R_7 : ((Nat → Int32) × Int32)) : f_Wr_tell_r7 oS_board oS_side oS_rights oS_passed oS_clock oS_number yS_characters yS_length R_7 =
  f_Wr_tell_r13 oS_board oS_side oS_rights oS_passed oS_clock oS_number yS_characters yS_length R_7 (f_Li_add R_7.1 R_7.2 32) := rfl

def f_Wr_tell (oS_board : St_Bo) (oS_side : Int32) (oS_rights : Int32) (oS_passed : Int32) (oS_clock : Int32) (oS_number : Int32) (yS_characters : Nat → Int32) (yS_length : Int32) : (Nat → Int32) × Int32 :=
  f_Wr_tell_r7 oS_board oS_side oS_rights oS_passed oS_clock oS_number yS_characters yS_length (f_Wr_tellMen oS_board yS_characters (f_Li_shorten yS_length 0))
theorem f_Wr_tell_eq (oS_board : St_Bo) (oS_side : Int32) (oS_rights : Int32) (oS_passed : Int32) (oS_clock : Int32) (oS_number : Int32) (yS_characters : Nat → Int32) (yS_length : Int32) : f_Wr_tell oS_board oS_side oS_rights oS_passed oS_clock oS_number yS_characters yS_length =
  f_Wr_tell_r7 oS_board oS_side oS_rights oS_passed oS_clock oS_number yS_characters yS_length (f_Wr_tellMen oS_board yS_characters (f_Li_shorten yS_length 0)) := rfl

set_option maxHeartbeats 4000000 in
set_option maxRecDepth 100000 in
theorem c_Wr_tell (l : Launch) (dC : Nat → ClassId) (dI : Nat → Nat → Nat) (cI cJ cC : ClassId) (ad : Nat → Nat) (o o_board o_board_men o_board_sets y y_characters : Nat) (sz : Nat) (oS_board : St_Bo) (oS_side : Int32) (oS_rights : Int32) (oS_passed : Int32) (oS_clock : Int32) (oS_number : Int32) (yS_characters : Nat → Int32) (yS_length : Int32) : Met l yWr_tell wsWr_tell { frames := 7, cells := 0, slots := 0, locals := 152 } (rwP dC dI (TYS cI cJ cC) [.ref o, .ref y] [(o, .inr (3, [.ref o_board, .int oS_side, .int oS_rights, .int oS_passed, .int oS_clock, .int oS_number])), (o_board, .inr (0, [.ref o_board_men, .ref o_board_sets])), (o_board_men, .inl (cI, 64, .inl oS_board.1)), (o_board_sets, .inl (cJ, 16, .inr (.inl oS_board.2))), (y, .inr (2, [.ref y_characters, .int yS_length])), (y_characters, .inl (cC, 100, .inl yS_characters))] sz (GS ad)) (va_Qv (fun _ : Unit => True) (rwB dC dI (TYS cI cJ cC) [(o, .inr (3, [.ref o_board, .int oS_side, .int oS_rights, .int oS_passed, .int oS_clock, .int oS_number])), (o_board, .inr (0, [.ref o_board_men, .ref o_board_sets])), (o_board_men, .inl (cI, 64, .inl oS_board.1)), (o_board_sets, .inl (cJ, 16, .inr (.inl oS_board.2))), (y, .inr (2, [.ref y_characters, .int ((f_Wr_tell oS_board oS_side oS_rights oS_passed oS_clock oS_number yS_characters yS_length).2)])), (y_characters, .inl (cC, 100, .inl ((f_Wr_tell oS_board oS_side oS_rights oS_passed oS_clock oS_number yS_characters yS_length).1)))] (va_A [(o, .inr (3, [.ref o_board, .int oS_side, .int oS_rights, .int oS_passed, .int oS_clock, .int oS_number])), (o_board, .inr (0, [.ref o_board_men, .ref o_board_sets])), (o_board_men, .inl (cI, 64, .inl oS_board.1)), (o_board_sets, .inl (cJ, 16, .inr (.inl oS_board.2))), (y, .inr (2, [.ref y_characters, .int yS_length])), (y_characters, .inl (cC, 100, .inl yS_characters))] sz)) (va_A [(o, .inr (3, [.ref o_board, .int oS_side, .int oS_rights, .int oS_passed, .int oS_clock, .int oS_number])), (o_board, .inr (0, [.ref o_board_men, .ref o_board_sets])), (o_board_men, .inl (cI, 64, .inl oS_board.1)), (o_board_sets, .inl (cJ, 16, .inr (.inl oS_board.2))), (y, .inr (2, [.ref y_characters, .int yS_length])), (y_characters, .inl (cC, 100, .inl yS_characters))] sz)) 0 0 (va_A [(o, .inr (3, [.ref o_board, .int oS_side, .int oS_rights, .int oS_passed, .int oS_clock, .int oS_number])), (o_board, .inr (0, [.ref o_board_men, .ref o_board_sets])), (o_board_men, .inl (cI, 64, .inl oS_board.1)), (o_board_sets, .inl (cJ, 16, .inr (.inl oS_board.2))), (y, .inr (2, [.ref y_characters, .int yS_length])), (y_characters, .inl (cC, 100, .inl yS_characters))] sz) := by
  refine Met.ofW (cc := cWr_tell) (maxL := 2) (ret := none) (by decide) rfl ?_
  intro p e s m args below meth c s₁ B hml hv
  obtain ⟨rfl, hsz, hP, hK, hD0, hG⟩ := hv
  have hx := B.exec
  have hb := B.bytes
  have hr := B.returns
  have hB : ∀ w9 ∈ BIG, w9.before ([.ref o, .ref y]).toArray s = true := fun w9 h => atoms_spec (ws := wsWr_tell) B.pre w9 (List.mem_cons_of_mem _ h)
  have hown : s.vm.findClass "ChessRules$Writer" = some m.cls := findClass_of_methodNamed B.named
  have hlocks := B.notSynchronized
  subst hsz
  have hD := hD0.self (sz := s.heap.size)
  generalize hAe : va_A [(o, .inr (3, [.ref o_board, .int oS_side, .int oS_rights, .int oS_passed, .int oS_clock, .int oS_number])), (o_board, .inr (0, [.ref o_board_men, .ref o_board_sets])), (o_board_men, .inl (cI, 64, .inl oS_board.1)), (o_board_sets, .inl (cJ, 16, .inr (.inl oS_board.2))), (y, .inr (2, [.ref y_characters, .int yS_length])), (y_characters, .inl (cC, 100, .inl yS_characters))] s.heap.size = A at hD hG ⊢
  have hA : ∀ q : Nat, s.heap.size ≤ q → A q := fun q h => by rw [← hAe]; exact Or.inr h
  have hS : va_S A s.heap s.heap [] := va_S.rf
  have hP : va_P (dC, dI) vwCl [(o, .inr (3, [.ref o_board, .int oS_side, .int oS_rights, .int oS_passed, .int oS_clock, .int oS_number])), (o_board, .inr (0, [.ref o_board_men, .ref o_board_sets])), (o_board_men, .inl (cI, 64, .inl oS_board.1)), (o_board_sets, .inl (cJ, 16, .inr (.inl oS_board.2))), (y, .inr (2, [.ref y_characters, .int yS_length])), (y_characters, .inl (cC, 100, .inl yS_characters))] s.heap := hP
  have hl := lv_entry ([.ref o, .ref y]) (n := 2) (Nat.le_of_ble_eq_true rfl)
  rw [lg_entry_eq]
  generalize (lg_sl ([.ref o, .ref y]) ++ List.replicate (2 - (lg_sl ([.ref o, .ref y])).length) Slot.unset).toArray = ls at hl ⊢
  have hl : lv_has ls 2 [(0, .ref o), (1, .ref y)] := hl
  refine lv_aload_n hx hb dWr_tell_0 rfl (lv_at hl 1 rfl) ?_
  refine lv_iconst (v := 0) hx hb dWr_tell_1 (by decide) ?_
  refine rw_gov (wr := [(o, .inr (3, [.ref o_board, .int oS_side, .int oS_rights, .int oS_passed, .int oS_clock, .int oS_number])), (o_board, .inr (0, [.ref o_board_men, .ref o_board_sets])), (o_board_men, .inl (cI, 64, .inl oS_board.1)), (o_board_sets, .inl (cJ, 16, .inr (.inl oS_board.2)))]) (va_runVN (C := "ChessRules$Line") (As := [.int 0]) (rest := []) ⟨hx, hb, hml, hown, hB⟩ (c_Li_shorten l dC dI cI cJ cC ad y y_characters s.heap.size yS_characters yS_length 0) ⟨va_cnB 1 hB (big_self q2_239) rfl rfl rfl (hG.1 _ q3_33) (hB _ q1_3) (by decide +kernel) ⟨Nat.le_of_ble_eq_true rfl, Nat.le_of_ble_eq_true rfl⟩, (hB _ q2_238), (hB _ qs3_4)⟩ (rw_preV (GS_ok ad) hK hP hD hA hG hS [4, 5] (by decide) rfl rfl (va_recv hK hP (ci := 2) (q0 := 4) rfl rfl)) rfl rfl hl.1 rfl (lv_room (Nat.le_of_ble_eq_true rfl)) dWr_tell_2 ⟨Nat.le_of_ble_eq_true rfl, Nat.le_of_ble_eq_true rfl⟩) hP hD hS hA [4, 5] [0, 1, 2, 3] rfl rfl (by decide) (by decide) (fun H locs hP hD hS => ?_)
  have hP : va_P (dC, dI) vwCl [(o, .inr (3, [.ref o_board, .int oS_side, .int oS_rights, .int oS_passed, .int oS_clock, .int oS_number])), (o_board, .inr (0, [.ref o_board_men, .ref o_board_sets])), (o_board_men, .inl (cI, 64, .inl oS_board.1)), (o_board_sets, .inl (cJ, 16, .inr (.inl oS_board.2))), (y, .inr (2, [.ref y_characters, .int (f_Li_shorten yS_length 0)])), (y_characters, .inl (cC, 100, .inl yS_characters))] H := hP
  have hD : va_D A [(o, .inr (3, [.ref o_board, .int oS_side, .int oS_rights, .int oS_passed, .int oS_clock, .int oS_number])), (o_board, .inr (0, [.ref o_board_men, .ref o_board_sets])), (o_board_men, .inl (cI, 64, .inl oS_board.1)), (o_board_sets, .inl (cJ, 16, .inr (.inl oS_board.2))), (y, .inr (2, [.ref y_characters, .int (f_Li_shorten yS_length 0)])), (y_characters, .inl (cC, 100, .inl yS_characters))] := hD
  refine lv_aload_n hx hb dWr_tell_5 rfl (lv_at hl 0 rfl) ?_
  refine lv_aload_n hx hb dWr_tell_6 rfl (lv_at hl 1 rfl) ?_
  obtain ⟨R_7, hR_7⟩ : ∃ R9, R9 = f_Wr_tellMen oS_board yS_characters (f_Li_shorten yS_length 0) := ⟨_, rfl⟩
  have hM_7 := (c_Wr_tellMen l dC dI cI cJ cC ad o o_board o_board_men o_board_sets y y_characters H.size oS_board oS_side oS_rights oS_passed oS_clock oS_number yS_characters (f_Li_shorten yS_length 0))
  rw [← hR_7] at hM_7
  refine rw_gov (wr := []) (va_runS (As := [.ref o, .ref y]) (rest := []) ⟨hx, hb, hml, hown, hB⟩ hM_7 ⟨callB_of 2 hB (big_self q3_36) rfl rfl rfl (hB _ q1_16) (hB _ q3_34) (by decide +kernel) ⟨Nat.le_of_ble_eq_true rfl, Nat.le_of_ble_eq_true rfl⟩, (hB _ q3_35)⟩ (rw_preS (GS_ok ad) hK hP hD hA hG hS [0, 1, 2, 3, 4, 5] (by decide) rfl rfl) rfl rfl hl.1 rfl (lv_room (Nat.le_of_ble_eq_true rfl)) dWr_tell_7 ⟨Nat.le_of_ble_eq_true rfl, Nat.le_of_ble_eq_true rfl⟩) hP hD hS hA [0, 1, 2, 3, 4, 5] [] rfl rfl (by decide) (by decide) (fun H locs hP hD hS => ?_)
  have hP : va_P (dC, dI) vwCl [(o, .inr (3, [.ref o_board, .int oS_side, .int oS_rights, .int oS_passed, .int oS_clock, .int oS_number])), (o_board, .inr (0, [.ref o_board_men, .ref o_board_sets])), (o_board_men, .inl (cI, 64, .inl oS_board.1)), (o_board_sets, .inl (cJ, 16, .inr (.inl oS_board.2))), (y, .inr (2, [.ref y_characters, .int R_7.2])), (y_characters, .inl (cC, 100, .inl R_7.1))] H := hP
  have hD : va_D A [(o, .inr (3, [.ref o_board, .int oS_side, .int oS_rights, .int oS_passed, .int oS_clock, .int oS_number])), (o_board, .inr (0, [.ref o_board_men, .ref o_board_sets])), (o_board_men, .inl (cI, 64, .inl oS_board.1)), (o_board_sets, .inl (cJ, 16, .inr (.inl oS_board.2))), (y, .inr (2, [.ref y_characters, .int R_7.2])), (y_characters, .inl (cC, 100, .inl R_7.1))] := hD
  have he_r7 : f_Wr_tell oS_board oS_side oS_rights oS_passed oS_clock oS_number yS_characters yS_length = f_Wr_tell_r7 oS_board oS_side oS_rights oS_passed oS_clock oS_number yS_characters yS_length R_7 := (by rw [f_Wr_tell_eq, ← hR_7] <;> rfl)
  refine lv_aload_n hx hb dWr_tell_10 rfl (lv_at hl 1 rfl) ?_
  refine lv_bipush (v := 32) hx hb dWr_tell_11 (by decide) ?_
  obtain ⟨R_13, hR_13⟩ : ∃ R9, R9 = f_Li_add R_7.1 R_7.2 32 := ⟨_, rfl⟩
  have hM_13 := (c_Li_add l dC dI cI cJ cC ad y y_characters H.size R_7.1 R_7.2 32)
  rw [← hR_13] at hM_13
  refine rw_gov (wr := [(o, .inr (3, [.ref o_board, .int oS_side, .int oS_rights, .int oS_passed, .int oS_clock, .int oS_number])), (o_board, .inr (0, [.ref o_board_men, .ref o_board_sets])), (o_board_men, .inl (cI, 64, .inl oS_board.1)), (o_board_sets, .inl (cJ, 16, .inr (.inl oS_board.2)))]) (va_runVN (C := "ChessRules$Line") (As := [.int 32]) (rest := []) ⟨hx, hb, hml, hown, hB⟩ hM_13 ⟨va_cnB 1 hB (big_self q1_216) rfl rfl rfl (hG.1 _ q3_44) (hB _ q1_3) (by decide +kernel) ⟨Nat.le_of_ble_eq_true rfl, Nat.le_of_ble_eq_true rfl⟩, (hB _ q1_215), (hB _ qs1_0)⟩ (rw_preV (GS_ok ad) hK hP hD hA hG hS [4, 5] (by decide) rfl rfl (va_recv hK hP (ci := 2) (q0 := 4) rfl rfl)) rfl rfl hl.1 rfl (lv_room (Nat.le_of_ble_eq_true rfl)) dWr_tell_13 ⟨Nat.le_of_ble_eq_true rfl, Nat.le_of_ble_eq_true rfl⟩) hP hD hS hA [4, 5] [0, 1, 2, 3] rfl rfl (by decide) (by decide) (fun H locs hP hD hS => ?_)
  have hP : va_P (dC, dI) vwCl [(o, .inr (3, [.ref o_board, .int oS_side, .int oS_rights, .int oS_passed, .int oS_clock, .int oS_number])), (o_board, .inr (0, [.ref o_board_men, .ref o_board_sets])), (o_board_men, .inl (cI, 64, .inl oS_board.1)), (o_board_sets, .inl (cJ, 16, .inr (.inl oS_board.2))), (y, .inr (2, [.ref y_characters, .int R_13.2])), (y_characters, .inl (cC, 100, .inl R_13.1))] H := hP
  have hD : va_D A [(o, .inr (3, [.ref o_board, .int oS_side, .int oS_rights, .int oS_passed, .int oS_clock, .int oS_number])), (o_board, .inr (0, [.ref o_board_men, .ref o_board_sets])), (o_board_men, .inl (cI, 64, .inl oS_board.1)), (o_board_sets, .inl (cJ, 16, .inr (.inl oS_board.2))), (y, .inr (2, [.ref y_characters, .int R_13.2])), (y_characters, .inl (cC, 100, .inl R_13.1))] := hD
  have he_r13 : f_Wr_tell oS_board oS_side oS_rights oS_passed oS_clock oS_number yS_characters yS_length = f_Wr_tell_r13 oS_board oS_side oS_rights oS_passed oS_clock oS_number yS_characters yS_length R_7 R_13 := (he_r7.trans (by rw [f_Wr_tell_r7_eq, ← hR_13] <;> rfl))
  refine lv_aload_n hx hb dWr_tell_16 rfl (lv_at hl 1 rfl) ?_
  refine lv_aload_n hx hb dWr_tell_17 rfl (lv_at hl 0 rfl) ?_
  refine va_getN (D := (dC, dI)) (ci := 3) (v := .int oS_side) (C := RPo) (T := TPo) (N := 6) hx hb hB inPo hown hK hP 0 rfl rfl 1 (by decide) (va_Nw.use rfl (hG.1 _ q1_84)) (fun _ h9 => h9) rfl dWr_tell_18 ?_
  have J_31 : ∀ (k0_31 : Int32), f_Wr_tell oS_board oS_side oS_rights oS_passed oS_clock oS_number yS_characters yS_length = f_Wr_tell_31 oS_board oS_side oS_rights oS_passed oS_clock oS_number yS_characters yS_length R_7 R_13 k0_31 → ∀ (H : Heap) (locs : List Loc), va_P (dC, dI) vwCl [(o, .inr (3, [.ref o_board, .int oS_side, .int oS_rights, .int oS_passed, .int oS_clock, .int oS_number])), (o_board, .inr (0, [.ref o_board_men, .ref o_board_sets])), (o_board_men, .inl (cI, 64, .inl oS_board.1)), (o_board_sets, .inl (cJ, 16, .inr (.inl oS_board.2))), (y, .inr (2, [.ref y_characters, .int R_13.2])), (y_characters, .inl (cC, 100, .inl R_13.1))] H → va_D A [(o, .inr (3, [.ref o_board, .int oS_side, .int oS_rights, .int oS_passed, .int oS_clock, .int oS_number])), (o_board, .inr (0, [.ref o_board_men, .ref o_board_sets])), (o_board_men, .inl (cI, 64, .inl oS_board.1)), (o_board_sets, .inl (cJ, 16, .inr (.inl oS_board.2))), (y, .inr (2, [.ref y_characters, .int R_13.2])), (y_characters, .inl (cC, 100, .inl R_13.1))] → va_S A s.heap H locs → ∀ ls : Array Slot, lv_has ls 2 [(0, .ref o), (1, .ref y)] → W p l e (headSpec wsWr_tell { frames := 7, cells := 0, slots := 0, locals := 152 }).room s m ([.ref o, .ref y]).toArray below meth c H locs 0 0 (MQ below (va_Qv (fun _ : Unit => True) (rwB dC dI (TYS cI cJ cC) [(o, .inr (3, [.ref o_board, .int oS_side, .int oS_rights, .int oS_passed, .int oS_clock, .int oS_number])), (o_board, .inr (0, [.ref o_board_men, .ref o_board_sets])), (o_board_men, .inl (cI, 64, .inl oS_board.1)), (o_board_sets, .inl (cJ, 16, .inr (.inl oS_board.2))), (y, .inr (2, [.ref y_characters, .int ((f_Wr_tell oS_board oS_side oS_rights oS_passed oS_clock oS_number yS_characters yS_length).2)])), (y_characters, .inl (cC, 100, .inl ((f_Wr_tell oS_board oS_side oS_rights oS_passed oS_clock oS_number yS_characters yS_length).1)))] A) A) ([.ref o, .ref y]).toArray s 0 0 A) (F0 m 31 ls [.int k0_31, .ref y]) := by
    intro k0_31 he_31 H locs hP hD hS ls hl
    obtain ⟨R_31, hR_31⟩ : ∃ R9, R9 = f_Li_add R_13.1 R_13.2 k0_31 := ⟨_, rfl⟩
    have hM_31 := (c_Li_add l dC dI cI cJ cC ad y y_characters H.size R_13.1 R_13.2 k0_31)
    rw [← hR_31] at hM_31
    refine rw_gov (wr := [(o, .inr (3, [.ref o_board, .int oS_side, .int oS_rights, .int oS_passed, .int oS_clock, .int oS_number])), (o_board, .inr (0, [.ref o_board_men, .ref o_board_sets])), (o_board_men, .inl (cI, 64, .inl oS_board.1)), (o_board_sets, .inl (cJ, 16, .inr (.inl oS_board.2)))]) (va_runVN (C := "ChessRules$Line") (As := [.int k0_31]) (rest := []) ⟨hx, hb, hml, hown, hB⟩ hM_31 ⟨va_cnB 1 hB (big_self q1_216) rfl rfl rfl (hG.1 _ q3_44) (hB _ q1_3) (by decide +kernel) ⟨Nat.le_of_ble_eq_true rfl, Nat.le_of_ble_eq_true rfl⟩, (hB _ q1_215), (hB _ qs1_0)⟩ (rw_preV (GS_ok ad) hK hP hD hA hG hS [4, 5] (by decide) rfl rfl (va_recv hK hP (ci := 2) (q0 := 4) rfl rfl)) rfl rfl hl.1 rfl (lv_room (Nat.le_of_ble_eq_true rfl)) dWr_tell_31 ⟨Nat.le_of_ble_eq_true rfl, Nat.le_of_ble_eq_true rfl⟩) hP hD hS hA [4, 5] [0, 1, 2, 3] rfl rfl (by decide) (by decide) (fun H locs hP hD hS => ?_)
    have hP : va_P (dC, dI) vwCl [(o, .inr (3, [.ref o_board, .int oS_side, .int oS_rights, .int oS_passed, .int oS_clock, .int oS_number])), (o_board, .inr (0, [.ref o_board_men, .ref o_board_sets])), (o_board_men, .inl (cI, 64, .inl oS_board.1)), (o_board_sets, .inl (cJ, 16, .inr (.inl oS_board.2))), (y, .inr (2, [.ref y_characters, .int R_31.2])), (y_characters, .inl (cC, 100, .inl R_31.1))] H := hP
    have hD : va_D A [(o, .inr (3, [.ref o_board, .int oS_side, .int oS_rights, .int oS_passed, .int oS_clock, .int oS_number])), (o_board, .inr (0, [.ref o_board_men, .ref o_board_sets])), (o_board_men, .inl (cI, 64, .inl oS_board.1)), (o_board_sets, .inl (cJ, 16, .inr (.inl oS_board.2))), (y, .inr (2, [.ref y_characters, .int R_31.2])), (y_characters, .inl (cC, 100, .inl R_31.1))] := hD
    have he_r31 : f_Wr_tell oS_board oS_side oS_rights oS_passed oS_clock oS_number yS_characters yS_length = f_Wr_tell_r31 oS_board oS_side oS_rights oS_passed oS_clock oS_number yS_characters yS_length R_7 R_13 k0_31 R_31 := (he_31.trans (by rw [f_Wr_tell_31_eq, ← hR_31] <;> rfl))
    refine lv_aload_n hx hb dWr_tell_34 rfl (lv_at hl 1 rfl) ?_
    refine lv_bipush (v := 32) hx hb dWr_tell_35 (by decide) ?_
    obtain ⟨R_37, hR_37⟩ : ∃ R9, R9 = f_Li_add R_31.1 R_31.2 32 := ⟨_, rfl⟩
    have hM_37 := (c_Li_add l dC dI cI cJ cC ad y y_characters H.size R_31.1 R_31.2 32)
    rw [← hR_37] at hM_37
    refine rw_gov (wr := [(o, .inr (3, [.ref o_board, .int oS_side, .int oS_rights, .int oS_passed, .int oS_clock, .int oS_number])), (o_board, .inr (0, [.ref o_board_men, .ref o_board_sets])), (o_board_men, .inl (cI, 64, .inl oS_board.1)), (o_board_sets, .inl (cJ, 16, .inr (.inl oS_board.2)))]) (va_runVN (C := "ChessRules$Line") (As := [.int 32]) (rest := []) ⟨hx, hb, hml, hown, hB⟩ hM_37 ⟨va_cnB 1 hB (big_self q1_216) rfl rfl rfl (hG.1 _ q3_44) (hB _ q1_3) (by decide +kernel) ⟨Nat.le_of_ble_eq_true rfl, Nat.le_of_ble_eq_true rfl⟩, (hB _ q1_215), (hB _ qs1_0)⟩ (rw_preV (GS_ok ad) hK hP hD hA hG hS [4, 5] (by decide) rfl rfl (va_recv hK hP (ci := 2) (q0 := 4) rfl rfl)) rfl rfl hl.1 rfl (lv_room (Nat.le_of_ble_eq_true rfl)) dWr_tell_37 ⟨Nat.le_of_ble_eq_true rfl, Nat.le_of_ble_eq_true rfl⟩) hP hD hS hA [4, 5] [0, 1, 2, 3] rfl rfl (by decide) (by decide) (fun H locs hP hD hS => ?_)
    have hP : va_P (dC, dI) vwCl [(o, .inr (3, [.ref o_board, .int oS_side, .int oS_rights, .int oS_passed, .int oS_clock, .int oS_number])), (o_board, .inr (0, [.ref o_board_men, .ref o_board_sets])), (o_board_men, .inl (cI, 64, .inl oS_board.1)), (o_board_sets, .inl (cJ, 16, .inr (.inl oS_board.2))), (y, .inr (2, [.ref y_characters, .int R_37.2])), (y_characters, .inl (cC, 100, .inl R_37.1))] H := hP
    have hD : va_D A [(o, .inr (3, [.ref o_board, .int oS_side, .int oS_rights, .int oS_passed, .int oS_clock, .int oS_number])), (o_board, .inr (0, [.ref o_board_men, .ref o_board_sets])), (o_board_men, .inl (cI, 64, .inl oS_board.1)), (o_board_sets, .inl (cJ, 16, .inr (.inl oS_board.2))), (y, .inr (2, [.ref y_characters, .int R_37.2])), (y_characters, .inl (cC, 100, .inl R_37.1))] := hD
    have he_r37 : f_Wr_tell oS_board oS_side oS_rights oS_passed oS_clock oS_number yS_characters yS_length = f_Wr_tell_r37 oS_board oS_side oS_rights oS_passed oS_clock oS_number yS_characters yS_length R_7 R_13 k0_31 R_31 R_37 := (he_r31.trans (by rw [f_Wr_tell_r31_eq, ← hR_37] <;> rfl))
    refine lv_aload_n hx hb dWr_tell_40 rfl (lv_at hl 0 rfl) ?_
    refine va_getN (D := (dC, dI)) (ci := 3) (v := .int oS_rights) (C := RPo) (T := TPo) (N := 6) hx hb hB inPo hown hK hP 0 rfl rfl 2 (by decide) (va_Nw.use rfl (hG.1 _ q1_90)) (fun _ h9 => h9) rfl dWr_tell_41 ?_
    refine lv_aload_n hx hb dWr_tell_44 rfl (lv_at hl 1 rfl) ?_
    obtain ⟨R_45, hR_45⟩ : ∃ R9, R9 = f_Wr_tellRights R_37.1 R_37.2 oS_rights := ⟨_, rfl⟩
    have hM_45 := (c_Wr_tellRights l dC dI cI cJ cC ad y y_characters H.size R_37.1 R_37.2 oS_rights)
    rw [← hR_45] at hM_45
    refine rw_gov (wr := [(o, .inr (3, [.ref o_board, .int oS_side, .int oS_rights, .int oS_passed, .int oS_clock, .int oS_number])), (o_board, .inr (0, [.ref o_board_men, .ref o_board_sets])), (o_board_men, .inl (cI, 64, .inl oS_board.1)), (o_board_sets, .inl (cJ, 16, .inr (.inl oS_board.2)))]) (va_runS (As := [.int oS_rights, .ref y]) (rest := []) ⟨hx, hb, hml, hown, hB⟩ hM_45 ⟨callB_of 2 hB (big_self q3_53) rfl rfl rfl (hB _ q1_16) (hB _ q3_51) (by decide +kernel) ⟨Nat.le_of_ble_eq_true rfl, Nat.le_of_ble_eq_true rfl⟩, (hB _ q3_52)⟩ (rw_preS (GS_ok ad) hK hP hD hA hG hS [4, 5] (by decide) rfl rfl) rfl rfl hl.1 rfl (lv_room (Nat.le_of_ble_eq_true rfl)) dWr_tell_45 ⟨Nat.le_of_ble_eq_true rfl, Nat.le_of_ble_eq_true rfl⟩) hP hD hS hA [4, 5] [0, 1, 2, 3] rfl rfl (by decide) (by decide) (fun H locs hP hD hS => ?_)
    have hP : va_P (dC, dI) vwCl [(o, .inr (3, [.ref o_board, .int oS_side, .int oS_rights, .int oS_passed, .int oS_clock, .int oS_number])), (o_board, .inr (0, [.ref o_board_men, .ref o_board_sets])), (o_board_men, .inl (cI, 64, .inl oS_board.1)), (o_board_sets, .inl (cJ, 16, .inr (.inl oS_board.2))), (y, .inr (2, [.ref y_characters, .int R_45.2])), (y_characters, .inl (cC, 100, .inl R_45.1))] H := hP
    have hD : va_D A [(o, .inr (3, [.ref o_board, .int oS_side, .int oS_rights, .int oS_passed, .int oS_clock, .int oS_number])), (o_board, .inr (0, [.ref o_board_men, .ref o_board_sets])), (o_board_men, .inl (cI, 64, .inl oS_board.1)), (o_board_sets, .inl (cJ, 16, .inr (.inl oS_board.2))), (y, .inr (2, [.ref y_characters, .int R_45.2])), (y_characters, .inl (cC, 100, .inl R_45.1))] := hD
    have he_r45 : f_Wr_tell oS_board oS_side oS_rights oS_passed oS_clock oS_number yS_characters yS_length = f_Wr_tell_r45 oS_board oS_side oS_rights oS_passed oS_clock oS_number yS_characters yS_length R_7 R_13 k0_31 R_31 R_37 R_45 := (he_r37.trans (by rw [f_Wr_tell_r37_eq, ← hR_45] <;> rfl))
    refine lv_aload_n hx hb dWr_tell_48 rfl (lv_at hl 1 rfl) ?_
    refine lv_bipush (v := 32) hx hb dWr_tell_49 (by decide) ?_
    obtain ⟨R_51, hR_51⟩ : ∃ R9, R9 = f_Li_add R_45.1 R_45.2 32 := ⟨_, rfl⟩
    have hM_51 := (c_Li_add l dC dI cI cJ cC ad y y_characters H.size R_45.1 R_45.2 32)
    rw [← hR_51] at hM_51
    refine rw_gov (wr := [(o, .inr (3, [.ref o_board, .int oS_side, .int oS_rights, .int oS_passed, .int oS_clock, .int oS_number])), (o_board, .inr (0, [.ref o_board_men, .ref o_board_sets])), (o_board_men, .inl (cI, 64, .inl oS_board.1)), (o_board_sets, .inl (cJ, 16, .inr (.inl oS_board.2)))]) (va_runVN (C := "ChessRules$Line") (As := [.int 32]) (rest := []) ⟨hx, hb, hml, hown, hB⟩ hM_51 ⟨va_cnB 1 hB (big_self q1_216) rfl rfl rfl (hG.1 _ q3_44) (hB _ q1_3) (by decide +kernel) ⟨Nat.le_of_ble_eq_true rfl, Nat.le_of_ble_eq_true rfl⟩, (hB _ q1_215), (hB _ qs1_0)⟩ (rw_preV (GS_ok ad) hK hP hD hA hG hS [4, 5] (by decide) rfl rfl (va_recv hK hP (ci := 2) (q0 := 4) rfl rfl)) rfl rfl hl.1 rfl (lv_room (Nat.le_of_ble_eq_true rfl)) dWr_tell_51 ⟨Nat.le_of_ble_eq_true rfl, Nat.le_of_ble_eq_true rfl⟩) hP hD hS hA [4, 5] [0, 1, 2, 3] rfl rfl (by decide) (by decide) (fun H locs hP hD hS => ?_)
    have hP : va_P (dC, dI) vwCl [(o, .inr (3, [.ref o_board, .int oS_side, .int oS_rights, .int oS_passed, .int oS_clock, .int oS_number])), (o_board, .inr (0, [.ref o_board_men, .ref o_board_sets])), (o_board_men, .inl (cI, 64, .inl oS_board.1)), (o_board_sets, .inl (cJ, 16, .inr (.inl oS_board.2))), (y, .inr (2, [.ref y_characters, .int R_51.2])), (y_characters, .inl (cC, 100, .inl R_51.1))] H := hP
    have hD : va_D A [(o, .inr (3, [.ref o_board, .int oS_side, .int oS_rights, .int oS_passed, .int oS_clock, .int oS_number])), (o_board, .inr (0, [.ref o_board_men, .ref o_board_sets])), (o_board_men, .inl (cI, 64, .inl oS_board.1)), (o_board_sets, .inl (cJ, 16, .inr (.inl oS_board.2))), (y, .inr (2, [.ref y_characters, .int R_51.2])), (y_characters, .inl (cC, 100, .inl R_51.1))] := hD
    have he_r51 : f_Wr_tell oS_board oS_side oS_rights oS_passed oS_clock oS_number yS_characters yS_length = f_Wr_tell_r51 oS_board oS_side oS_rights oS_passed oS_clock oS_number yS_characters yS_length R_7 R_13 k0_31 R_31 R_37 R_45 R_51 := (he_r45.trans (by rw [f_Wr_tell_r45_eq, ← hR_51] <;> rfl))
    refine lv_aload_n hx hb dWr_tell_54 rfl (lv_at hl 0 rfl) ?_
    refine va_getN (D := (dC, dI)) (ci := 3) (v := .int oS_passed) (C := RPo) (T := TPo) (N := 6) hx hb hB inPo hown hK hP 0 rfl rfl 3 (by decide) (va_Nw.use rfl (hG.1 _ q1_95)) (fun _ h9 => h9) rfl dWr_tell_55 ?_
    refine lv_aload_n hx hb dWr_tell_58 rfl (lv_at hl 1 rfl) ?_
    obtain ⟨R_59, hR_59⟩ : ∃ R9, R9 = f_Wr_tellPassed R_51.1 R_51.2 oS_passed := ⟨_, rfl⟩
    have hM_59 := (c_Wr_tellPassed l dC dI cI cJ cC ad y y_characters H.size R_51.1 R_51.2 oS_passed)
    rw [← hR_59] at hM_59
    refine rw_gov (wr := [(o, .inr (3, [.ref o_board, .int oS_side, .int oS_rights, .int oS_passed, .int oS_clock, .int oS_number])), (o_board, .inr (0, [.ref o_board_men, .ref o_board_sets])), (o_board_men, .inl (cI, 64, .inl oS_board.1)), (o_board_sets, .inl (cJ, 16, .inr (.inl oS_board.2)))]) (va_runS (As := [.int oS_passed, .ref y]) (rest := []) ⟨hx, hb, hml, hown, hB⟩ hM_59 ⟨callB_of 2 hB (big_self q3_57) rfl rfl rfl (hB _ q1_16) (hB _ q3_55) (by decide +kernel) ⟨Nat.le_of_ble_eq_true rfl, Nat.le_of_ble_eq_true rfl⟩, (hB _ q3_56)⟩ (rw_preS (GS_ok ad) hK hP hD hA hG hS [4, 5] (by decide) rfl rfl) rfl rfl hl.1 rfl (lv_room (Nat.le_of_ble_eq_true rfl)) dWr_tell_59 ⟨Nat.le_of_ble_eq_true rfl, Nat.le_of_ble_eq_true rfl⟩) hP hD hS hA [4, 5] [0, 1, 2, 3] rfl rfl (by decide) (by decide) (fun H locs hP hD hS => ?_)
    have hP : va_P (dC, dI) vwCl [(o, .inr (3, [.ref o_board, .int oS_side, .int oS_rights, .int oS_passed, .int oS_clock, .int oS_number])), (o_board, .inr (0, [.ref o_board_men, .ref o_board_sets])), (o_board_men, .inl (cI, 64, .inl oS_board.1)), (o_board_sets, .inl (cJ, 16, .inr (.inl oS_board.2))), (y, .inr (2, [.ref y_characters, .int R_59.2])), (y_characters, .inl (cC, 100, .inl R_59.1))] H := hP
    have hD : va_D A [(o, .inr (3, [.ref o_board, .int oS_side, .int oS_rights, .int oS_passed, .int oS_clock, .int oS_number])), (o_board, .inr (0, [.ref o_board_men, .ref o_board_sets])), (o_board_men, .inl (cI, 64, .inl oS_board.1)), (o_board_sets, .inl (cJ, 16, .inr (.inl oS_board.2))), (y, .inr (2, [.ref y_characters, .int R_59.2])), (y_characters, .inl (cC, 100, .inl R_59.1))] := hD
    have he_r59 : f_Wr_tell oS_board oS_side oS_rights oS_passed oS_clock oS_number yS_characters yS_length = f_Wr_tell_r59 oS_board oS_side oS_rights oS_passed oS_clock oS_number yS_characters yS_length R_7 R_13 k0_31 R_31 R_37 R_45 R_51 R_59 := (he_r51.trans (by rw [f_Wr_tell_r51_eq, ← hR_59] <;> rfl))
    refine lv_aload_n hx hb dWr_tell_62 rfl (lv_at hl 1 rfl) ?_
    refine lv_bipush (v := 32) hx hb dWr_tell_63 (by decide) ?_
    obtain ⟨R_65, hR_65⟩ : ∃ R9, R9 = f_Li_add R_59.1 R_59.2 32 := ⟨_, rfl⟩
    have hM_65 := (c_Li_add l dC dI cI cJ cC ad y y_characters H.size R_59.1 R_59.2 32)
    rw [← hR_65] at hM_65
    refine rw_gov (wr := [(o, .inr (3, [.ref o_board, .int oS_side, .int oS_rights, .int oS_passed, .int oS_clock, .int oS_number])), (o_board, .inr (0, [.ref o_board_men, .ref o_board_sets])), (o_board_men, .inl (cI, 64, .inl oS_board.1)), (o_board_sets, .inl (cJ, 16, .inr (.inl oS_board.2)))]) (va_runVN (C := "ChessRules$Line") (As := [.int 32]) (rest := []) ⟨hx, hb, hml, hown, hB⟩ hM_65 ⟨va_cnB 1 hB (big_self q1_216) rfl rfl rfl (hG.1 _ q3_44) (hB _ q1_3) (by decide +kernel) ⟨Nat.le_of_ble_eq_true rfl, Nat.le_of_ble_eq_true rfl⟩, (hB _ q1_215), (hB _ qs1_0)⟩ (rw_preV (GS_ok ad) hK hP hD hA hG hS [4, 5] (by decide) rfl rfl (va_recv hK hP (ci := 2) (q0 := 4) rfl rfl)) rfl rfl hl.1 rfl (lv_room (Nat.le_of_ble_eq_true rfl)) dWr_tell_65 ⟨Nat.le_of_ble_eq_true rfl, Nat.le_of_ble_eq_true rfl⟩) hP hD hS hA [4, 5] [0, 1, 2, 3] rfl rfl (by decide) (by decide) (fun H locs hP hD hS => ?_)
    have hP : va_P (dC, dI) vwCl [(o, .inr (3, [.ref o_board, .int oS_side, .int oS_rights, .int oS_passed, .int oS_clock, .int oS_number])), (o_board, .inr (0, [.ref o_board_men, .ref o_board_sets])), (o_board_men, .inl (cI, 64, .inl oS_board.1)), (o_board_sets, .inl (cJ, 16, .inr (.inl oS_board.2))), (y, .inr (2, [.ref y_characters, .int R_65.2])), (y_characters, .inl (cC, 100, .inl R_65.1))] H := hP
    have hD : va_D A [(o, .inr (3, [.ref o_board, .int oS_side, .int oS_rights, .int oS_passed, .int oS_clock, .int oS_number])), (o_board, .inr (0, [.ref o_board_men, .ref o_board_sets])), (o_board_men, .inl (cI, 64, .inl oS_board.1)), (o_board_sets, .inl (cJ, 16, .inr (.inl oS_board.2))), (y, .inr (2, [.ref y_characters, .int R_65.2])), (y_characters, .inl (cC, 100, .inl R_65.1))] := hD
    have he_r65 : f_Wr_tell oS_board oS_side oS_rights oS_passed oS_clock oS_number yS_characters yS_length = f_Wr_tell_r65 oS_board oS_side oS_rights oS_passed oS_clock oS_number yS_characters yS_length R_7 R_13 k0_31 R_31 R_37 R_45 R_51 R_59 R_65 := (he_r59.trans (by rw [f_Wr_tell_r59_eq, ← hR_65] <;> rfl))
    refine lv_aload_n hx hb dWr_tell_68 rfl (lv_at hl 0 rfl) ?_
    refine va_getN (D := (dC, dI)) (ci := 3) (v := .int oS_clock) (C := RPo) (T := TPo) (N := 6) hx hb hB inPo hown hK hP 0 rfl rfl 4 (by decide) (va_Nw.use rfl (hG.1 _ q1_99)) (fun _ h9 => h9) rfl dWr_tell_69 ?_
    refine lv_aload_n hx hb dWr_tell_72 rfl (lv_at hl 1 rfl) ?_
    obtain ⟨R_73, hR_73⟩ : ∃ R9, R9 = f_Wr_tellNumber R_65.1 R_65.2 oS_clock := ⟨_, rfl⟩
    have hM_73 := (c_Wr_tellNumber l dC dI cI cJ cC ad y y_characters H.size R_65.1 R_65.2 oS_clock)
    rw [← hR_73] at hM_73
    refine rw_gov (wr := [(o, .inr (3, [.ref o_board, .int oS_side, .int oS_rights, .int oS_passed, .int oS_clock, .int oS_number])), (o_board, .inr (0, [.ref o_board_men, .ref o_board_sets])), (o_board_men, .inl (cI, 64, .inl oS_board.1)), (o_board_sets, .inl (cJ, 16, .inr (.inl oS_board.2)))]) (va_runS (As := [.int oS_clock, .ref y]) (rest := []) ⟨hx, hb, hml, hown, hB⟩ hM_73 ⟨callB_of 2 hB (big_self q3_60) rfl rfl rfl (hB _ q1_16) (hB _ q3_58) (by decide +kernel) ⟨Nat.le_of_ble_eq_true rfl, Nat.le_of_ble_eq_true rfl⟩, (hB _ q3_59)⟩ (rw_preS (GS_ok ad) hK hP hD hA hG hS [4, 5] (by decide) rfl rfl) rfl rfl hl.1 rfl (lv_room (Nat.le_of_ble_eq_true rfl)) dWr_tell_73 ⟨Nat.le_of_ble_eq_true rfl, Nat.le_of_ble_eq_true rfl⟩) hP hD hS hA [4, 5] [0, 1, 2, 3] rfl rfl (by decide) (by decide) (fun H locs hP hD hS => ?_)
    have hP : va_P (dC, dI) vwCl [(o, .inr (3, [.ref o_board, .int oS_side, .int oS_rights, .int oS_passed, .int oS_clock, .int oS_number])), (o_board, .inr (0, [.ref o_board_men, .ref o_board_sets])), (o_board_men, .inl (cI, 64, .inl oS_board.1)), (o_board_sets, .inl (cJ, 16, .inr (.inl oS_board.2))), (y, .inr (2, [.ref y_characters, .int R_73.2])), (y_characters, .inl (cC, 100, .inl R_73.1))] H := hP
    have hD : va_D A [(o, .inr (3, [.ref o_board, .int oS_side, .int oS_rights, .int oS_passed, .int oS_clock, .int oS_number])), (o_board, .inr (0, [.ref o_board_men, .ref o_board_sets])), (o_board_men, .inl (cI, 64, .inl oS_board.1)), (o_board_sets, .inl (cJ, 16, .inr (.inl oS_board.2))), (y, .inr (2, [.ref y_characters, .int R_73.2])), (y_characters, .inl (cC, 100, .inl R_73.1))] := hD
    have he_r73 : f_Wr_tell oS_board oS_side oS_rights oS_passed oS_clock oS_number yS_characters yS_length = f_Wr_tell_r73 oS_board oS_side oS_rights oS_passed oS_clock oS_number yS_characters yS_length R_7 R_13 k0_31 R_31 R_37 R_45 R_51 R_59 R_65 R_73 := (he_r65.trans (by rw [f_Wr_tell_r65_eq, ← hR_73] <;> rfl))
    refine lv_aload_n hx hb dWr_tell_76 rfl (lv_at hl 1 rfl) ?_
    refine lv_bipush (v := 32) hx hb dWr_tell_77 (by decide) ?_
    obtain ⟨R_79, hR_79⟩ : ∃ R9, R9 = f_Li_add R_73.1 R_73.2 32 := ⟨_, rfl⟩
    have hM_79 := (c_Li_add l dC dI cI cJ cC ad y y_characters H.size R_73.1 R_73.2 32)
    rw [← hR_79] at hM_79
    refine rw_gov (wr := [(o, .inr (3, [.ref o_board, .int oS_side, .int oS_rights, .int oS_passed, .int oS_clock, .int oS_number])), (o_board, .inr (0, [.ref o_board_men, .ref o_board_sets])), (o_board_men, .inl (cI, 64, .inl oS_board.1)), (o_board_sets, .inl (cJ, 16, .inr (.inl oS_board.2)))]) (va_runVN (C := "ChessRules$Line") (As := [.int 32]) (rest := []) ⟨hx, hb, hml, hown, hB⟩ hM_79 ⟨va_cnB 1 hB (big_self q1_216) rfl rfl rfl (hG.1 _ q3_44) (hB _ q1_3) (by decide +kernel) ⟨Nat.le_of_ble_eq_true rfl, Nat.le_of_ble_eq_true rfl⟩, (hB _ q1_215), (hB _ qs1_0)⟩ (rw_preV (GS_ok ad) hK hP hD hA hG hS [4, 5] (by decide) rfl rfl (va_recv hK hP (ci := 2) (q0 := 4) rfl rfl)) rfl rfl hl.1 rfl (lv_room (Nat.le_of_ble_eq_true rfl)) dWr_tell_79 ⟨Nat.le_of_ble_eq_true rfl, Nat.le_of_ble_eq_true rfl⟩) hP hD hS hA [4, 5] [0, 1, 2, 3] rfl rfl (by decide) (by decide) (fun H locs hP hD hS => ?_)
    have hP : va_P (dC, dI) vwCl [(o, .inr (3, [.ref o_board, .int oS_side, .int oS_rights, .int oS_passed, .int oS_clock, .int oS_number])), (o_board, .inr (0, [.ref o_board_men, .ref o_board_sets])), (o_board_men, .inl (cI, 64, .inl oS_board.1)), (o_board_sets, .inl (cJ, 16, .inr (.inl oS_board.2))), (y, .inr (2, [.ref y_characters, .int R_79.2])), (y_characters, .inl (cC, 100, .inl R_79.1))] H := hP
    have hD : va_D A [(o, .inr (3, [.ref o_board, .int oS_side, .int oS_rights, .int oS_passed, .int oS_clock, .int oS_number])), (o_board, .inr (0, [.ref o_board_men, .ref o_board_sets])), (o_board_men, .inl (cI, 64, .inl oS_board.1)), (o_board_sets, .inl (cJ, 16, .inr (.inl oS_board.2))), (y, .inr (2, [.ref y_characters, .int R_79.2])), (y_characters, .inl (cC, 100, .inl R_79.1))] := hD
    have he_r79 : f_Wr_tell oS_board oS_side oS_rights oS_passed oS_clock oS_number yS_characters yS_length = f_Wr_tell_r79 oS_board oS_side oS_rights oS_passed oS_clock oS_number yS_characters yS_length R_7 R_13 k0_31 R_31 R_37 R_45 R_51 R_59 R_65 R_73 R_79 := (he_r73.trans (by rw [f_Wr_tell_r73_eq, ← hR_79] <;> rfl))
    refine lv_aload_n hx hb dWr_tell_82 rfl (lv_at hl 0 rfl) ?_
    refine va_getN (D := (dC, dI)) (ci := 3) (v := .int oS_number) (C := RPo) (T := TPo) (N := 6) hx hb hB inPo hown hK hP 0 rfl rfl 5 (by decide) (va_Nw.use rfl (hG.1 _ q1_104)) (fun _ h9 => h9) rfl dWr_tell_83 ?_
    refine lv_aload_n hx hb dWr_tell_86 rfl (lv_at hl 1 rfl) ?_
    obtain ⟨R_87, hR_87⟩ : ∃ R9, R9 = f_Wr_tellNumber R_79.1 R_79.2 oS_number := ⟨_, rfl⟩
    have hM_87 := (c_Wr_tellNumber l dC dI cI cJ cC ad y y_characters H.size R_79.1 R_79.2 oS_number)
    rw [← hR_87] at hM_87
    refine rw_gov (wr := [(o, .inr (3, [.ref o_board, .int oS_side, .int oS_rights, .int oS_passed, .int oS_clock, .int oS_number])), (o_board, .inr (0, [.ref o_board_men, .ref o_board_sets])), (o_board_men, .inl (cI, 64, .inl oS_board.1)), (o_board_sets, .inl (cJ, 16, .inr (.inl oS_board.2)))]) (va_runS (As := [.int oS_number, .ref y]) (rest := []) ⟨hx, hb, hml, hown, hB⟩ hM_87 ⟨callB_of 2 hB (big_self q3_60) rfl rfl rfl (hB _ q1_16) (hB _ q3_58) (by decide +kernel) ⟨Nat.le_of_ble_eq_true rfl, Nat.le_of_ble_eq_true rfl⟩, (hB _ q3_59)⟩ (rw_preS (GS_ok ad) hK hP hD hA hG hS [4, 5] (by decide) rfl rfl) rfl rfl hl.1 rfl (lv_room (Nat.le_of_ble_eq_true rfl)) dWr_tell_87 ⟨Nat.le_of_ble_eq_true rfl, Nat.le_of_ble_eq_true rfl⟩) hP hD hS hA [4, 5] [0, 1, 2, 3] rfl rfl (by decide) (by decide) (fun H locs hP hD hS => ?_)
    have hP : va_P (dC, dI) vwCl [(o, .inr (3, [.ref o_board, .int oS_side, .int oS_rights, .int oS_passed, .int oS_clock, .int oS_number])), (o_board, .inr (0, [.ref o_board_men, .ref o_board_sets])), (o_board_men, .inl (cI, 64, .inl oS_board.1)), (o_board_sets, .inl (cJ, 16, .inr (.inl oS_board.2))), (y, .inr (2, [.ref y_characters, .int R_87.2])), (y_characters, .inl (cC, 100, .inl R_87.1))] H := hP
    have hD : va_D A [(o, .inr (3, [.ref o_board, .int oS_side, .int oS_rights, .int oS_passed, .int oS_clock, .int oS_number])), (o_board, .inr (0, [.ref o_board_men, .ref o_board_sets])), (o_board_men, .inl (cI, 64, .inl oS_board.1)), (o_board_sets, .inl (cJ, 16, .inr (.inl oS_board.2))), (y, .inr (2, [.ref y_characters, .int R_87.2])), (y_characters, .inl (cC, 100, .inl R_87.1))] := hD
    have he_r87 : f_Wr_tell oS_board oS_side oS_rights oS_passed oS_clock oS_number yS_characters yS_length = f_Wr_tell_r87 oS_board oS_side oS_rights oS_passed oS_clock oS_number yS_characters yS_length R_7 R_13 k0_31 R_31 R_37 R_45 R_51 R_59 R_65 R_73 R_79 R_87 := (he_r79.trans (by rw [f_Wr_tell_r79_eq, ← hR_87] <;> rfl))
    have hv : f_Wr_tell oS_board oS_side oS_rights oS_passed oS_clock oS_number yS_characters yS_length = (R_87.1, R_87.2) := (he_r87.trans (by rw [f_Wr_tell_r87_eq] <;> rfl))
    have hP9 : va_P (dC, dI) vwCl [(o, .inr (3, [.ref o_board, .int oS_side, .int oS_rights, .int oS_passed, .int oS_clock, .int oS_number])), (o_board, .inr (0, [.ref o_board_men, .ref o_board_sets])), (o_board_men, .inl (cI, 64, .inl oS_board.1)), (o_board_sets, .inl (cJ, 16, .inr (.inl oS_board.2))), (y, .inr (2, [.ref y_characters, .int ((f_Wr_tell oS_board oS_side oS_rights oS_passed oS_clock oS_number yS_characters yS_length).2)])), (y_characters, .inl (cC, 100, .inl ((f_Wr_tell oS_board oS_side oS_rights oS_passed oS_clock oS_number yS_characters yS_length).1)))] H := by first | (rw [hv]; exact hP.sub [0, 1, 2, 3, 4, 5] rfl) | exact hP.sub [0, 1, 2, 3, 4, 5] rfl
    have hD9 : va_D A [(o, .inr (3, [.ref o_board, .int oS_side, .int oS_rights, .int oS_passed, .int oS_clock, .int oS_number])), (o_board, .inr (0, [.ref o_board_men, .ref o_board_sets])), (o_board_men, .inl (cI, 64, .inl oS_board.1)), (o_board_sets, .inl (cJ, 16, .inr (.inl oS_board.2))), (y, .inr (2, [.ref y_characters, .int ((f_Wr_tell oS_board oS_side oS_rights oS_passed oS_clock oS_number yS_characters yS_length).2)])), (y_characters, .inl (cC, 100, .inl ((f_Wr_tell oS_board oS_side oS_rights oS_passed oS_clock oS_number yS_characters yS_length).1)))] := by first | (rw [hv]; exact hD.sub [0, 1, 2, 3, 4, 5] (by decide) rfl) | exact hD.sub [0, 1, 2, 3, 4, 5] (by decide) rfl
    exact rw_retv hx hb hr hlocks hK hP9 hD9 hS dWr_tell_90
  refine lv_if_ne (tgt := 29) hx hb dWr_tell_21 (by decide) (fun c_1 => ?_) (fun c_1 => ?_)
  · refine lv_bipush (v := 98) hx hb dWr_tell_29 (by decide) ?_
    exact J_31 98 (he_r13.trans (by rw [f_Wr_tell_r13_eq, if_neg c_1] <;> rfl)) _ _ (hP.sub [0, 1, 2, 3, 4, 5] rfl) (hD.sub [0, 1, 2, 3, 4, 5] (by decide) rfl) hS ls (lv_sub hl [0, 1] rfl)
  · refine lv_bipush (v := 119) hx hb dWr_tell_24 (by decide) ?_
    refine lv_goto (tgt := 31) hx hb dWr_tell_26 (by decide) ?_
    exact J_31 119 (he_r13.trans (by rw [f_Wr_tell_r13_eq, if_pos c_1] <;> rfl)) _ _ (hP.sub [0, 1, 2, 3, 4, 5] rfl) (hD.sub [0, 1, 2, 3, 4, 5] (by decide) rfl) hS ls (lv_sub hl [0, 1] rfl)

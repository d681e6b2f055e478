abbrev cPo_legalTargets : ByteArray := prog_5_method_16_code
def yPo_legalTargets : MethodName := ⟨"ChessRules$Position", "legalTargets", "(IJ)J"⟩
def wsPo_legalTargets : List Cond := Cond.code yPo_legalTargets cPo_legalTargets 10 (some .long) :: BIG
theorem dPo_legalTargets_0 : decode cPo_legalTargets 0 = .ok (.aload_n 0, 1) := by decide +kernel
theorem dPo_legalTargets_1 : decode cPo_legalTargets 1 = .ok (.iload_n 1, 1) := by decide +kernel
theorem dPo_legalTargets_2 : decode cPo_legalTargets 2 = .ok (.invokevirtual 120, 3) := by decide +kernel
theorem dPo_legalTargets_5 : decode cPo_legalTargets 5 = .ok (.lstore 4, 2) := by decide +kernel
theorem dPo_legalTargets_7 : decode cPo_legalTargets 7 = .ok (.lload_n 2, 1) := by decide +kernel
theorem dPo_legalTargets_8 : decode cPo_legalTargets 8 = .ok (.iload_n 1, 1) := by decide +kernel
theorem dPo_legalTargets_9 : decode cPo_legalTargets 9 = .ok (.invokestatic 123, 3) := by decide +kernel
theorem dPo_legalTargets_12 : decode cPo_legalTargets 12 = .ok (.ifCond .ne 6, 3) := by decide +kernel
theorem dPo_legalTargets_15 : decode cPo_legalTargets 15 = .ok (.lload 4, 2) := by decide +kernel
theorem dPo_legalTargets_17 : decode cPo_legalTargets 17 = .ok (.lreturn, 1) := by decide +kernel
theorem dPo_legalTargets_18 : decode cPo_legalTargets 18 = .ok (.aload_n 0, 1) := by decide +kernel
theorem dPo_legalTargets_19 : decode cPo_legalTargets 19 = .ok (.getfield 12, 3) := by decide +kernel
theorem dPo_legalTargets_22 : decode cPo_legalTargets 22 = .ok (.iload_n 1, 1) := by decide +kernel
theorem dPo_legalTargets_23 : decode cPo_legalTargets 23 = .ok (.invokevirtual 38, 3) := by decide +kernel
theorem dPo_legalTargets_26 : decode cPo_legalTargets 26 = .ok (.bipush 6, 2) := by decide +kernel
theorem dPo_legalTargets_28 : decode cPo_legalTargets 28 = .ok (.bipush 8, 2) := by decide +kernel
theorem dPo_legalTargets_30 : decode cPo_legalTargets 30 = .ok (.aload_n 0, 1) := by decide +kernel
theorem dPo_legalTargets_31 : decode cPo_legalTargets 31 = .ok (.getfield 18, 3) := by decide +kernel
theorem dPo_legalTargets_34 : decode cPo_legalTargets 34 = .ok (.imul, 1) := by decide +kernel
theorem dPo_legalTargets_35 : decode cPo_legalTargets 35 = .ok (.iadd, 1) := by decide +kernel
theorem dPo_legalTargets_36 : decode cPo_legalTargets 36 = .ok (.if_icmp .ne 12, 3) := by decide +kernel
theorem dPo_legalTargets_39 : decode cPo_legalTargets 39 = .ok (.lload 4, 2) := by decide +kernel
theorem dPo_legalTargets_41 : decode cPo_legalTargets 41 = .ok (.aload_n 0, 1) := by decide +kernel
theorem dPo_legalTargets_42 : decode cPo_legalTargets 42 = .ok (.invokevirtual 127, 3) := by decide +kernel
theorem dPo_legalTargets_45 : decode cPo_legalTargets 45 = .ok (.lor, 1) := by decide +kernel
theorem dPo_legalTargets_46 : decode cPo_legalTargets 46 = .ok (.lstore 4, 2) := by decide +kernel
theorem dPo_legalTargets_48 : decode cPo_legalTargets 48 = .ok (.lconst 0, 1) := by decide +kernel
theorem dPo_legalTargets_49 : decode cPo_legalTargets 49 = .ok (.lstore 6, 2) := by decide +kernel
theorem dPo_legalTargets_51 : decode cPo_legalTargets 51 = .ok (.iconst 0, 1) := by decide +kernel
theorem dPo_legalTargets_52 : decode cPo_legalTargets 52 = .ok (.istore 8, 2) := by decide +kernel
theorem dPo_legalTargets_54 : decode cPo_legalTargets 54 = .ok (.iload 8, 2) := by decide +kernel
theorem dPo_legalTargets_56 : decode cPo_legalTargets 56 = .ok (.bipush 64, 2) := by decide +kernel
theorem dPo_legalTargets_58 : decode cPo_legalTargets 58 = .ok (.if_icmp .ge 51, 3) := by decide +kernel
theorem dPo_legalTargets_61 : decode cPo_legalTargets 61 = .ok (.lload 4, 2) := by decide +kernel
theorem dPo_legalTargets_63 : decode cPo_legalTargets 63 = .ok (.lconst 0, 1) := by decide +kernel
theorem dPo_legalTargets_64 : decode cPo_legalTargets 64 = .ok (.lcmp, 1) := by decide +kernel
theorem dPo_legalTargets_65 : decode cPo_legalTargets 65 = .ok (.ifCond .eq 44, 3) := by decide +kernel
theorem dPo_legalTargets_68 : decode cPo_legalTargets 68 = .ok (.lload 4, 2) := by decide +kernel
theorem dPo_legalTargets_70 : decode cPo_legalTargets 70 = .ok (.invokestatic 63, 3) := by decide +kernel
theorem dPo_legalTargets_73 : decode cPo_legalTargets 73 = .ok (.istore 9, 2) := by decide +kernel
theorem dPo_legalTargets_75 : decode cPo_legalTargets 75 = .ok (.aload_n 0, 1) := by decide +kernel
theorem dPo_legalTargets_76 : decode cPo_legalTargets 76 = .ok (.iload_n 1, 1) := by decide +kernel
theorem dPo_legalTargets_77 : decode cPo_legalTargets 77 = .ok (.iload 9, 2) := by decide +kernel
theorem dPo_legalTargets_79 : decode cPo_legalTargets 79 = .ok (.invokevirtual 67, 3) := by decide +kernel
theorem dPo_legalTargets_82 : decode cPo_legalTargets 82 = .ok (.ifCond .eq 12, 3) := by decide +kernel
theorem dPo_legalTargets_85 : decode cPo_legalTargets 85 = .ok (.lload 6, 2) := by decide +kernel
theorem dPo_legalTargets_87 : decode cPo_legalTargets 87 = .ok (.lconst 1, 1) := by decide +kernel
theorem dPo_legalTargets_88 : decode cPo_legalTargets 88 = .ok (.iload 9, 2) := by decide +kernel
theorem dPo_legalTargets_90 : decode cPo_legalTargets 90 = .ok (.lshl, 1) := by decide +kernel
theorem dPo_legalTargets_91 : decode cPo_legalTargets 91 = .ok (.lor, 1) := by decide +kernel
theorem dPo_legalTargets_92 : decode cPo_legalTargets 92 = .ok (.lstore 6, 2) := by decide +kernel
theorem dPo_legalTargets_94 : decode cPo_legalTargets 94 = .ok (.lload 4, 2) := by decide +kernel
theorem dPo_legalTargets_96 : decode cPo_legalTargets 96 = .ok (.lload 4, 2) := by decide +kernel
theorem dPo_legalTargets_98 : decode cPo_legalTargets 98 = .ok (.lconst 1, 1) := by decide +kernel
theorem dPo_legalTargets_99 : decode cPo_legalTargets 99 = .ok (.lsub, 1) := by decide +kernel
theorem dPo_legalTargets_100 : decode cPo_legalTargets 100 = .ok (.land, 1) := by decide +kernel
theorem dPo_legalTargets_101 : decode cPo_legalTargets 101 = .ok (.lstore 4, 2) := by decide +kernel
theorem dPo_legalTargets_103 : decode cPo_legalTargets 103 = .ok (.iinc 8 1, 3) := by decide +kernel
theorem dPo_legalTargets_106 : decode cPo_legalTargets 106 = .ok (.goto (-52), 3) := by decide +kernel
theorem dPo_legalTargets_109 : decode cPo_legalTargets 109 = .ok (.lload 6, 2) := by decide +kernel
theorem dPo_legalTargets_111 : decode cPo_legalTargets 111 = .ok (.lreturn, 1) := by decide +kernel

def f_Po_legalTargets_54 (oS_board : St_Bo) (oS_side : Int32) (oS_rights : Int32) (oS_passed : Int32) (fr : Int32) (exposed : Int64) (v4_48 : Int64) : Nat → Int64 → Int64 → Int32 → Int64
  | 0 => fun _ _ _ => 0
  | n_54 + 1 => fun v4_54 v6_54 v8_54 => (if 64 ≤ v8_54 then v6_54 else (if v4_54 = 0 then v6_54 else (if (f_Po_keepsKingSafe oS_board oS_side oS_passed fr (f_Ch_lowestSquare v4_54)) = 0 then (f_Po_legalTargets_54 oS_board oS_side oS_rights oS_passed fr exposed v4_48 n_54) (v4_54 &&& (v4_54 - 1)) v6_54 (v8_54 + 1) else (f_Po_legalTargets_54 oS_board oS_side oS_rights oS_passed fr exposed v4_48 n_54) (v4_54 &&& (v4_54 - 1)) (v6_54 ||| (shl64 1 (f_Ch_lowestSquare v4_54))) (v8_54 + 1))))
theorem f_Po_legalTargets_54_eq (oS_board : St_Bo) (oS_side : Int32) (oS_rights : Int32) (oS_passed : Int32) (fr : Int32) (exposed : Int64) (v4_48 : Int64) (n_54 : Nat) (v4_54 : Int64) (v6_54 : Int64) (v8_54 : Int32) : f_Po_legalTargets_54 oS_board oS_side oS_rights oS_passed fr exposed v4_48 (n_54 + 1) v4_54 v6_54 v8_54 =
  (if 64 ≤ v8_54 then v6_54 else (if v4_54 = 0 then v6_54 else (if (f_Po_keepsKingSafe oS_board oS_side oS_passed fr (f_Ch_lowestSquare v4_54)) = 0 then (f_Po_legalTargets_54 oS_board oS_side oS_rights oS_passed fr exposed v4_48 n_54) (v4_54 &&& (v4_54 - 1)) v6_54 (v8_54 + 1) else (f_Po_legalTargets_54 oS_board oS_side oS_rights oS_passed fr exposed v4_48 n_54) (v4_54 &&& (v4_54 - 1)) (v6_54 ||| (shl64 1 (f_Ch_lowestSquare v4_54))) (v8_54 + 1)))) := rfl

def f_Po_legalTargets_48 (oS_board : St_Bo) (oS_side : Int32) (oS_rights : Int32) (oS_passed : Int32) (fr : Int32) (exposed : Int64) (v4_48 : Int64) : Int64 :=
  f_Po_legalTargets_54 oS_board oS_side oS_rights oS_passed fr exposed v4_48 (65) v4_48 0 0
theorem f_Po_legalTargets_48_eq (oS_board : St_Bo) (oS_side : Int32) (oS_rights : Int32) (oS_passed : Int32) (fr : Int32) (exposed : Int64) (v4_48 : Int64) : f_Po_legalTargets_48 oS_board oS_side oS_rights oS_passed fr exposed v4_48 =
  f_Po_legalTargets_54 oS_board oS_side oS_rights oS_passed fr exposed v4_48 (65) v4_48 0 0 := rfl

def f_Po_legalTargets (oS_board : St_Bo) (oS_side : Int32) (oS_rights : Int32) (oS_passed : Int32) (fr : Int32) (exposed : Int64) : Int64 :=
  (if (f_Ch_holds exposed fr) = 0 then f_Po_targetsFrom oS_board oS_side oS_passed fr else (if (f_Bo_manAt oS_board.1 fr) = (6 + (8 * oS_side)) then f_Po_legalTargets_48 oS_board oS_side oS_rights oS_passed fr exposed ((f_Po_targetsFrom oS_board oS_side oS_passed fr) ||| (f_Po_castlingTargets oS_board oS_side oS_rights)) else f_Po_legalTargets_48 oS_board oS_side oS_rights oS_passed fr exposed (f_Po_targetsFrom oS_board oS_side oS_passed fr)))
theorem f_Po_legalTargets_eq (oS_board : St_Bo) (oS_side : Int32) (oS_rights : Int32) (oS_passed : Int32) (fr : Int32) (exposed : Int64) : f_Po_legalTargets oS_board oS_side oS_rights oS_passed fr exposed =
  (if (f_Ch_holds exposed fr) = 0 then f_Po_targetsFrom oS_board oS_side oS_passed fr else (if (f_Bo_manAt oS_board.1 fr) = (6 + (8 * oS_side)) then f_Po_legalTargets_48 oS_board oS_side oS_rights oS_passed fr exposed ((f_Po_targetsFrom oS_board oS_side oS_passed fr) ||| (f_Po_castlingTargets oS_board oS_side oS_rights)) else f_Po_legalTargets_48 oS_board oS_side oS_rights oS_passed fr exposed (f_Po_targetsFrom oS_board oS_side oS_passed fr))) := rfl

set_option maxHeartbeats 4000000 in
set_option maxRecDepth 100000 in
theorem c_Po_legalTargets (l : Launch) (dC : Nat → ClassId) (dI : Nat → Nat → Nat) (cI cJ cC : ClassId) (ad : Nat → Nat) (o o_board o_board_men o_board_sets : Nat) (oS_board : St_Bo) (oS_side : Int32) (oS_rights : Int32) (oS_passed : Int32) (oS_clock : Int32) (oS_number : Int32) (fr : Int32) (exposed : Int64) : Met l yPo_legalTargets wsPo_legalTargets { frames := 4, cells := 0, slots := 0, locals := 108 } (roP dC dI (TYS cI cJ cC) [.ref o, .int fr, .long exposed] [(o, .inr (3, [.ref o_board, .int oS_side, .int oS_rights, .int oS_passed, .int oS_clock, .int oS_number])), (o_board, .inr (0, [.ref o_board_men, .ref o_board_sets])), (o_board_men, .inl (cI, 64, .inl oS_board.1)), (o_board_sets, .inl (cJ, 16, .inr (.inl oS_board.2)))] (GS ad)) (vp_Sl (fun r => r = f_Po_legalTargets oS_board oS_side oS_rights oS_passed fr exposed)) 0 0 (fun _ => False) := by
  refine Met.ofW (cc := cPo_legalTargets) (maxL := 10) (ret := (some .long)) (by decide) rfl ?_
  intro p e s m args below meth c s₁ B hml hv
  obtain ⟨rfl, hP, hK, hG⟩ := hv
  have hx := B.exec
  have hb := B.bytes
  have hr := B.returns
  have hB : ∀ w9 ∈ BIG, w9.before ([.ref o, .int fr, .long exposed]).toArray s = true := fun w9 h => atoms_spec (ws := wsPo_legalTargets) B.pre w9 (List.mem_cons_of_mem _ h)
  have hown : s.vm.findClass "ChessRules$Position" = some m.cls := findClass_of_methodNamed B.named
  have hlocks := B.notSynchronized
  have hS : va_S (fun _ => False) s.heap s.heap [] := va_S.rf
  have hP : va_P (dC, dI) vwCl [(o, .inr (3, [.ref o_board, .int oS_side, .int oS_rights, .int oS_passed, .int oS_clock, .int oS_number])), (o_board, .inr (0, [.ref o_board_men, .ref o_board_sets])), (o_board_men, .inl (cI, 64, .inl oS_board.1)), (o_board_sets, .inl (cJ, 16, .inr (.inl oS_board.2)))] s.heap := hP
  have hl := lv_entry ([.ref o, .int fr, .long exposed]) (n := 10) (Nat.le_of_ble_eq_true rfl)
  rw [lg_entry_eq]
  generalize (lg_sl ([.ref o, .int fr, .long exposed]) ++ List.replicate (10 - (lg_sl ([.ref o, .int fr, .long exposed])).length) Slot.unset).toArray = ls at hl ⊢
  have hl : lv_has ls 10 [(0, .ref o), (1, .int fr), (2, .long exposed)] := hl
  refine lv_aload_n hx hb dPo_legalTargets_0 rfl (lv_at hl 0 rfl) ?_
  refine lv_iload_n hx hb dPo_legalTargets_1 rfl (lv_at hl 1 rfl) ?_
  refine ro_gol (va_runV (C := "ChessRules$Position") (As := [.int fr]) (rest := []) ⟨hx, hb, hml, hown, hB⟩ (c_Po_targetsFrom l dC dI cI cJ cC ad o o_board o_board_men o_board_sets oS_board oS_side oS_rights oS_passed oS_clock oS_number fr) ⟨callB_of 1 hB (big_self q3_96) rfl rfl rfl (hB _ q1_4) (hB _ q3_93) (by decide +kernel) ⟨Nat.le_of_ble_eq_true rfl, Nat.le_of_ble_eq_true rfl⟩, (hB _ q3_95), (hB _ qs3_10)⟩ (ro_preV (GS_ok ad) hK hP hG hS [0, 1, 2, 3] rfl (va_recv hK hP (ci := 3) (q0 := 0) rfl rfl)) rfl rfl hl.1 rfl (lv_room (Nat.le_of_ble_eq_true rfl)) dPo_legalTargets_2 ⟨Nat.le_of_ble_eq_true rfl, Nat.le_of_ble_eq_true rfl⟩) ?_
  refine lv_lstore (lv' := [(4, .long (f_Po_targetsFrom oS_board oS_side oS_passed fr)), (0, .ref o), (1, .int fr), (2, .long exposed)]) hx hb dPo_legalTargets_5 hl (by decide) rfl (fun ls hl => ?_)
  refine lv_lload_n hx hb dPo_legalTargets_7 rfl (lv_at hl 3 rfl) ?_
  refine lv_iload_n hx hb dPo_legalTargets_8 rfl (lv_at hl 2 rfl) ?_
  refine ro_goi (va_runSN (As := [.long exposed, .int fr]) (rest := []) ⟨hx, hb, hml, hown, hB⟩ (c_Ch_holds l dC dI cI cJ cC ad exposed fr) ⟨va_cnB 2 hB (big_self q3_114) rfl rfl rfl (hG.1 _ q3_112) (hB _ q1_1) (by decide +kernel) ⟨Nat.le_of_ble_eq_true rfl, Nat.le_of_ble_eq_true rfl⟩, (hB _ q3_113), trivial⟩ (ro_preS (GS_ok ad) hK hP hG hS [] rfl) rfl rfl hl.1 rfl (lv_room (Nat.le_of_ble_eq_true rfl)) dPo_legalTargets_9 ⟨Nat.le_of_ble_eq_true rfl, Nat.le_of_ble_eq_true rfl⟩) ?_
  refine lv_if_ne (tgt := 18) hx hb dPo_legalTargets_12 (by decide) (fun c_1 => ?_) (fun c_1 => ?_)
  · refine lv_aload_n hx hb dPo_legalTargets_18 rfl (lv_at hl 1 rfl) ?_
    refine va_get (D := (dC, dI)) (ci := 3) (v := .ref o_board) (C := RPo) (T := TPo) (N := 6) hx hb hB inPo hown hK hP 0 rfl rfl 0 (by decide) (hB _ q1_77) (fun _ h9 => h9) rfl dPo_legalTargets_19 ?_
    refine lv_iload_n hx hb dPo_legalTargets_22 rfl (lv_at hl 2 rfl) ?_
    refine ro_goi (va_runVN (C := "ChessRules$Board") (As := [.int fr]) (rest := []) ⟨hx, hb, hml, hown, hB⟩ (c_Bo_manAt l dC dI cI cJ cC ad o_board o_board_men o_board_sets oS_board.1 oS_board.2 fr) ⟨va_cnB 1 hB (big_self q2_168) rfl rfl rfl (hG.1 _ q2_206) (hB _ q1_5) (by decide +kernel) ⟨Nat.le_of_ble_eq_true rfl, Nat.le_of_ble_eq_true rfl⟩, (hB _ q2_167), (hB _ qs2_7)⟩ (ro_preV (GS_ok ad) hK hP hG hS [1, 2, 3] rfl (va_recv hK hP (ci := 0) (q0 := 1) rfl rfl)) rfl rfl hl.1 rfl (lv_room (Nat.le_of_ble_eq_true rfl)) dPo_legalTargets_23 ⟨Nat.le_of_ble_eq_true rfl, Nat.le_of_ble_eq_true rfl⟩) ?_
    refine lv_bipush (v := 6) hx hb dPo_legalTargets_26 (by decide) ?_
    refine lv_bipush (v := 8) hx hb dPo_legalTargets_28 (by decide) ?_
    refine lv_aload_n hx hb dPo_legalTargets_30 rfl (lv_at hl 1 rfl) ?_
    refine va_get (D := (dC, dI)) (ci := 3) (v := .int oS_side) (C := RPo) (T := TPo) (N := 6) hx hb hB inPo hown hK hP 0 rfl rfl 1 (by decide) (hB _ q1_83) (fun _ h9 => h9) rfl dPo_legalTargets_31 ?_
    refine lv_imul hx hb dPo_legalTargets_34 ?_
    refine lv_iadd hx hb dPo_legalTargets_35 ?_
    have J_48 : ∀ (v4_48 : Int64), f_Po_legalTargets oS_board oS_side oS_rights oS_passed fr exposed = f_Po_legalTargets_48 oS_board oS_side oS_rights oS_passed fr exposed v4_48 → ∀ ls : Array Slot, lv_has ls 10 [(0, .ref o), (1, .int fr), (4, .long v4_48)] → W p l e (headSpec wsPo_legalTargets { frames := 4, cells := 0, slots := 0, locals := 108 }).room s m ([.ref o, .int fr, .long exposed]).toArray below meth c s.heap [] 0 0 (MQ below (vp_Sl (fun r => r = f_Po_legalTargets oS_board oS_side oS_rights oS_passed fr exposed)) ([.ref o, .int fr, .long exposed]).toArray s 0 0 (fun _ => False)) (F0 m 48 ls []) := by
      intro v4_48 he_48 ls hl
      refine lv_lconst (v := 0) hx hb dPo_legalTargets_48 (by decide) ?_
      refine lv_lstore (lv' := [(6, .long 0), (0, .ref o), (1, .int fr), (4, .long v4_48)]) hx hb dPo_legalTargets_49 hl (by decide) rfl (fun ls hl => ?_)
      refine lv_iconst (v := 0) hx hb dPo_legalTargets_51 (by decide) ?_
      refine lv_istore (lv' := [(8, .int 0), (6, .long 0), (0, .ref o), (1, .int fr), (4, .long v4_48)]) hx hb dPo_legalTargets_52 hl (by decide) rfl (fun ls hl => ?_)
      have J_54 : ∀ (n_54 : Nat) (v4_54 : Int64) (v6_54 : Int64) (v8_54 : Int32), f_Po_legalTargets oS_board oS_side oS_rights oS_passed fr exposed = f_Po_legalTargets_54 oS_board oS_side oS_rights oS_passed fr exposed v4_48 n_54 v4_54 v6_54 v8_54 → ((0 : Int) ≤ v8_54.toInt ∧ (64 : Int32).toInt - v8_54.toInt + 1 ≤ (n_54 : Int) ∧ (1 : Int) ≤ (n_54 : Int)) → ∀ ls : Array Slot, lv_has ls 10 [(0, .ref o), (1, .int fr), (4, .long v4_54), (6, .long v6_54), (8, .int v8_54)] → W p l e (headSpec wsPo_legalTargets { frames := 4, cells := 0, slots := 0, locals := 108 }).room s m ([.ref o, .int fr, .long exposed]).toArray below meth c s.heap [] 0 0 (MQ below (vp_Sl (fun r => r = f_Po_legalTargets oS_board oS_side oS_rights oS_passed fr exposed)) ([.ref o, .int fr, .long exposed]).toArray s 0 0 (fun _ => False)) (F0 m 54 ls []) := by
        intro n_54
        induction n_54 with
        | zero => intro v4_54 v6_54 v8_54 _ hm_54; exact absurd hm_54 (by omega)
        | succ n_54 ih_54 =>
          intro v4_54 v6_54 v8_54 he_54 hm_54 ls hl
          refine lv_iload hx hb dPo_legalTargets_54 (lv_at hl 4 rfl) ?_
          refine lv_bipush (v := 64) hx hb dPo_legalTargets_56 (by decide) ?_
          refine lv_icmp_ge (tgt := 109) hx hb dPo_legalTargets_58 (by decide) (fun c_2 => ?_) (fun c_2 => ?_)
          · refine lv_lload hx hb dPo_legalTargets_109 (lv_at hl 3 rfl) ?_
            exact ro_retl hx hb hr hlocks dPo_legalTargets_111 (Eq.symm (he_54.trans (by rw [f_Po_legalTargets_54_eq, if_pos c_2] <;> rfl)))
          · refine lv_lload hx hb dPo_legalTargets_61 (lv_at hl 2 rfl) ?_
            refine lv_lconst (v := 0) hx hb dPo_legalTargets_63 (by decide) ?_
            refine W.lcmp hx hb dPo_legalTargets_64 ?_
            refine lv_if_eq (tgt := 109) hx hb dPo_legalTargets_65 (by decide) (fun q => let_c (h := v4_54 = 0) (lgc_eq.1 q) (fun c_3 => ?_)) (fun q => let_c (h := ¬ v4_54 = 0) (lgc_eq.2 q) (fun c_3 => ?_))
            · refine lv_lload hx hb dPo_legalTargets_109 (lv_at hl 3 rfl) ?_
              exact ro_retl hx hb hr hlocks dPo_legalTargets_111 (Eq.symm (he_54.trans (by rw [f_Po_legalTargets_54_eq, if_neg c_2, if_pos c_3] <;> rfl)))
            · refine lv_lload hx hb dPo_legalTargets_68 (lv_at hl 2 rfl) ?_
              refine ro_goi (va_runSN (As := [.long v4_54]) (rest := []) ⟨hx, hb, hml, hown, hB⟩ (c_Ch_lowestSquare l dC dI cI cJ cC ad v4_54) ⟨va_cnB 1 hB (big_self q2_218) rfl rfl rfl (hG.1 _ q2_216) (hB _ q1_1) (by decide +kernel) ⟨Nat.le_of_ble_eq_true rfl, Nat.le_of_ble_eq_true rfl⟩, (hB _ q2_217), trivial⟩ (ro_preS (GS_ok ad) hK hP hG hS [] rfl) rfl rfl hl.1 rfl (lv_room (Nat.le_of_ble_eq_true rfl)) dPo_legalTargets_70 ⟨Nat.le_of_ble_eq_true rfl, Nat.le_of_ble_eq_true rfl⟩) ?_
              refine lv_istore (lv' := [(9, .int (f_Ch_lowestSquare v4_54)), (0, .ref o), (1, .int fr), (4, .long v4_54), (6, .long v6_54), (8, .int v8_54)]) hx hb dPo_legalTargets_73 hl (by decide) rfl (fun ls hl => ?_)
              refine lv_aload_n hx hb dPo_legalTargets_75 rfl (lv_at hl 1 rfl) ?_
              refine lv_iload_n hx hb dPo_legalTargets_76 rfl (lv_at hl 2 rfl) ?_
              refine lv_iload hx hb dPo_legalTargets_77 (lv_at hl 0 rfl) ?_
              refine ro_goi (va_runV (C := "ChessRules$Position") (As := [.int fr, .int (f_Ch_lowestSquare v4_54)]) (rest := []) ⟨hx, hb, hml, hown, hB⟩ (c_Po_keepsKingSafe l dC dI cI cJ cC ad o o_board o_board_men o_board_sets oS_board oS_side oS_rights oS_passed oS_clock oS_number fr (f_Ch_lowestSquare v4_54)) ⟨callB_of 2 hB (big_self q2_223) rfl rfl rfl (hB _ q1_4) (hB _ q2_220) (by decide +kernel) ⟨Nat.le_of_ble_eq_true rfl, Nat.le_of_ble_eq_true rfl⟩, (hB _ q2_222), (hB _ qs3_1)⟩ (ro_preV (GS_ok ad) hK hP hG hS [0, 1, 2, 3] rfl (va_recv hK hP (ci := 3) (q0 := 0) rfl rfl)) rfl rfl hl.1 rfl (lv_room (Nat.le_of_ble_eq_true rfl)) dPo_legalTargets_79 ⟨Nat.le_of_ble_eq_true rfl, Nat.le_of_ble_eq_true rfl⟩) ?_
              refine lv_if_eq (tgt := 94) hx hb dPo_legalTargets_82 (by decide) (fun c_4 => ?_) (fun c_4 => ?_)
              · refine lv_lload hx hb dPo_legalTargets_94 (lv_at hl 3 rfl) ?_
                refine lv_lload hx hb dPo_legalTargets_96 (lv_at hl 3 rfl) ?_
                refine lv_lconst (v := 1) hx hb dPo_legalTargets_98 (by decide) ?_
                refine lv_lsub hx hb dPo_legalTargets_99 ?_
                refine lv_land hx hb dPo_legalTargets_100 ?_
                refine lv_lstore (lv' := [(4, .long (v4_54 &&& (v4_54 - 1))), (9, .int (f_Ch_lowestSquare v4_54)), (0, .ref o), (1, .int fr), (6, .long v6_54), (8, .int v8_54)]) hx hb dPo_legalTargets_101 hl (by decide) rfl (fun ls hl => ?_)
                refine lv_iinc (v := v8_54 + 1) (lv' := [(8, .int (v8_54 + 1)), (4, .long (v4_54 &&& (v4_54 - 1))), (9, .int (f_Ch_lowestSquare v4_54)), (0, .ref o), (1, .int fr), (6, .long v6_54)]) hx hb dPo_legalTargets_103 hl (k := 5) rfl rfl (by decide) rfl (fun ls hl => ?_)
                refine lv_goto (tgt := 54) hx hb dPo_legalTargets_106 (by decide) ?_
                exact ih_54 (v4_54 &&& (v4_54 - 1)) v6_54 (v8_54 + 1) (he_54.trans (by rw [f_Po_legalTargets_54_eq, if_neg c_2, if_neg c_3, if_pos c_4] <;> rfl)) (by have z0 := tne c_1; have z2 := tnle c_2; have z4 := teq c_4; have y0 : (0 : Int32).toInt = 0 := rfl; have y64 : (64 : Int32).toInt = 64 := rfl; have zr := i_rng (64 : Int32); have zs := i_succ9 v8_54 (by omega); omega) ls (lv_sub hl [3, 4, 1, 5, 0] rfl)
              · refine lv_lload hx hb dPo_legalTargets_85 (lv_at hl 4 rfl) ?_
                refine lv_lconst (v := 1) hx hb dPo_legalTargets_87 (by decide) ?_
                refine lv_iload hx hb dPo_legalTargets_88 (lv_at hl 0 rfl) ?_
                refine lv_lshl (v := shl64 1 (f_Ch_lowestSquare v4_54)) hx hb dPo_legalTargets_90 rfl ?_
                refine lv_lor hx hb dPo_legalTargets_91 ?_
                refine lv_lstore (lv' := [(6, .long (v6_54 ||| (shl64 1 (f_Ch_lowestSquare v4_54)))), (9, .int (f_Ch_lowestSquare v4_54)), (0, .ref o), (1, .int fr), (4, .long v4_54), (8, .int v8_54)]) hx hb dPo_legalTargets_92 hl (by decide) rfl (fun ls hl => ?_)
                refine lv_lload hx hb dPo_legalTargets_94 (lv_at hl 4 rfl) ?_
                refine lv_lload hx hb dPo_legalTargets_96 (lv_at hl 4 rfl) ?_
                refine lv_lconst (v := 1) hx hb dPo_legalTargets_98 (by decide) ?_
                refine lv_lsub hx hb dPo_legalTargets_99 ?_
                refine lv_land hx hb dPo_legalTargets_100 ?_
                refine lv_lstore (lv' := [(4, .long (v4_54 &&& (v4_54 - 1))), (6, .long (v6_54 ||| (shl64 1 (f_Ch_lowestSquare v4_54)))), (9, .int (f_Ch_lowestSquare v4_54)), (0, .ref o), (1, .int fr), (8, .int v8_54)]) hx hb dPo_legalTargets_101 hl (by decide) rfl (fun ls hl => ?_)
                refine lv_iinc (v := v8_54 + 1) (lv' := [(8, .int (v8_54 + 1)), (4, .long (v4_54 &&& (v4_54 - 1))), (6, .long (v6_54 ||| (shl64 1 (f_Ch_lowestSquare v4_54)))), (9, .int (f_Ch_lowestSquare v4_54)), (0, .ref o), (1, .int fr)]) hx hb dPo_legalTargets_103 hl (k := 5) rfl rfl (by decide) rfl (fun ls hl => ?_)
                refine lv_goto (tgt := 54) hx hb dPo_legalTargets_106 (by decide) ?_
                exact ih_54 (v4_54 &&& (v4_54 - 1)) (v6_54 ||| (shl64 1 (f_Ch_lowestSquare v4_54))) (v8_54 + 1) (he_54.trans (by rw [f_Po_legalTargets_54_eq, if_neg c_2, if_neg c_3, if_neg c_4] <;> rfl)) (by have z0 := tne c_1; have z2 := tnle c_2; have z4 := tne c_4; have y0 : (0 : Int32).toInt = 0 := rfl; have y64 : (64 : Int32).toInt = 64 := rfl; have zr := i_rng (64 : Int32); have zs := i_succ9 v8_54 (by omega); omega) ls (lv_sub hl [4, 5, 1, 2, 0] rfl)
      exact J_54 (65) v4_48 0 0 (he_48.trans (by rw [f_Po_legalTargets_48_eq] <;> rfl)) (by decide) ls (lv_sub hl [2, 3, 4, 1, 0] rfl)
    refine lv_icmp_ne (tgt := 48) hx hb dPo_legalTargets_36 (by decide) (fun c_5 => ?_) (fun c_5 => ?_)
    · exact J_48 (f_Po_targetsFrom oS_board oS_side oS_passed fr) (by rw [f_Po_legalTargets_eq, if_neg c_1, if_neg c_5] <;> rfl) ls (lv_sub hl [1, 2, 0] rfl)
    · refine lv_lload hx hb dPo_legalTargets_39 (lv_at hl 0 rfl) ?_
      refine lv_aload_n hx hb dPo_legalTargets_41 rfl (lv_at hl 1 rfl) ?_
      refine ro_gol (va_runV (C := "ChessRules$Position") (As := []) (rest := [.long (f_Po_targetsFrom oS_board oS_side oS_passed fr)]) ⟨hx, hb, hml, hown, hB⟩ (c_Po_castlingTargets l dC dI cI cJ cC ad o o_board o_board_men o_board_sets oS_board oS_side oS_rights oS_passed oS_clock oS_number) ⟨callB_of 0 hB (big_self q3_118) rfl rfl rfl (hB _ q1_4) (hB _ q3_115) (by decide +kernel) ⟨Nat.le_of_ble_eq_true rfl, Nat.le_of_ble_eq_true rfl⟩, (hB _ q3_117), (hB _ qs3_12)⟩ (ro_preV (GS_ok ad) hK hP hG hS [0, 1, 2, 3] rfl (va_recv hK hP (ci := 3) (q0 := 0) rfl rfl)) rfl rfl hl.1 rfl (lv_room (Nat.le_of_ble_eq_true rfl)) dPo_legalTargets_42 ⟨Nat.le_of_ble_eq_true rfl, Nat.le_of_ble_eq_true rfl⟩) ?_
      refine lv_lor hx hb dPo_legalTargets_45 ?_
      refine lv_lstore (lv' := [(4, .long ((f_Po_targetsFrom oS_board oS_side oS_passed fr) ||| (f_Po_castlingTargets oS_board oS_side oS_rights))), (0, .ref o), (1, .int fr), (2, .long exposed)]) hx hb dPo_legalTargets_46 hl (by decide) rfl (fun ls hl => ?_)
      exact J_48 ((f_Po_targetsFrom oS_board oS_side oS_passed fr) ||| (f_Po_castlingTargets oS_board oS_side oS_rights)) (by rw [f_Po_legalTargets_eq, if_neg c_1, if_pos c_5] <;> rfl) ls (lv_sub hl [1, 2, 0] rfl)
  · refine lv_lload hx hb dPo_legalTargets_15 (lv_at hl 0 rfl) ?_
    exact ro_retl hx hb hr hlocks dPo_legalTargets_17 (Eq.symm (by rw [f_Po_legalTargets_eq, if_pos c_1] <;> rfl))

abbrev cPo_becomesAnother : ByteArray := prog_5_method_19_code
def yPo_becomesAnother : MethodName := ⟨"ChessRules$Position", "becomesAnother", "(I)Z"⟩
def wsPo_becomesAnother : List Cond := Cond.code yPo_becomesAnother cPo_becomesAnother 3 (some .boolean) :: BIG
theorem dPo_becomesAnother_0 : decode cPo_becomesAnother 0 = .ok (.aload_n 0, 1) := by decide +kernel
theorem dPo_becomesAnother_1 : decode cPo_becomesAnother 1 = .ok (.getfield 18, 3) := by decide +kernel
theorem dPo_becomesAnother_4 : decode cPo_becomesAnother 4 = .ok (.ifCond .ne 8, 3) := by decide +kernel
theorem dPo_becomesAnother_7 : decode cPo_becomesAnother 7 = .ok (.bipush 6, 2) := by decide +kernel
theorem dPo_becomesAnother_9 : decode cPo_becomesAnother 9 = .ok (.goto 4, 3) := by decide +kernel
theorem dPo_becomesAnother_12 : decode cPo_becomesAnother 12 = .ok (.iconst 1, 1) := by decide +kernel
theorem dPo_becomesAnother_13 : decode cPo_becomesAnother 13 = .ok (.istore_n 2, 1) := by decide +kernel
theorem dPo_becomesAnother_14 : decode cPo_becomesAnother 14 = .ok (.aload_n 0, 1) := by decide +kernel
theorem dPo_becomesAnother_15 : decode cPo_becomesAnother 15 = .ok (.getfield 12, 3) := by decide +kernel
theorem dPo_becomesAnother_18 : decode cPo_becomesAnother 18 = .ok (.iload_n 1, 1) := by decide +kernel
theorem dPo_becomesAnother_19 : decode cPo_becomesAnother 19 = .ok (.invokevirtual 38, 3) := by decide +kernel
theorem dPo_becomesAnother_22 : decode cPo_becomesAnother 22 = .ok (.iconst 1, 1) := by decide +kernel
theorem dPo_becomesAnother_23 : decode cPo_becomesAnother 23 = .ok (.bipush 8, 2) := by decide +kernel
theorem dPo_becomesAnother_25 : decode cPo_becomesAnother 25 = .ok (.aload_n 0, 1) := by decide +kernel
theorem dPo_becomesAnother_26 : decode cPo_becomesAnother 26 = .ok (.getfield 18, 3) := by decide +kernel
theorem dPo_becomesAnother_29 : decode cPo_becomesAnother 29 = .ok (.imul, 1) := by decide +kernel
theorem dPo_becomesAnother_30 : decode cPo_becomesAnother 30 = .ok (.iadd, 1) := by decide +kernel
theorem dPo_becomesAnother_31 : decode cPo_becomesAnother 31 = .ok (.if_icmp .ne 14, 3) := by decide +kernel
theorem dPo_becomesAnother_34 : decode cPo_becomesAnother 34 = .ok (.iload_n 1, 1) := by decide +kernel
theorem dPo_becomesAnother_35 : decode cPo_becomesAnother 35 = .ok (.iconst 3, 1) := by decide +kernel
theorem dPo_becomesAnother_36 : decode cPo_becomesAnother 36 = .ok (.ishr, 1) := by decide +kernel
theorem dPo_becomesAnother_37 : decode cPo_becomesAnother 37 = .ok (.iload_n 2, 1) := by decide +kernel
theorem dPo_becomesAnother_38 : decode cPo_becomesAnother 38 = .ok (.if_icmp .ne 7, 3) := by decide +kernel
theorem dPo_becomesAnother_41 : decode cPo_becomesAnother 41 = .ok (.iconst 1, 1) := by decide +kernel
theorem dPo_becomesAnother_42 : decode cPo_becomesAnother 42 = .ok (.goto 4, 3) := by decide +kernel
theorem dPo_becomesAnother_45 : decode cPo_becomesAnother 45 = .ok (.iconst 0, 1) := by decide +kernel
theorem dPo_becomesAnother_46 : decode cPo_becomesAnother 46 = .ok (.ireturn, 1) := by decide +kernel

def f_Po_becomesAnother_13 (oS_board : St_Bo) (oS_side : Int32) (fr : Int32) (k0_13 : Int32) : Int32 :=
  (if (f_Bo_manAt oS_board.1 fr) = (1 + (8 * oS_side)) then (if (fr >>> ((3 : Int32) &&& 31)) = k0_13 then 1 else 0) else 0)
theorem f_Po_becomesAnother_13_eq (oS_board : St_Bo) (oS_side : Int32) (fr : Int32) (k0_13 : Int32) : f_Po_becomesAnother_13 oS_board oS_side fr k0_13 =
  (if (f_Bo_manAt oS_board.1 fr) = (1 + (8 * oS_side)) then (if (fr >>> ((3 : Int32) &&& 31)) = k0_13 then 1 else 0) else 0) := rfl

def f_Po_becomesAnother (oS_board : St_Bo) (oS_side : Int32) (fr : Int32) : Int32 :=
  (if oS_side = 0 then f_Po_becomesAnother_13 oS_board oS_side fr 6 else f_Po_becomesAnother_13 oS_board oS_side fr 1)
theorem f_Po_becomesAnother_eq (oS_board : St_Bo) (oS_side : Int32) (fr : Int32) : f_Po_becomesAnother oS_board oS_side fr =
  (if oS_side = 0 then f_Po_becomesAnother_13 oS_board oS_side fr 6 else f_Po_becomesAnother_13 oS_board oS_side fr 1) := rfl

set_option maxHeartbeats 4000000 in
set_option maxRecDepth 100000 in
theorem c_Po_becomesAnother (l : Launch) (dC : Nat → ClassId) (dI : Nat → Nat → Nat) (cI cJ cC : ClassId) (ad : Nat → Nat) (o o_board o_board_men o_board_sets : Nat) (oS_board : St_Bo) (oS_side : Int32) (oS_rights : Int32) (oS_passed : Int32) (oS_clock : Int32) (oS_number : Int32) (fr : Int32) : Met l yPo_becomesAnother wsPo_becomesAnother { frames := 2, cells := 0, slots := 0, locals := 41 } (roP dC dI (TYS cI cJ cC) [.ref o, .int fr] [(o, .inr (3, [.ref o_board, .int oS_side, .int oS_rights, .int oS_passed, .int oS_clock, .int oS_number])), (o_board, .inr (0, [.ref o_board_men, .ref o_board_sets])), (o_board_men, .inl (cI, 64, .inl oS_board.1)), (o_board_sets, .inl (cJ, 16, .inr (.inl oS_board.2)))] (GS ad)) (vp_Si (fun r => r = f_Po_becomesAnother oS_board oS_side fr)) 0 0 (fun _ => False) := by
  refine Met.ofW (cc := cPo_becomesAnother) (maxL := 3) (ret := (some .boolean)) (by decide) rfl ?_
  intro p e s m args below meth c s₁ B hml hv
  obtain ⟨rfl, hP, hK, hG⟩ := hv
  have hx := B.exec
  have hb := B.bytes
  have hr := B.returns
  have hB : ∀ w9 ∈ BIG, w9.before ([.ref o, .int fr]).toArray s = true := fun w9 h => atoms_spec (ws := wsPo_becomesAnother) B.pre w9 (List.mem_cons_of_mem _ h)
  have hown : s.vm.findClass "ChessRules$Position" = some m.cls := findClass_of_methodNamed B.named
  have hlocks := B.notSynchronized
  have hS : va_S (fun _ => False) s.heap s.heap [] := va_S.rf
  have hP : va_P (dC, dI) vwCl [(o, .inr (3, [.ref o_board, .int oS_side, .int oS_rights, .int oS_passed, .int oS_clock, .int oS_number])), (o_board, .inr (0, [.ref o_board_men, .ref o_board_sets])), (o_board_men, .inl (cI, 64, .inl oS_board.1)), (o_board_sets, .inl (cJ, 16, .inr (.inl oS_board.2)))] s.heap := hP
  have hl := lv_entry ([.ref o, .int fr]) (n := 3) (Nat.le_of_ble_eq_true rfl)
  rw [lg_entry_eq]
  generalize (lg_sl ([.ref o, .int fr]) ++ List.replicate (3 - (lg_sl ([.ref o, .int fr])).length) Slot.unset).toArray = ls at hl ⊢
  have hl : lv_has ls 3 [(0, .ref o), (1, .int fr)] := hl
  refine lv_aload_n hx hb dPo_becomesAnother_0 rfl (lv_at hl 0 rfl) ?_
  refine va_get (D := (dC, dI)) (ci := 3) (v := .int oS_side) (C := RPo) (T := TPo) (N := 6) hx hb hB inPo hown hK hP 0 rfl rfl 1 (by decide) (hB _ q1_83) (fun _ h9 => h9) rfl dPo_becomesAnother_1 ?_
  have J_13 : ∀ (k0_13 : Int32), f_Po_becomesAnother oS_board oS_side fr = f_Po_becomesAnother_13 oS_board oS_side fr k0_13 → ∀ ls : Array Slot, lv_has ls 3 [(0, .ref o), (1, .int fr)] → W p l e (headSpec wsPo_becomesAnother { frames := 2, cells := 0, slots := 0, locals := 41 }).room s m ([.ref o, .int fr]).toArray below meth c s.heap [] 0 0 (MQ below (vp_Si (fun r => r = f_Po_becomesAnother oS_board oS_side fr)) ([.ref o, .int fr]).toArray s 0 0 (fun _ => False)) (F0 m 13 ls [.int k0_13]) := by
    intro k0_13 he_13 ls hl
    refine lv_istore_n (lv' := [(2, .int k0_13), (0, .ref o), (1, .int fr)]) hx hb dPo_becomesAnother_13 rfl hl (by decide) rfl (fun ls hl => ?_)
    refine lv_aload_n hx hb dPo_becomesAnother_14 rfl (lv_at hl 1 rfl) ?_
    refine va_get (D := (dC, dI)) (ci := 3) (v := .ref o_board) (C := RPo) (T := TPo) (N := 6) hx hb hB inPo hown hK hP 0 rfl rfl 0 (by decide) (hB _ q1_77) (fun _ h9 => h9) rfl dPo_becomesAnother_15 ?_
    refine lv_iload_n hx hb dPo_becomesAnother_18 rfl (lv_at hl 2 rfl) ?_
    refine ro_goi (va_runVN (C := "ChessRules$Board") (As := [.int fr]) (rest := []) ⟨hx, hb, hml, hown, hB⟩ (c_Bo_manAt l dC dI cI cJ cC ad o_board o_board_men o_board_sets oS_board.1 oS_board.2 fr) ⟨va_cnB 1 hB (big_self q2_168) rfl rfl rfl (hG.1 _ q2_206) (hB _ q1_5) (by decide +kernel) ⟨Nat.le_of_ble_eq_true rfl, Nat.le_of_ble_eq_true rfl⟩, (hB _ q2_167), (hB _ qs2_7)⟩ (ro_preV (GS_ok ad) hK hP hG hS [1, 2, 3] rfl (va_recv hK hP (ci := 0) (q0 := 1) rfl rfl)) rfl rfl hl.1 rfl (lv_room (Nat.le_of_ble_eq_true rfl)) dPo_becomesAnother_19 ⟨Nat.le_of_ble_eq_true rfl, Nat.le_of_ble_eq_true rfl⟩) ?_
    refine lv_iconst (v := 1) hx hb dPo_becomesAnother_22 (by decide) ?_
    refine lv_bipush (v := 8) hx hb dPo_becomesAnother_23 (by decide) ?_
    refine lv_aload_n hx hb dPo_becomesAnother_25 rfl (lv_at hl 1 rfl) ?_
    refine va_get (D := (dC, dI)) (ci := 3) (v := .int oS_side) (C := RPo) (T := TPo) (N := 6) hx hb hB inPo hown hK hP 0 rfl rfl 1 (by decide) (hB _ q1_83) (fun _ h9 => h9) rfl dPo_becomesAnother_26 ?_
    refine lv_imul hx hb dPo_becomesAnother_29 ?_
    refine lv_iadd hx hb dPo_becomesAnother_30 ?_
    refine lv_icmp_ne (tgt := 45) hx hb dPo_becomesAnother_31 (by decide) (fun c_1 => ?_) (fun c_1 => ?_)
    · refine lv_iconst (v := 0) hx hb dPo_becomesAnother_45 (by decide) ?_
      exact ro_retz hx hb hr rfl hlocks dPo_becomesAnother_46 (Eq.symm (he_13.trans (by rw [f_Po_becomesAnother_13_eq, if_neg c_1] <;> rfl)))
    · refine lv_iload_n hx hb dPo_becomesAnother_34 rfl (lv_at hl 2 rfl) ?_
      refine lv_iconst (v := 3) hx hb dPo_becomesAnother_35 (by decide) ?_
      refine lv_ishr hx hb dPo_becomesAnother_36 ?_
      refine lv_iload_n hx hb dPo_becomesAnother_37 rfl (lv_at hl 0 rfl) ?_
      refine lv_icmp_ne (tgt := 45) hx hb dPo_becomesAnother_38 (by decide) (fun c_2 => ?_) (fun c_2 => ?_)
      · refine lv_iconst (v := 0) hx hb dPo_becomesAnother_45 (by decide) ?_
        exact ro_retz hx hb hr rfl hlocks dPo_becomesAnother_46 (Eq.symm (he_13.trans (by rw [f_Po_becomesAnother_13_eq, if_pos c_1, if_neg c_2] <;> rfl)))
      · refine lv_iconst (v := 1) hx hb dPo_becomesAnother_41 (by decide) ?_
        refine lv_goto (tgt := 46) hx hb dPo_becomesAnother_42 (by decide) ?_
        exact ro_retz hx hb hr rfl hlocks dPo_becomesAnother_46 (Eq.symm (he_13.trans (by rw [f_Po_becomesAnother_13_eq, if_pos c_1, if_pos c_2] <;> rfl)))
  refine lv_if_ne (tgt := 12) hx hb dPo_becomesAnother_4 (by decide) (fun c_3 => ?_) (fun c_3 => ?_)
  · refine lv_iconst (v := 1) hx hb dPo_becomesAnother_12 (by decide) ?_
    exact J_13 1 (by rw [f_Po_becomesAnother_eq, if_neg c_3] <;> rfl) ls (lv_sub hl [0, 1] rfl)
  · refine lv_bipush (v := 6) hx hb dPo_becomesAnother_7 (by decide) ?_
    refine lv_goto (tgt := 13) hx hb dPo_becomesAnother_9 (by decide) ?_
    exact J_13 6 (by rw [f_Po_becomesAnother_eq, if_pos c_3] <;> rfl) ls (lv_sub hl [0, 1] rfl)

abbrev cPo_movesToOneTarget : ByteArray := prog_5_method_20_code
def yPo_movesToOneTarget : MethodName := ⟨"ChessRules$Position", "movesToOneTarget", "(I)I"⟩
def wsPo_movesToOneTarget : List Cond := Cond.code yPo_movesToOneTarget cPo_movesToOneTarget 2 (some .int) :: BIG
theorem dPo_movesToOneTarget_0 : decode cPo_movesToOneTarget 0 = .ok (.aload_n 0, 1) := by decide +kernel
theorem dPo_movesToOneTarget_1 : decode cPo_movesToOneTarget 1 = .ok (.iload_n 1, 1) := by decide +kernel
theorem dPo_movesToOneTarget_2 : decode cPo_movesToOneTarget 2 = .ok (.invokevirtual 137, 3) := by decide +kernel
theorem dPo_movesToOneTarget_5 : decode cPo_movesToOneTarget 5 = .ok (.ifCond .eq 7, 3) := by decide +kernel
theorem dPo_movesToOneTarget_8 : decode cPo_movesToOneTarget 8 = .ok (.iconst 4, 1) := by decide +kernel
theorem dPo_movesToOneTarget_9 : decode cPo_movesToOneTarget 9 = .ok (.goto 4, 3) := by decide +kernel
theorem dPo_movesToOneTarget_12 : decode cPo_movesToOneTarget 12 = .ok (.iconst 1, 1) := by decide +kernel
theorem dPo_movesToOneTarget_13 : decode cPo_movesToOneTarget 13 = .ok (.ireturn, 1) := by decide +kernel

def f_Po_movesToOneTarget (oS_board : St_Bo) (oS_side : Int32) (fr : Int32) : Int32 :=
  (if (f_Po_becomesAnother oS_board oS_side fr) = 0 then 1 else 4)
theorem f_Po_movesToOneTarget_eq (oS_board : St_Bo) (oS_side : Int32) (fr : Int32) : f_Po_movesToOneTarget oS_board oS_side fr =
  (if (f_Po_becomesAnother oS_board oS_side fr) = 0 then 1 else 4) := rfl

set_option maxHeartbeats 4000000 in
set_option maxRecDepth 100000 in
theorem c_Po_movesToOneTarget (l : Launch) (dC : Nat → ClassId) (dI : Nat → Nat → Nat) (cI cJ cC : ClassId) (ad : Nat → Nat) (o o_board o_board_men o_board_sets : Nat) (oS_board : St_Bo) (oS_side : Int32) (oS_rights : Int32) (oS_passed : Int32) (oS_clock : Int32) (oS_number : Int32) (fr : Int32) : Met l yPo_movesToOneTarget wsPo_movesToOneTarget { frames := 3, cells := 0, slots := 0, locals := 63 } (roP dC dI (TYS cI cJ cC) [.ref o, .int fr] [(o, .inr (3, [.ref o_board, .int oS_side, .int oS_rights, .int oS_passed, .int oS_clock, .int oS_number])), (o_board, .inr (0, [.ref o_board_men, .ref o_board_sets])), (o_board_men, .inl (cI, 64, .inl oS_board.1)), (o_board_sets, .inl (cJ, 16, .inr (.inl oS_board.2)))] (GS ad)) (vp_Si (fun r => r = f_Po_movesToOneTarget oS_board oS_side fr)) 0 0 (fun _ => False) := by
  refine Met.ofW (cc := cPo_movesToOneTarget) (maxL := 2) (ret := (some .int)) (by decide) rfl ?_
  intro p e s m args below meth c s₁ B hml hv
  obtain ⟨rfl, hP, hK, hG⟩ := hv
  have hx := B.exec
  have hb := B.bytes
  have hr := B.returns
  have hB : ∀ w9 ∈ BIG, w9.before ([.ref o, .int fr]).toArray s = true := fun w9 h => atoms_spec (ws := wsPo_movesToOneTarget) B.pre w9 (List.mem_cons_of_mem _ h)
  have hown : s.vm.findClass "ChessRules$Position" = some m.cls := findClass_of_methodNamed B.named
  have hlocks := B.notSynchronized
  have hS : va_S (fun _ => False) s.heap s.heap [] := va_S.rf
  have hP : va_P (dC, dI) vwCl [(o, .inr (3, [.ref o_board, .int oS_side, .int oS_rights, .int oS_passed, .int oS_clock, .int oS_number])), (o_board, .inr (0, [.ref o_board_men, .ref o_board_sets])), (o_board_men, .inl (cI, 64, .inl oS_board.1)), (o_board_sets, .inl (cJ, 16, .inr (.inl oS_board.2)))] s.heap := hP
  have hl := lv_entry ([.ref o, .int fr]) (n := 2) (Nat.le_of_ble_eq_true rfl)
  rw [lg_entry_eq]
  generalize (lg_sl ([.ref o, .int fr]) ++ List.replicate (2 - (lg_sl ([.ref o, .int fr])).length) Slot.unset).toArray = ls at hl ⊢
  have hl : lv_has ls 2 [(0, .ref o), (1, .int fr)] := hl
  refine lv_aload_n hx hb dPo_movesToOneTarget_0 rfl (lv_at hl 0 rfl) ?_
  refine lv_iload_n hx hb dPo_movesToOneTarget_1 rfl (lv_at hl 1 rfl) ?_
  refine ro_goi (va_runV (C := "ChessRules$Position") (As := [.int fr]) (rest := []) ⟨hx, hb, hml, hown, hB⟩ (c_Po_becomesAnother l dC dI cI cJ cC ad o o_board o_board_men o_board_sets oS_board oS_side oS_rights oS_passed oS_clock oS_number fr) ⟨callB_of 1 hB (big_self q3_134) rfl rfl rfl (hB _ q1_4) (hB _ q3_131) (by decide +kernel) ⟨Nat.le_of_ble_eq_true rfl, Nat.le_of_ble_eq_true rfl⟩, (hB _ q3_133), (hB _ qs3_15)⟩ (ro_preV (GS_ok ad) hK hP hG hS [0, 1, 2, 3] rfl (va_recv hK hP (ci := 3) (q0 := 0) rfl rfl)) rfl rfl hl.1 rfl (lv_room (Nat.le_of_ble_eq_true rfl)) dPo_movesToOneTarget_2 ⟨Nat.le_of_ble_eq_true rfl, Nat.le_of_ble_eq_true rfl⟩) ?_
  refine lv_if_eq (tgt := 12) hx hb dPo_movesToOneTarget_5 (by decide) (fun c_1 => ?_) (fun c_1 => ?_)
  · refine lv_iconst (v := 1) hx hb dPo_movesToOneTarget_12 (by decide) ?_
    exact ro_reti hx hb hr hlocks dPo_movesToOneTarget_13 (Eq.symm (by rw [f_Po_movesToOneTarget_eq, if_pos c_1] <;> rfl))
  · refine lv_iconst (v := 4) hx hb dPo_movesToOneTarget_8 (by decide) ?_
    refine lv_goto (tgt := 13) hx hb dPo_movesToOneTarget_9 (by decide) ?_
    exact ro_reti hx hb hr hlocks dPo_movesToOneTarget_13 (Eq.symm (by rw [f_Po_movesToOneTarget_eq, if_neg c_1] <;> rfl))

abbrev cPo_countMoves : ByteArray := prog_5_method_21_code
def yPo_countMoves : MethodName := ⟨"ChessRules$Position", "countMoves", "()I"⟩
def wsPo_countMoves : List Cond := Cond.code yPo_countMoves cPo_countMoves 8 (some .int) :: BIG
theorem dPo_countMoves_0 : decode cPo_countMoves 0 = .ok (.aload_n 0, 1) := by decide +kernel
theorem dPo_countMoves_1 : decode cPo_countMoves 1 = .ok (.invokevirtual 140, 3) := by decide +kernel
theorem dPo_countMoves_4 : decode cPo_countMoves 4 = .ok (.lstore_n 1, 1) := by decide +kernel
theorem dPo_countMoves_5 : decode cPo_countMoves 5 = .ok (.aload_n 0, 1) := by decide +kernel
theorem dPo_countMoves_6 : decode cPo_countMoves 6 = .ok (.getfield 12, 3) := by decide +kernel
theorem dPo_countMoves_9 : decode cPo_countMoves 9 = .ok (.aload_n 0, 1) := by decide +kernel
theorem dPo_countMoves_10 : decode cPo_countMoves 10 = .ok (.getfield 18, 3) := by decide +kernel
theorem dPo_countMoves_13 : decode cPo_countMoves 13 = .ok (.invokevirtual 78, 3) := by decide +kernel
theorem dPo_countMoves_16 : decode cPo_countMoves 16 = .ok (.lstore_n 3, 1) := by decide +kernel
theorem dPo_countMoves_17 : decode cPo_countMoves 17 = .ok (.iconst 0, 1) := by decide +kernel
theorem dPo_countMoves_18 : decode cPo_countMoves 18 = .ok (.istore 5, 2) := by decide +kernel
theorem dPo_countMoves_20 : decode cPo_countMoves 20 = .ok (.iconst 0, 1) := by decide +kernel
theorem dPo_countMoves_21 : decode cPo_countMoves 21 = .ok (.istore 6, 2) := by decide +kernel
theorem dPo_countMoves_23 : decode cPo_countMoves 23 = .ok (.iload 6, 2) := by decide +kernel
theorem dPo_countMoves_25 : decode cPo_countMoves 25 = .ok (.bipush 64, 2) := by decide +kernel
theorem dPo_countMoves_27 : decode cPo_countMoves 27 = .ok (.if_icmp .ge 49, 3) := by decide +kernel
theorem dPo_countMoves_30 : decode cPo_countMoves 30 = .ok (.lload_n 3, 1) := by decide +kernel
theorem dPo_countMoves_31 : decode cPo_countMoves 31 = .ok (.lconst 0, 1) := by decide +kernel
theorem dPo_countMoves_32 : decode cPo_countMoves 32 = .ok (.lcmp, 1) := by decide +kernel
theorem dPo_countMoves_33 : decode cPo_countMoves 33 = .ok (.ifCond .eq 43, 3) := by decide +kernel
theorem dPo_countMoves_36 : decode cPo_countMoves 36 = .ok (.lload_n 3, 1) := by decide +kernel
theorem dPo_countMoves_37 : decode cPo_countMoves 37 = .ok (.invokestatic 63, 3) := by decide +kernel
theorem dPo_countMoves_40 : decode cPo_countMoves 40 = .ok (.istore 7, 2) := by decide +kernel
theorem dPo_countMoves_42 : decode cPo_countMoves 42 = .ok (.iload 5, 2) := by decide +kernel
theorem dPo_countMoves_44 : decode cPo_countMoves 44 = .ok (.aload_n 0, 1) := by decide +kernel
theorem dPo_countMoves_45 : decode cPo_countMoves 45 = .ok (.iload 7, 2) := by decide +kernel
theorem dPo_countMoves_47 : decode cPo_countMoves 47 = .ok (.lload_n 1, 1) := by decide +kernel
theorem dPo_countMoves_48 : decode cPo_countMoves 48 = .ok (.invokevirtual 143, 3) := by decide +kernel
theorem dPo_countMoves_51 : decode cPo_countMoves 51 = .ok (.invokestatic 147, 3) := by decide +kernel
theorem dPo_countMoves_54 : decode cPo_countMoves 54 = .ok (.aload_n 0, 1) := by decide +kernel
theorem dPo_countMoves_55 : decode cPo_countMoves 55 = .ok (.iload 7, 2) := by decide +kernel
theorem dPo_countMoves_57 : decode cPo_countMoves 57 = .ok (.invokevirtual 152, 3) := by decide +kernel
theorem dPo_countMoves_60 : decode cPo_countMoves 60 = .ok (.imul, 1) := by decide +kernel
theorem dPo_countMoves_61 : decode cPo_countMoves 61 = .ok (.iadd, 1) := by decide +kernel
theorem dPo_countMoves_62 : decode cPo_countMoves 62 = .ok (.istore 5, 2) := by decide +kernel
theorem dPo_countMoves_64 : decode cPo_countMoves 64 = .ok (.lload_n 3, 1) := by decide +kernel
theorem dPo_countMoves_65 : decode cPo_countMoves 65 = .ok (.lload_n 3, 1) := by decide +kernel
theorem dPo_countMoves_66 : decode cPo_countMoves 66 = .ok (.lconst 1, 1) := by decide +kernel
theorem dPo_countMoves_67 : decode cPo_countMoves 67 = .ok (.lsub, 1) := by decide +kernel
theorem dPo_countMoves_68 : decode cPo_countMoves 68 = .ok (.land, 1) := by decide +kernel
theorem dPo_countMoves_69 : decode cPo_countMoves 69 = .ok (.lstore_n 3, 1) := by decide +kernel
theorem dPo_countMoves_70 : decode cPo_countMoves 70 = .ok (.iinc 6 1, 3) := by decide +kernel
theorem dPo_countMoves_73 : decode cPo_countMoves 73 = .ok (.goto (-50), 3) := by decide +kernel
theorem dPo_countMoves_76 : decode cPo_countMoves 76 = .ok (.iload 5, 2) := by decide +kernel
theorem dPo_countMoves_78 : decode cPo_countMoves 78 = .ok (.ireturn, 1) := by decide +kernel

def f_Po_countMoves_23 (oS_board : St_Bo) (oS_side : Int32) (oS_rights : Int32) (oS_passed : Int32) : Nat → Int64 → Int32 → Int32 → Int32
  | 0 => fun _ _ _ => 0
  | n_23 + 1 => fun v3_23 v5_23 v6_23 => (if 64 ≤ v6_23 then v5_23 else (if v3_23 = 0 then v5_23 else (f_Po_countMoves_23 oS_board oS_side oS_rights oS_passed n_23) (v3_23 &&& (v3_23 - 1)) (v5_23 + ((f_Lo_bitCount (f_Po_legalTargets oS_board oS_side oS_rights oS_passed (f_Ch_lowestSquare v3_23) (f_Po_exposed oS_board oS_side oS_passed))) * (f_Po_movesToOneTarget oS_board oS_side (f_Ch_lowestSquare v3_23)))) (v6_23 + 1)))
theorem f_Po_countMoves_23_eq (oS_board : St_Bo) (oS_side : Int32) (oS_rights : Int32) (oS_passed : Int32) (n_23 : Nat) (v3_23 : Int64) (v5_23 : Int32) (v6_23 : Int32) : f_Po_countMoves_23 oS_board oS_side oS_rights oS_passed (n_23 + 1) v3_23 v5_23 v6_23 =
  (if 64 ≤ v6_23 then v5_23 else (if v3_23 = 0 then v5_23 else (f_Po_countMoves_23 oS_board oS_side oS_rights oS_passed n_23) (v3_23 &&& (v3_23 - 1)) (v5_23 + ((f_Lo_bitCount (f_Po_legalTargets oS_board oS_side oS_rights oS_passed (f_Ch_lowestSquare v3_23) (f_Po_exposed oS_board oS_side oS_passed))) * (f_Po_movesToOneTarget oS_board oS_side (f_Ch_lowestSquare v3_23)))) (v6_23 + 1))) := rfl

def f_Po_countMoves (oS_board : St_Bo) (oS_side : Int32) (oS_rights : Int32) (oS_passed : Int32) : Int32 :=
  f_Po_countMoves_23 oS_board oS_side oS_rights oS_passed (65) (f_Bo_allOf oS_board.2 oS_side) 0 0
theorem f_Po_countMoves_eq (oS_board : St_Bo) (oS_side : Int32) (oS_rights : Int32) (oS_passed : Int32) : f_Po_countMoves oS_board oS_side oS_rights oS_passed =
  f_Po_countMoves_23 oS_board oS_side oS_rights oS_passed (65) (f_Bo_allOf oS_board.2 oS_side) 0 0 := rfl

set_option maxHeartbeats 4000000 in
set_option maxRecDepth 100000 in
theorem c_Po_countMoves (l : Launch) (dC : Nat → ClassId) (dI : Nat → Nat → Nat) (cI cJ cC : ClassId) (ad : Nat → Nat) (o o_board o_board_men o_board_sets : Nat) (oS_board : St_Bo) (oS_side : Int32) (oS_rights : Int32) (oS_passed : Int32) (oS_clock : Int32) (oS_number : Int32) : Met l yPo_countMoves wsPo_countMoves { frames := 5, cells := 0, slots := 0, locals := 137 } (roP dC dI (TYS cI cJ cC) [.ref o] [(o, .inr (3, [.ref o_board, .int oS_side, .int oS_rights, .int oS_passed, .int oS_clock, .int oS_number])), (o_board, .inr (0, [.ref o_board_men, .ref o_board_sets])), (o_board_men, .inl (cI, 64, .inl oS_board.1)), (o_board_sets, .inl (cJ, 16, .inr (.inl oS_board.2)))] (GS ad)) (vp_Si (fun r => r = f_Po_countMoves oS_board oS_side oS_rights oS_passed)) 0 0 (fun _ => False) := by
  refine Met.ofW (cc := cPo_countMoves) (maxL := 8) (ret := (some .int)) (by decide) rfl ?_
  intro p e s m args below meth c s₁ B hml hv
  obtain ⟨rfl, hP, hK, hG⟩ := hv
  have hx := B.exec
  have hb := B.bytes
  have hr := B.returns
  have hB : ∀ w9 ∈ BIG, w9.before ([.ref o]).toArray s = true := fun w9 h => atoms_spec (ws := wsPo_countMoves) B.pre w9 (List.mem_cons_of_mem _ h)
  have hown : s.vm.findClass "ChessRules$Position" = some m.cls := findClass_of_methodNamed B.named
  have hlocks := B.notSynchronized
  have hS : va_S (fun _ => False) s.heap s.heap [] := va_S.rf
  have hP : va_P (dC, dI) vwCl [(o, .inr (3, [.ref o_board, .int oS_side, .int oS_rights, .int oS_passed, .int oS_clock, .int oS_number])), (o_board, .inr (0, [.ref o_board_men, .ref o_board_sets])), (o_board_men, .inl (cI, 64, .inl oS_board.1)), (o_board_sets, .inl (cJ, 16, .inr (.inl oS_board.2)))] s.heap := hP
  have hl := lv_entry ([.ref o]) (n := 8) (Nat.le_of_ble_eq_true rfl)
  rw [lg_entry_eq]
  generalize (lg_sl ([.ref o]) ++ List.replicate (8 - (lg_sl ([.ref o])).length) Slot.unset).toArray = ls at hl ⊢
  have hl : lv_has ls 8 [(0, .ref o)] := hl
  refine lv_aload_n hx hb dPo_countMoves_0 rfl (lv_at hl 0 rfl) ?_
  refine ro_gol (va_runV (C := "ChessRules$Position") (As := []) (rest := []) ⟨hx, hb, hml, hown, hB⟩ (c_Po_exposed l dC dI cI cJ cC ad o o_board o_board_men o_board_sets oS_board oS_side oS_rights oS_passed oS_clock oS_number) ⟨callB_of 0 hB (big_self q3_78) rfl rfl rfl (hB _ q1_4) (hB _ q3_75) (by decide +kernel) ⟨Nat.le_of_ble_eq_true rfl, Nat.le_of_ble_eq_true rfl⟩, (hB _ q3_77), (hB _ qs3_6)⟩ (ro_preV (GS_ok ad) hK hP hG hS [0, 1, 2, 3] rfl (va_recv hK hP (ci := 3) (q0 := 0) rfl rfl)) rfl rfl hl.1 rfl (lv_room (Nat.le_of_ble_eq_true rfl)) dPo_countMoves_1 ⟨Nat.le_of_ble_eq_true rfl, Nat.le_of_ble_eq_true rfl⟩) ?_
  refine lv_lstore_n (lv' := [(1, .long (f_Po_exposed oS_board oS_side oS_passed)), (0, .ref o)]) hx hb dPo_countMoves_4 rfl hl (by decide) rfl (fun ls hl => ?_)
  refine lv_aload_n hx hb dPo_countMoves_5 rfl (lv_at hl 1 rfl) ?_
  refine va_get (D := (dC, dI)) (ci := 3) (v := .ref o_board) (C := RPo) (T := TPo) (N := 6) hx hb hB inPo hown hK hP 0 rfl rfl 0 (by decide) (hB _ q1_77) (fun _ h9 => h9) rfl dPo_countMoves_6 ?_
  refine lv_aload_n hx hb dPo_countMoves_9 rfl (lv_at hl 1 rfl) ?_
  refine va_get (D := (dC, dI)) (ci := 3) (v := .int oS_side) (C := RPo) (T := TPo) (N := 6) hx hb hB inPo hown hK hP 0 rfl rfl 1 (by decide) (hB _ q1_83) (fun _ h9 => h9) rfl dPo_countMoves_10 ?_
  refine ro_gol (va_runVN (C := "ChessRules$Board") (As := [.int oS_side]) (rest := []) ⟨hx, hb, hml, hown, hB⟩ (c_Bo_allOf l dC dI cI cJ cC ad o_board o_board_men o_board_sets oS_board.1 oS_board.2 oS_side) ⟨va_cnB 1 hB (big_self q3_83) rfl rfl rfl (hG.1 _ q3_80) (hB _ q1_5) (by decide +kernel) ⟨Nat.le_of_ble_eq_true rfl, Nat.le_of_ble_eq_true rfl⟩, (hB _ q3_82), (hB _ qs3_7)⟩ (ro_preV (GS_ok ad) hK hP hG hS [1, 2, 3] rfl (va_recv hK hP (ci := 0) (q0 := 1) rfl rfl)) rfl rfl hl.1 rfl (lv_room (Nat.le_of_ble_eq_true rfl)) dPo_countMoves_13 ⟨Nat.le_of_ble_eq_true rfl, Nat.le_of_ble_eq_true rfl⟩) ?_
  refine lv_lstore_n (lv' := [(3, .long (f_Bo_allOf oS_board.2 oS_side)), (1, .long (f_Po_exposed oS_board oS_side oS_passed)), (0, .ref o)]) hx hb dPo_countMoves_16 rfl hl (by decide) rfl (fun ls hl => ?_)
  refine lv_iconst (v := 0) hx hb dPo_countMoves_17 (by decide) ?_
  refine lv_istore (lv' := [(5, .int 0), (3, .long (f_Bo_allOf oS_board.2 oS_side)), (1, .long (f_Po_exposed oS_board oS_side oS_passed)), (0, .ref o)]) hx hb dPo_countMoves_18 hl (by decide) rfl (fun ls hl => ?_)
  refine lv_iconst (v := 0) hx hb dPo_countMoves_20 (by decide) ?_
  refine lv_istore (lv' := [(6, .int 0), (5, .int 0), (3, .long (f_Bo_allOf oS_board.2 oS_side)), (1, .long (f_Po_exposed oS_board oS_side oS_passed)), (0, .ref o)]) hx hb dPo_countMoves_21 hl (by decide) rfl (fun ls hl => ?_)
  have J_23 : ∀ (n_23 : Nat) (v3_23 : Int64) (v5_23 : Int32) (v6_23 : Int32), f_Po_countMoves oS_board oS_side oS_rights oS_passed = f_Po_countMoves_23 oS_board oS_side oS_rights oS_passed n_23 v3_23 v5_23 v6_23 → ((0 : Int) ≤ v6_23.toInt ∧ (64 : Int32).toInt - v6_23.toInt + 1 ≤ (n_23 : Int) ∧ (1 : Int) ≤ (n_23 : Int)) → ∀ ls : Array Slot, lv_has ls 8 [(0, .ref o), (1, .long (f_Po_exposed oS_board oS_side oS_passed)), (3, .long v3_23), (5, .int v5_23), (6, .int v6_23)] → W p l e (headSpec wsPo_countMoves { frames := 5, cells := 0, slots := 0, locals := 137 }).room s m ([.ref o]).toArray below meth c s.heap [] 0 0 (MQ below (vp_Si (fun r => r = f_Po_countMoves oS_board oS_side oS_rights oS_passed)) ([.ref o]).toArray s 0 0 (fun _ => False)) (F0 m 23 ls []) := by
    intro n_23
    induction n_23 with
    | zero => intro v3_23 v5_23 v6_23 _ hm_23; exact absurd hm_23 (by omega)
    | succ n_23 ih_23 =>
      intro v3_23 v5_23 v6_23 he_23 hm_23 ls hl
      refine lv_iload hx hb dPo_countMoves_23 (lv_at hl 4 rfl) ?_
      refine lv_bipush (v := 64) hx hb dPo_countMoves_25 (by decide) ?_
      refine lv_icmp_ge (tgt := 76) hx hb dPo_countMoves_27 (by decide) (fun c_1 => ?_) (fun c_1 => ?_)
      · refine lv_iload hx hb dPo_countMoves_76 (lv_at hl 3 rfl) ?_
        exact ro_reti hx hb hr hlocks dPo_countMoves_78 (Eq.symm (he_23.trans (by rw [f_Po_countMoves_23_eq, if_pos c_1] <;> rfl)))
      · refine lv_lload_n hx hb dPo_countMoves_30 rfl (lv_at hl 2 rfl) ?_
        refine lv_lconst (v := 0) hx hb dPo_countMoves_31 (by decide) ?_
        refine W.lcmp hx hb dPo_countMoves_32 ?_
        refine lv_if_eq (tgt := 76) hx hb dPo_countMoves_33 (by decide) (fun q => let_c (h := v3_23 = 0) (lgc_eq.1 q) (fun c_2 => ?_)) (fun q => let_c (h := ¬ v3_23 = 0) (lgc_eq.2 q) (fun c_2 => ?_))
        · refine lv_iload hx hb dPo_countMoves_76 (lv_at hl 3 rfl) ?_
          exact ro_reti hx hb hr hlocks dPo_countMoves_78 (Eq.symm (he_23.trans (by rw [f_Po_countMoves_23_eq, if_neg c_1, if_pos c_2] <;> rfl)))
        · refine lv_lload_n hx hb dPo_countMoves_36 rfl (lv_at hl 2 rfl) ?_
          refine ro_goi (va_runSN (As := [.long v3_23]) (rest := []) ⟨hx, hb, hml, hown, hB⟩ (c_Ch_lowestSquare l dC dI cI cJ cC ad v3_23) ⟨va_cnB 1 hB (big_self q2_218) rfl rfl rfl (hG.1 _ q2_216) (hB _ q1_1) (by decide +kernel) ⟨Nat.le_of_ble_eq_true rfl, Nat.le_of_ble_eq_true rfl⟩, (hB _ q2_217), trivial⟩ (ro_preS (GS_ok ad) hK hP hG hS [] rfl) rfl rfl hl.1 rfl (lv_room (Nat.le_of_ble_eq_true rfl)) dPo_countMoves_37 ⟨Nat.le_of_ble_eq_true rfl, Nat.le_of_ble_eq_true rfl⟩) ?_
          refine lv_istore (lv' := [(7, .int (f_Ch_lowestSquare v3_23)), (0, .ref o), (1, .long (f_Po_exposed oS_board oS_side oS_passed)), (3, .long v3_23), (5, .int v5_23), (6, .int v6_23)]) hx hb dPo_countMoves_40 hl (by decide) rfl (fun ls hl => ?_)
          refine lv_iload hx hb dPo_countMoves_42 (lv_at hl 4 rfl) ?_
          refine lv_aload_n hx hb dPo_countMoves_44 rfl (lv_at hl 1 rfl) ?_
          refine lv_iload hx hb dPo_countMoves_45 (lv_at hl 0 rfl) ?_
          refine lv_lload_n hx hb dPo_countMoves_47 rfl (lv_at hl 2 rfl) ?_
          refine ro_gol (va_runV (C := "ChessRules$Position") (As := [.int (f_Ch_lowestSquare v3_23), .long (f_Po_exposed oS_board oS_side oS_passed)]) (rest := [.int v5_23]) ⟨hx, hb, hml, hown, hB⟩ (c_Po_legalTargets l dC dI cI cJ cC ad o o_board o_board_men o_board_sets oS_board oS_side oS_rights oS_passed oS_clock oS_number (f_Ch_lowestSquare v3_23) (f_Po_exposed oS_board oS_side oS_passed)) ⟨callB_of 2 hB (big_self q3_92) rfl rfl rfl (hB _ q1_4) (hB _ q3_89) (by decide +kernel) ⟨Nat.le_of_ble_eq_true rfl, Nat.le_of_ble_eq_true rfl⟩, (hB _ q3_91), (hB _ qs3_9)⟩ (ro_preV (GS_ok ad) hK hP hG hS [0, 1, 2, 3] rfl (va_recv hK hP (ci := 3) (q0 := 0) rfl rfl)) rfl rfl hl.1 rfl (lv_room (Nat.le_of_ble_eq_true rfl)) dPo_countMoves_48 ⟨Nat.le_of_ble_eq_true rfl, Nat.le_of_ble_eq_true rfl⟩) ?_
          refine ro_goi (va_runS (As := [.long (f_Po_legalTargets oS_board oS_side oS_rights oS_passed (f_Ch_lowestSquare v3_23) (f_Po_exposed oS_board oS_side oS_passed))]) (rest := [.int v5_23]) ⟨hx, hb, hml, hown, hB⟩ (c_Lo_bitCount l dC dI cI cJ cC ad (f_Po_legalTargets oS_board oS_side oS_rights oS_passed (f_Ch_lowestSquare v3_23) (f_Po_exposed oS_board oS_side oS_passed))) ⟨callB_of 1 hB (big_self q2_115) rfl rfl rfl (hB _ q1_13) (hB _ q3_126) (by decide +kernel) ⟨Nat.le_of_ble_eq_true rfl, Nat.le_of_ble_eq_true rfl⟩, (hB _ q2_114)⟩ (ro_preS (GS_ok ad) hK hP hG hS [] rfl) rfl rfl hl.1 rfl (lv_room (Nat.le_of_ble_eq_true rfl)) dPo_countMoves_51 ⟨Nat.le_of_ble_eq_true rfl, Nat.le_of_ble_eq_true rfl⟩) ?_
          refine lv_aload_n hx hb dPo_countMoves_54 rfl (lv_at hl 1 rfl) ?_
          refine lv_iload hx hb dPo_countMoves_55 (lv_at hl 0 rfl) ?_
          refine ro_goi (va_runV (C := "ChessRules$Position") (As := [.int (f_Ch_lowestSquare v3_23)]) (rest := [.int (f_Lo_bitCount (f_Po_legalTargets oS_board oS_side oS_rights oS_passed (f_Ch_lowestSquare v3_23) (f_Po_exposed oS_board oS_side oS_passed))), .int v5_23]) ⟨hx, hb, hml, hown, hB⟩ (c_Po_movesToOneTarget l dC dI cI cJ cC ad o o_board o_board_men o_board_sets oS_board oS_side oS_rights oS_passed oS_clock oS_number (f_Ch_lowestSquare v3_23)) ⟨callB_of 1 hB (big_self q3_130) rfl rfl rfl (hB _ q1_4) (hB _ q3_127) (by decide +kernel) ⟨Nat.le_of_ble_eq_true rfl, Nat.le_of_ble_eq_true rfl⟩, (hB _ q3_129), (hB _ qs3_14)⟩ (ro_preV (GS_ok ad) hK hP hG hS [0, 1, 2, 3] rfl (va_recv hK hP (ci := 3) (q0 := 0) rfl rfl)) rfl rfl hl.1 rfl (lv_room (Nat.le_of_ble_eq_true rfl)) dPo_countMoves_57 ⟨Nat.le_of_ble_eq_true rfl, Nat.le_of_ble_eq_true rfl⟩) ?_
          refine lv_imul hx hb dPo_countMoves_60 ?_
          refine lv_iadd hx hb dPo_countMoves_61 ?_
          refine lv_istore (lv' := [(5, .int (v5_23 + ((f_Lo_bitCount (f_Po_legalTargets oS_board oS_side oS_rights oS_passed (f_Ch_lowestSquare v3_23) (f_Po_exposed oS_board oS_side oS_passed))) * (f_Po_movesToOneTarget oS_board oS_side (f_Ch_lowestSquare v3_23))))), (7, .int (f_Ch_lowestSquare v3_23)), (0, .ref o), (1, .long (f_Po_exposed oS_board oS_side oS_passed)), (3, .long v3_23), (6, .int v6_23)]) hx hb dPo_countMoves_62 hl (by decide) rfl (fun ls hl => ?_)
          refine lv_lload_n hx hb dPo_countMoves_64 rfl (lv_at hl 4 rfl) ?_
          refine lv_lload_n hx hb dPo_countMoves_65 rfl (lv_at hl 4 rfl) ?_
          refine lv_lconst (v := 1) hx hb dPo_countMoves_66 (by decide) ?_
          refine lv_lsub hx hb dPo_countMoves_67 ?_
          refine lv_land hx hb dPo_countMoves_68 ?_
          refine lv_lstore_n (lv' := [(3, .long (v3_23 &&& (v3_23 - 1))), (5, .int (v5_23 + ((f_Lo_bitCount (f_Po_legalTargets oS_board oS_side oS_rights oS_passed (f_Ch_lowestSquare v3_23) (f_Po_exposed oS_board oS_side oS_passed))) * (f_Po_movesToOneTarget oS_board oS_side (f_Ch_lowestSquare v3_23))))), (7, .int (f_Ch_lowestSquare v3_23)), (0, .ref o), (1, .long (f_Po_exposed oS_board oS_side oS_passed)), (6, .int v6_23)]) hx hb dPo_countMoves_69 rfl hl (by decide) rfl (fun ls hl => ?_)
          refine lv_iinc (v := v6_23 + 1) (lv' := [(6, .int (v6_23 + 1)), (3, .long (v3_23 &&& (v3_23 - 1))), (5, .int (v5_23 + ((f_Lo_bitCount (f_Po_legalTargets oS_board oS_side oS_rights oS_passed (f_Ch_lowestSquare v3_23) (f_Po_exposed oS_board oS_side oS_passed))) * (f_Po_movesToOneTarget oS_board oS_side (f_Ch_lowestSquare v3_23))))), (7, .int (f_Ch_lowestSquare v3_23)), (0, .ref o), (1, .long (f_Po_exposed oS_board oS_side oS_passed))]) hx hb dPo_countMoves_70 hl (k := 5) rfl rfl (by decide) rfl (fun ls hl => ?_)
          refine lv_goto (tgt := 23) hx hb dPo_countMoves_73 (by decide) ?_
          exact ih_23 (v3_23 &&& (v3_23 - 1)) (v5_23 + ((f_Lo_bitCount (f_Po_legalTargets oS_board oS_side oS_rights oS_passed (f_Ch_lowestSquare v3_23) (f_Po_exposed oS_board oS_side oS_passed))) * (f_Po_movesToOneTarget oS_board oS_side (f_Ch_lowestSquare v3_23)))) (v6_23 + 1) (he_23.trans (by rw [f_Po_countMoves_23_eq, if_neg c_1, if_neg c_2] <;> rfl)) (by have z1 := tnle c_1; have y64 : (64 : Int32).toInt = 64 := rfl; have zr := i_rng (64 : Int32); have zs := i_succ9 v6_23 (by omega); omega) ls (lv_sub hl [4, 5, 1, 2, 0] rfl)
  exact J_23 (65) (f_Bo_allOf oS_board.2 oS_side) 0 0 (by rw [f_Po_countMoves_eq] <;> rfl) (by decide) ls (lv_sub hl [4, 3, 2, 1, 0] rfl)

abbrev cPo_hasMove : ByteArray := prog_5_method_22_code
def yPo_hasMove : MethodName := ⟨"ChessRules$Position", "hasMove", "()Z"⟩
def wsPo_hasMove : List Cond := Cond.code yPo_hasMove cPo_hasMove 6 (some .boolean) :: BIG
theorem dPo_hasMove_0 : decode cPo_hasMove 0 = .ok (.aload_n 0, 1) := by decide +kernel
theorem dPo_hasMove_1 : decode cPo_hasMove 1 = .ok (.invokevirtual 140, 3) := by decide +kernel
theorem dPo_hasMove_4 : decode cPo_hasMove 4 = .ok (.lstore_n 1, 1) := by decide +kernel
theorem dPo_hasMove_5 : decode cPo_hasMove 5 = .ok (.aload_n 0, 1) := by decide +kernel
theorem dPo_hasMove_6 : decode cPo_hasMove 6 = .ok (.getfield 12, 3) := by decide +kernel
theorem dPo_hasMove_9 : decode cPo_hasMove 9 = .ok (.aload_n 0, 1) := by decide +kernel
theorem dPo_hasMove_10 : decode cPo_hasMove 10 = .ok (.getfield 18, 3) := by decide +kernel
theorem dPo_hasMove_13 : decode cPo_hasMove 13 = .ok (.invokevirtual 78, 3) := by decide +kernel
theorem dPo_hasMove_16 : decode cPo_hasMove 16 = .ok (.lstore_n 3, 1) := by decide +kernel
theorem dPo_hasMove_17 : decode cPo_hasMove 17 = .ok (.iconst 0, 1) := by decide +kernel
theorem dPo_hasMove_18 : decode cPo_hasMove 18 = .ok (.istore 5, 2) := by decide +kernel
theorem dPo_hasMove_20 : decode cPo_hasMove 20 = .ok (.iload 5, 2) := by decide +kernel
theorem dPo_hasMove_22 : decode cPo_hasMove 22 = .ok (.bipush 64, 2) := by decide +kernel
theorem dPo_hasMove_24 : decode cPo_hasMove 24 = .ok (.if_icmp .ge 37, 3) := by decide +kernel
theorem dPo_hasMove_27 : decode cPo_hasMove 27 = .ok (.lload_n 3, 1) := by decide +kernel
theorem dPo_hasMove_28 : decode cPo_hasMove 28 = .ok (.lconst 0, 1) := by decide +kernel
theorem dPo_hasMove_29 : decode cPo_hasMove 29 = .ok (.lcmp, 1) := by decide +kernel
theorem dPo_hasMove_30 : decode cPo_hasMove 30 = .ok (.ifCond .eq 31, 3) := by decide +kernel
theorem dPo_hasMove_33 : decode cPo_hasMove 33 = .ok (.aload_n 0, 1) := by decide +kernel
theorem dPo_hasMove_34 : decode cPo_hasMove 34 = .ok (.lload_n 3, 1) := by decide +kernel
theorem dPo_hasMove_35 : decode cPo_hasMove 35 = .ok (.invokestatic 63, 3) := by decide +kernel
theorem dPo_hasMove_38 : decode cPo_hasMove 38 = .ok (.lload_n 1, 1) := by decide +kernel
theorem dPo_hasMove_39 : decode cPo_hasMove 39 = .ok (.invokevirtual 143, 3) := by decide +kernel
theorem dPo_hasMove_42 : decode cPo_hasMove 42 = .ok (.lconst 0, 1) := by decide +kernel
theorem dPo_hasMove_43 : decode cPo_hasMove 43 = .ok (.lcmp, 1) := by decide +kernel
theorem dPo_hasMove_44 : decode cPo_hasMove 44 = .ok (.ifCond .eq 5, 3) := by decide +kernel
theorem dPo_hasMove_47 : decode cPo_hasMove 47 = .ok (.iconst 1, 1) := by decide +kernel
theorem dPo_hasMove_48 : decode cPo_hasMove 48 = .ok (.ireturn, 1) := by decide +kernel
theorem dPo_hasMove_49 : decode cPo_hasMove 49 = .ok (.lload_n 3, 1) := by decide +kernel
theorem dPo_hasMove_50 : decode cPo_hasMove 50 = .ok (.lload_n 3, 1) := by decide +kernel
theorem dPo_hasMove_51 : decode cPo_hasMove 51 = .ok (.lconst 1, 1) := by decide +kernel
theorem dPo_hasMove_52 : decode cPo_hasMove 52 = .ok (.lsub, 1) := by decide +kernel
theorem dPo_hasMove_53 : decode cPo_hasMove 53 = .ok (.land, 1) := by decide +kernel
theorem dPo_hasMove_54 : decode cPo_hasMove 54 = .ok (.lstore_n 3, 1) := by decide +kernel
theorem dPo_hasMove_55 : decode cPo_hasMove 55 = .ok (.iinc 5 1, 3) := by decide +kernel
theorem dPo_hasMove_58 : decode cPo_hasMove 58 = .ok (.goto (-38), 3) := by decide +kernel
theorem dPo_hasMove_61 : decode cPo_hasMove 61 = .ok (.iconst 0, 1) := by decide +kernel
theorem dPo_hasMove_62 : decode cPo_hasMove 62 = .ok (.ireturn, 1) := by decide +kernel

def f_Po_hasMove_20 (oS_board : St_Bo) (oS_side : Int32) (oS_rights : Int32) (oS_passed : Int32) : Nat → Int64 → Int32 → Int32
  | 0 => fun _ _ => 0
  | n_20 + 1 => fun v3_20 v5_20 => (if 64 ≤ v5_20 then 0 else (if v3_20 = 0 then 0 else (if (f_Po_legalTargets oS_board oS_side oS_rights oS_passed (f_Ch_lowestSquare v3_20) (f_Po_exposed oS_board oS_side oS_passed)) = 0 then (f_Po_hasMove_20 oS_board oS_side oS_rights oS_passed n_20) (v3_20 &&& (v3_20 - 1)) (v5_20 + 1) else 1)))
theorem f_Po_hasMove_20_eq (oS_board : St_Bo) (oS_side : Int32) (oS_rights : Int32) (oS_passed : Int32) (n_20 : Nat) (v3_20 : Int64) (v5_20 : Int32) : f_Po_hasMove_20 oS_board oS_side oS_rights oS_passed (n_20 + 1) v3_20 v5_20 =
  (if 64 ≤ v5_20 then 0 else (if v3_20 = 0 then 0 else (if (f_Po_legalTargets oS_board oS_side oS_rights oS_passed (f_Ch_lowestSquare v3_20) (f_Po_exposed oS_board oS_side oS_passed)) = 0 then (f_Po_hasMove_20 oS_board oS_side oS_rights oS_passed n_20) (v3_20 &&& (v3_20 - 1)) (v5_20 + 1) else 1))) := rfl

def f_Po_hasMove (oS_board : St_Bo) (oS_side : Int32) (oS_rights : Int32) (oS_passed : Int32) : Int32 :=
  f_Po_hasMove_20 oS_board oS_side oS_rights oS_passed (65) (f_Bo_allOf oS_board.2 oS_side) 0
theorem f_Po_hasMove_eq (oS_board : St_Bo) (oS_side : Int32) (oS_rights : Int32) (oS_passed : Int32) : f_Po_hasMove oS_board oS_side oS_rights oS_passed =
  f_Po_hasMove_20 oS_board oS_side oS_rights oS_passed (65) (f_Bo_allOf oS_board.2 oS_side) 0 := rfl

set_option maxHeartbeats 4000000 in
set_option maxRecDepth 100000 in
theorem c_Po_hasMove (l : Launch) (dC : Nat → ClassId) (dI : Nat → Nat → Nat) (cI cJ cC : ClassId) (ad : Nat → Nat) (o o_board o_board_men o_board_sets : Nat) (oS_board : St_Bo) (oS_side : Int32) (oS_rights : Int32) (oS_passed : Int32) (oS_clock : Int32) (oS_number : Int32) : Met l yPo_hasMove wsPo_hasMove { frames := 5, cells := 0, slots := 0, locals := 137 } (roP dC dI (TYS cI cJ cC) [.ref o] [(o, .inr (3, [.ref o_board, .int oS_side, .int oS_rights, .int oS_passed, .int oS_clock, .int oS_number])), (o_board, .inr (0, [.ref o_board_men, .ref o_board_sets])), (o_board_men, .inl (cI, 64, .inl oS_board.1)), (o_board_sets, .inl (cJ, 16, .inr (.inl oS_board.2)))] (GS ad)) (vp_Si (fun r => r = f_Po_hasMove oS_board oS_side oS_rights oS_passed)) 0 0 (fun _ => False) := by
  refine Met.ofW (cc := cPo_hasMove) (maxL := 6) (ret := (some .boolean)) (by decide) rfl ?_
  intro p e s m args below meth c s₁ B hml hv
  obtain ⟨rfl, hP, hK, hG⟩ := hv
  have hx := B.exec
  have hb := B.bytes
  have hr := B.returns
  have hB : ∀ w9 ∈ BIG, w9.before ([.ref o]).toArray s = true := fun w9 h => atoms_spec (ws := wsPo_hasMove) B.pre w9 (List.mem_cons_of_mem _ h)
  have hown : s.vm.findClass "ChessRules$Position" = some m.cls := findClass_of_methodNamed B.named
  have hlocks := B.notSynchronized
  have hS : va_S (fun _ => False) s.heap s.heap [] := va_S.rf
  have hP : va_P (dC, dI) vwCl [(o, .inr (3, [.ref o_board, .int oS_side, .int oS_rights, .int oS_passed, .int oS_clock, .int oS_number])), (o_board, .inr (0, [.ref o_board_men, .ref o_board_sets])), (o_board_men, .inl (cI, 64, .inl oS_board.1)), (o_board_sets, .inl (cJ, 16, .inr (.inl oS_board.2)))] s.heap := hP
  have hl := lv_entry ([.ref o]) (n := 6) (Nat.le_of_ble_eq_true rfl)
  rw [lg_entry_eq]
  generalize (lg_sl ([.ref o]) ++ List.replicate (6 - (lg_sl ([.ref o])).length) Slot.unset).toArray = ls at hl ⊢
  have hl : lv_has ls 6 [(0, .ref o)] := hl
  refine lv_aload_n hx hb dPo_hasMove_0 rfl (lv_at hl 0 rfl) ?_
  refine ro_gol (va_runV (C := "ChessRules$Position") (As := []) (rest := []) ⟨hx, hb, hml, hown, hB⟩ (c_Po_exposed l dC dI cI cJ cC ad o o_board o_board_men o_board_sets oS_board oS_side oS_rights oS_passed oS_clock oS_number) ⟨callB_of 0 hB (big_self q3_78) rfl rfl rfl (hB _ q1_4) (hB _ q3_75) (by decide +kernel) ⟨Nat.le_of_ble_eq_true rfl, Nat.le_of_ble_eq_true rfl⟩, (hB _ q3_77), (hB _ qs3_6)⟩ (ro_preV (GS_ok ad) hK hP hG hS [0, 1, 2, 3] rfl (va_recv hK hP (ci := 3) (q0 := 0) rfl rfl)) rfl rfl hl.1 rfl (lv_room (Nat.le_of_ble_eq_true rfl)) dPo_hasMove_1 ⟨Nat.le_of_ble_eq_true rfl, Nat.le_of_ble_eq_true rfl⟩) ?_
  refine lv_lstore_n (lv' := [(1, .long (f_Po_exposed oS_board oS_side oS_passed)), (0, .ref o)]) hx hb dPo_hasMove_4 rfl hl (by decide) rfl (fun ls hl => ?_)
  refine lv_aload_n hx hb dPo_hasMove_5 rfl (lv_at hl 1 rfl) ?_
  refine va_get (D := (dC, dI)) (ci := 3) (v := .ref o_board) (C := RPo) (T := TPo) (N := 6) hx hb hB inPo hown hK hP 0 rfl rfl 0 (by decide) (hB _ q1_77) (fun _ h9 => h9) rfl dPo_hasMove_6 ?_
  refine lv_aload_n hx hb dPo_hasMove_9 rfl (lv_at hl 1 rfl) ?_
  refine va_get (D := (dC, dI)) (ci := 3) (v := .int oS_side) (C := RPo) (T := TPo) (N := 6) hx hb hB inPo hown hK hP 0 rfl rfl 1 (by decide) (hB _ q1_83) (fun _ h9 => h9) rfl dPo_hasMove_10 ?_
  refine ro_gol (va_runVN (C := "ChessRules$Board") (As := [.int oS_side]) (rest := []) ⟨hx, hb, hml, hown, hB⟩ (c_Bo_allOf l dC dI cI cJ cC ad o_board o_board_men o_board_sets oS_board.1 oS_board.2 oS_side) ⟨va_cnB 1 hB (big_self q3_83) rfl rfl rfl (hG.1 _ q3_80) (hB _ q1_5) (by decide +kernel) ⟨Nat.le_of_ble_eq_true rfl, Nat.le_of_ble_eq_true rfl⟩, (hB _ q3_82), (hB _ qs3_7)⟩ (ro_preV (GS_ok ad) hK hP hG hS [1, 2, 3] rfl (va_recv hK hP (ci := 0) (q0 := 1) rfl rfl)) rfl rfl hl.1 rfl (lv_room (Nat.le_of_ble_eq_true rfl)) dPo_hasMove_13 ⟨Nat.le_of_ble_eq_true rfl, Nat.le_of_ble_eq_true rfl⟩) ?_
  refine lv_lstore_n (lv' := [(3, .long (f_Bo_allOf oS_board.2 oS_side)), (1, .long (f_Po_exposed oS_board oS_side oS_passed)), (0, .ref o)]) hx hb dPo_hasMove_16 rfl hl (by decide) rfl (fun ls hl => ?_)
  refine lv_iconst (v := 0) hx hb dPo_hasMove_17 (by decide) ?_
  refine lv_istore (lv' := [(5, .int 0), (3, .long (f_Bo_allOf oS_board.2 oS_side)), (1, .long (f_Po_exposed oS_board oS_side oS_passed)), (0, .ref o)]) hx hb dPo_hasMove_18 hl (by decide) rfl (fun ls hl => ?_)
  have J_20 : ∀ (n_20 : Nat) (v3_20 : Int64) (v5_20 : Int32), f_Po_hasMove oS_board oS_side oS_rights oS_passed = f_Po_hasMove_20 oS_board oS_side oS_rights oS_passed n_20 v3_20 v5_20 → ((0 : Int) ≤ v5_20.toInt ∧ (64 : Int32).toInt - v5_20.toInt + 1 ≤ (n_20 : Int) ∧ (1 : Int) ≤ (n_20 : Int)) → ∀ ls : Array Slot, lv_has ls 6 [(0, .ref o), (1, .long (f_Po_exposed oS_board oS_side oS_passed)), (3, .long v3_20), (5, .int v5_20)] → W p l e (headSpec wsPo_hasMove { frames := 5, cells := 0, slots := 0, locals := 137 }).room s m ([.ref o]).toArray below meth c s.heap [] 0 0 (MQ below (vp_Si (fun r => r = f_Po_hasMove oS_board oS_side oS_rights oS_passed)) ([.ref o]).toArray s 0 0 (fun _ => False)) (F0 m 20 ls []) := by
    intro n_20
    induction n_20 with
    | zero => intro v3_20 v5_20 _ hm_20; exact absurd hm_20 (by omega)
    | succ n_20 ih_20 =>
      intro v3_20 v5_20 he_20 hm_20 ls hl
      refine lv_iload hx hb dPo_hasMove_20 (lv_at hl 3 rfl) ?_
      refine lv_bipush (v := 64) hx hb dPo_hasMove_22 (by decide) ?_
      refine lv_icmp_ge (tgt := 61) hx hb dPo_hasMove_24 (by decide) (fun c_1 => ?_) (fun c_1 => ?_)
      · refine lv_iconst (v := 0) hx hb dPo_hasMove_61 (by decide) ?_
        exact ro_retz hx hb hr rfl hlocks dPo_hasMove_62 (Eq.symm (he_20.trans (by rw [f_Po_hasMove_20_eq, if_pos c_1] <;> rfl)))
      · refine lv_lload_n hx hb dPo_hasMove_27 rfl (lv_at hl 2 rfl) ?_
        refine lv_lconst (v := 0) hx hb dPo_hasMove_28 (by decide) ?_
        refine W.lcmp hx hb dPo_hasMove_29 ?_
        refine lv_if_eq (tgt := 61) hx hb dPo_hasMove_30 (by decide) (fun q => let_c (h := v3_20 = 0) (lgc_eq.1 q) (fun c_2 => ?_)) (fun q => let_c (h := ¬ v3_20 = 0) (lgc_eq.2 q) (fun c_2 => ?_))
        · refine lv_iconst (v := 0) hx hb dPo_hasMove_61 (by decide) ?_
          exact ro_retz hx hb hr rfl hlocks dPo_hasMove_62 (Eq.symm (he_20.trans (by rw [f_Po_hasMove_20_eq, if_neg c_1, if_pos c_2] <;> rfl)))
        · refine lv_aload_n hx hb dPo_hasMove_33 rfl (lv_at hl 0 rfl) ?_
          refine lv_lload_n hx hb dPo_hasMove_34 rfl (lv_at hl 2 rfl) ?_
          refine ro_goi (va_runSN (As := [.long v3_20]) (rest := [.ref o]) ⟨hx, hb, hml, hown, hB⟩ (c_Ch_lowestSquare l dC dI cI cJ cC ad v3_20) ⟨va_cnB 1 hB (big_self q2_218) rfl rfl rfl (hG.1 _ q2_216) (hB _ q1_1) (by decide +kernel) ⟨Nat.le_of_ble_eq_true rfl, Nat.le_of_ble_eq_true rfl⟩, (hB _ q2_217), trivial⟩ (ro_preS (GS_ok ad) hK hP hG hS [] rfl) rfl rfl hl.1 rfl (lv_room (Nat.le_of_ble_eq_true rfl)) dPo_hasMove_35 ⟨Nat.le_of_ble_eq_true rfl, Nat.le_of_ble_eq_true rfl⟩) ?_
          refine lv_lload_n hx hb dPo_hasMove_38 rfl (lv_at hl 1 rfl) ?_
          refine ro_gol (va_runV (C := "ChessRules$Position") (As := [.int (f_Ch_lowestSquare v3_20), .long (f_Po_exposed oS_board oS_side oS_passed)]) (rest := []) ⟨hx, hb, hml, hown, hB⟩ (c_Po_legalTargets l dC dI cI cJ cC ad o o_board o_board_men o_board_sets oS_board oS_side oS_rights oS_passed oS_clock oS_number (f_Ch_lowestSquare v3_20) (f_Po_exposed oS_board oS_side oS_passed)) ⟨callB_of 2 hB (big_self q3_92) rfl rfl rfl (hB _ q1_4) (hB _ q3_89) (by decide +kernel) ⟨Nat.le_of_ble_eq_true rfl, Nat.le_of_ble_eq_true rfl⟩, (hB _ q3_91), (hB _ qs3_9)⟩ (ro_preV (GS_ok ad) hK hP hG hS [0, 1, 2, 3] rfl (va_recv hK hP (ci := 3) (q0 := 0) rfl rfl)) rfl rfl hl.1 rfl (lv_room (Nat.le_of_ble_eq_true rfl)) dPo_hasMove_39 ⟨Nat.le_of_ble_eq_true rfl, Nat.le_of_ble_eq_true rfl⟩) ?_
          refine lv_lconst (v := 0) hx hb dPo_hasMove_42 (by decide) ?_
          refine W.lcmp hx hb dPo_hasMove_43 ?_
          refine lv_if_eq (tgt := 49) hx hb dPo_hasMove_44 (by decide) (fun q => let_c (h := (f_Po_legalTargets oS_board oS_side oS_rights oS_passed (f_Ch_lowestSquare v3_20) (f_Po_exposed oS_board oS_side oS_passed)) = 0) (lgc_eq.1 q) (fun c_3 => ?_)) (fun q => let_c (h := ¬ (f_Po_legalTargets oS_board oS_side oS_rights oS_passed (f_Ch_lowestSquare v3_20) (f_Po_exposed oS_board oS_side oS_passed)) = 0) (lgc_eq.2 q) (fun c_3 => ?_))
          · refine lv_lload_n hx hb dPo_hasMove_49 rfl (lv_at hl 2 rfl) ?_
            refine lv_lload_n hx hb dPo_hasMove_50 rfl (lv_at hl 2 rfl) ?_
            refine lv_lconst (v := 1) hx hb dPo_hasMove_51 (by decide) ?_
            refine lv_lsub hx hb dPo_hasMove_52 ?_
            refine lv_land hx hb dPo_hasMove_53 ?_
            refine lv_lstore_n (lv' := [(3, .long (v3_20 &&& (v3_20 - 1))), (0, .ref o), (1, .long (f_Po_exposed oS_board oS_side oS_passed)), (5, .int v5_20)]) hx hb dPo_hasMove_54 rfl hl (by decide) rfl (fun ls hl => ?_)
            refine lv_iinc (v := v5_20 + 1) (lv' := [(5, .int (v5_20 + 1)), (3, .long (v3_20 &&& (v3_20 - 1))), (0, .ref o), (1, .long (f_Po_exposed oS_board oS_side oS_passed))]) hx hb dPo_hasMove_55 hl (k := 3) rfl rfl (by decide) rfl (fun ls hl => ?_)
            refine lv_goto (tgt := 20) hx hb dPo_hasMove_58 (by decide) ?_
            exact ih_20 (v3_20 &&& (v3_20 - 1)) (v5_20 + 1) (he_20.trans (by rw [f_Po_hasMove_20_eq, if_neg c_1, if_neg c_2, if_pos c_3] <;> rfl)) (by have z1 := tnle c_1; have y64 : (64 : Int32).toInt = 64 := rfl; have zr := i_rng (64 : Int32); have zs := i_succ9 v5_20 (by omega); omega) ls (lv_sub hl [2, 3, 1, 0] rfl)
          · refine lv_iconst (v := 1) hx hb dPo_hasMove_47 (by decide) ?_
            exact ro_retz hx hb hr rfl hlocks dPo_hasMove_48 (Eq.symm (he_20.trans (by rw [f_Po_hasMove_20_eq, if_neg c_1, if_neg c_2, if_neg c_3] <;> rfl)))
  exact J_20 (65) (f_Bo_allOf oS_board.2 oS_side) 0 (by rw [f_Po_hasMove_eq] <;> rfl) (by decide) ls (lv_sub hl [3, 2, 1, 0] rfl)

abbrev cPo_moveOfMan : ByteArray := prog_5_method_24_code
def yPo_moveOfMan : MethodName := ⟨"ChessRules$Position", "moveOfMan", "(IJI)I"⟩
def wsPo_moveOfMan : List Cond := Cond.code yPo_moveOfMan cPo_moveOfMan 10 (some .int) :: BIG
theorem dPo_moveOfMan_0 : decode cPo_moveOfMan 0 = .ok (.aload_n 0, 1) := by decide +kernel
theorem dPo_moveOfMan_1 : decode cPo_moveOfMan 1 = .ok (.iload_n 1, 1) := by decide +kernel
theorem dPo_moveOfMan_2 : decode cPo_moveOfMan 2 = .ok (.invokevirtual 137, 3) := by decide +kernel
theorem dPo_moveOfMan_5 : decode cPo_moveOfMan 5 = .ok (.ifCond .eq 10, 3) := by decide +kernel
theorem dPo_moveOfMan_8 : decode cPo_moveOfMan 8 = .ok (.iload 4, 2) := by decide +kernel
theorem dPo_moveOfMan_10 : decode cPo_moveOfMan 10 = .ok (.iconst 4, 1) := by decide +kernel
theorem dPo_moveOfMan_11 : decode cPo_moveOfMan 11 = .ok (.idiv, 1) := by decide +kernel
theorem dPo_moveOfMan_12 : decode cPo_moveOfMan 12 = .ok (.goto 5, 3) := by decide +kernel
theorem dPo_moveOfMan_15 : decode cPo_moveOfMan 15 = .ok (.iload 4, 2) := by decide +kernel
theorem dPo_moveOfMan_17 : decode cPo_moveOfMan 17 = .ok (.istore 5, 2) := by decide +kernel
theorem dPo_moveOfMan_19 : decode cPo_moveOfMan 19 = .ok (.aload_n 0, 1) := by decide +kernel
theorem dPo_moveOfMan_20 : decode cPo_moveOfMan 20 = .ok (.iload_n 1, 1) := by decide +kernel
theorem dPo_moveOfMan_21 : decode cPo_moveOfMan 21 = .ok (.invokevirtual 137, 3) := by decide +kernel
theorem dPo_moveOfMan_24 : decode cPo_moveOfMan 24 = .ok (.ifCond .eq 12, 3) := by decide +kernel
theorem dPo_moveOfMan_27 : decode cPo_moveOfMan 27 = .ok (.iconst 2, 1) := by decide +kernel
theorem dPo_moveOfMan_28 : decode cPo_moveOfMan 28 = .ok (.iload 4, 2) := by decide +kernel
theorem dPo_moveOfMan_30 : decode cPo_moveOfMan 30 = .ok (.iconst 4, 1) := by decide +kernel
theorem dPo_moveOfMan_31 : decode cPo_moveOfMan 31 = .ok (.irem, 1) := by decide +kernel
theorem dPo_moveOfMan_32 : decode cPo_moveOfMan 32 = .ok (.iadd, 1) := by decide +kernel
theorem dPo_moveOfMan_33 : decode cPo_moveOfMan 33 = .ok (.goto 4, 3) := by decide +kernel
theorem dPo_moveOfMan_36 : decode cPo_moveOfMan 36 = .ok (.iconst 0, 1) := by decide +kernel
theorem dPo_moveOfMan_37 : decode cPo_moveOfMan 37 = .ok (.istore 6, 2) := by decide +kernel
theorem dPo_moveOfMan_39 : decode cPo_moveOfMan 39 = .ok (.lload_n 2, 1) := by decide +kernel
theorem dPo_moveOfMan_40 : decode cPo_moveOfMan 40 = .ok (.lstore 7, 2) := by decide +kernel
theorem dPo_moveOfMan_42 : decode cPo_moveOfMan 42 = .ok (.iconst 0, 1) := by decide +kernel
theorem dPo_moveOfMan_43 : decode cPo_moveOfMan 43 = .ok (.istore 9, 2) := by decide +kernel
theorem dPo_moveOfMan_45 : decode cPo_moveOfMan 45 = .ok (.iload 9, 2) := by decide +kernel
theorem dPo_moveOfMan_47 : decode cPo_moveOfMan 47 = .ok (.iload 5, 2) := by decide +kernel
theorem dPo_moveOfMan_49 : decode cPo_moveOfMan 49 = .ok (.if_icmp .ge 18, 3) := by decide +kernel
theorem dPo_moveOfMan_52 : decode cPo_moveOfMan 52 = .ok (.lload 7, 2) := by decide +kernel
theorem dPo_moveOfMan_54 : decode cPo_moveOfMan 54 = .ok (.lload 7, 2) := by decide +kernel
theorem dPo_moveOfMan_56 : decode cPo_moveOfMan 56 = .ok (.lconst 1, 1) := by decide +kernel
theorem dPo_moveOfMan_57 : decode cPo_moveOfMan 57 = .ok (.lsub, 1) := by decide +kernel
theorem dPo_moveOfMan_58 : decode cPo_moveOfMan 58 = .ok (.land, 1) := by decide +kernel
theorem dPo_moveOfMan_59 : decode cPo_moveOfMan 59 = .ok (.lstore 7, 2) := by decide +kernel
theorem dPo_moveOfMan_61 : decode cPo_moveOfMan 61 = .ok (.iinc 9 1, 3) := by decide +kernel
theorem dPo_moveOfMan_64 : decode cPo_moveOfMan 64 = .ok (.goto (-19), 3) := by decide +kernel
theorem dPo_moveOfMan_67 : decode cPo_moveOfMan 67 = .ok (.iload_n 1, 1) := by decide +kernel
theorem dPo_moveOfMan_68 : decode cPo_moveOfMan 68 = .ok (.bipush 64, 2) := by decide +kernel
theorem dPo_moveOfMan_70 : decode cPo_moveOfMan 70 = .ok (.lload 7, 2) := by decide +kernel
theorem dPo_moveOfMan_72 : decode cPo_moveOfMan 72 = .ok (.invokestatic 63, 3) := by decide +kernel
theorem dPo_moveOfMan_75 : decode cPo_moveOfMan 75 = .ok (.imul, 1) := by decide +kernel
theorem dPo_moveOfMan_76 : decode cPo_moveOfMan 76 = .ok (.iadd, 1) := by decide +kernel
theorem dPo_moveOfMan_77 : decode cPo_moveOfMan 77 = .ok (.sipush 4096, 3) := by decide +kernel
theorem dPo_moveOfMan_80 : decode cPo_moveOfMan 80 = .ok (.iload 6, 2) := by decide +kernel
theorem dPo_moveOfMan_82 : decode cPo_moveOfMan 82 = .ok (.imul, 1) := by decide +kernel
theorem dPo_moveOfMan_83 : decode cPo_moveOfMan 83 = .ok (.iadd, 1) := by decide +kernel
theorem dPo_moveOfMan_84 : decode cPo_moveOfMan 84 = .ok (.ireturn, 1) := by decide +kernel

def f_Po_moveOfMan_45 (oS_board : St_Bo) (oS_side : Int32) (fr : Int32) (targets : Int64) (k : Int32) (k0_17 : Int32) (k0_37 : Int32) : Nat → Int64 → Int32 → Int32
  | 0 => fun _ _ => 0
  | n_45 + 1 => fun v7_45 v9_45 => (if k0_17 ≤ v9_45 then (fr + (64 * (f_Ch_lowestSquare v7_45))) + (4096 * k0_37) else (f_Po_moveOfMan_45 oS_board oS_side fr targets k k0_17 k0_37 n_45) (v7_45 &&& (v7_45 - 1)) (v9_45 + 1))
theorem f_Po_moveOfMan_45_eq (oS_board : St_Bo) (oS_side : Int32) (fr : Int32) (targets : Int64) (k : Int32) (k0_17 : Int32) (k0_37 : Int32) (n_45 : Nat) (v7_45 : Int64) (v9_45 : Int32) : f_Po_moveOfMan_45 oS_board oS_side fr targets k k0_17 k0_37 (n_45 + 1) v7_45 v9_45 =
  (if k0_17 ≤ v9_45 then (fr + (64 * (f_Ch_lowestSquare v7_45))) + (4096 * k0_37) else (f_Po_moveOfMan_45 oS_board oS_side fr targets k k0_17 k0_37 n_45) (v7_45 &&& (v7_45 - 1)) (v9_45 + 1)) := rfl

def f_Po_moveOfMan_37 (oS_board : St_Bo) (oS_side : Int32) (fr : Int32) (targets : Int64) (k : Int32) (k0_17 : Int32) (k0_37 : Int32) : Int32 :=
  f_Po_moveOfMan_45 oS_board oS_side fr targets k k0_17 k0_37 (((k0_17 : Int32).toInt - 0).toNat + 1) targets 0
theorem f_Po_moveOfMan_37_eq (oS_board : St_Bo) (oS_side : Int32) (fr : Int32) (targets : Int64) (k : Int32) (k0_17 : Int32) (k0_37 : Int32) : f_Po_moveOfMan_37 oS_board oS_side fr targets k k0_17 k0_37 =
  f_Po_moveOfMan_45 oS_board oS_side fr targets k k0_17 k0_37 (((k0_17 : Int32).toInt - 0).toNat + 1) targets 0 := rfl

def f_Po_moveOfMan_17 (oS_board : St_Bo) (oS_side : Int32) (fr : Int32) (targets : Int64) (k : Int32) (k0_17 : Int32) : Int32 :=
  (if (f_Po_becomesAnother oS_board oS_side fr) = 0 then f_Po_moveOfMan_37 oS_board oS_side fr targets k k0_17 0 else f_Po_moveOfMan_37 oS_board oS_side fr targets k k0_17 (2 + (k - k / 4 * 4)))
theorem f_Po_moveOfMan_17_eq (oS_board : St_Bo) (oS_side : Int32) (fr : Int32) (targets : Int64) (k : Int32) (k0_17 : Int32) : f_Po_moveOfMan_17 oS_board oS_side fr targets k k0_17 =
  (if (f_Po_becomesAnother oS_board oS_side fr) = 0 then f_Po_moveOfMan_37 oS_board oS_side fr targets k k0_17 0 else f_Po_moveOfMan_37 oS_board oS_side fr targets k k0_17 (2 + (k - k / 4 * 4))) := rfl

def f_Po_moveOfMan (oS_board : St_Bo) (oS_side : Int32) (fr : Int32) (targets : Int64) (k : Int32) : Int32 :=
  (if (f_Po_becomesAnother oS_board oS_side fr) = 0 then f_Po_moveOfMan_17 oS_board oS_side fr targets k k else f_Po_moveOfMan_17 oS_board oS_side fr targets k (k / 4))
theorem f_Po_moveOfMan_eq (oS_board : St_Bo) (oS_side : Int32) (fr : Int32) (targets : Int64) (k : Int32) : f_Po_moveOfMan oS_board oS_side fr targets k =
  (if (f_Po_becomesAnother oS_board oS_side fr) = 0 then f_Po_moveOfMan_17 oS_board oS_side fr targets k k else f_Po_moveOfMan_17 oS_board oS_side fr targets k (k / 4)) := rfl

set_option maxHeartbeats 4000000 in
set_option maxRecDepth 100000 in
theorem c_Po_moveOfMan (l : Launch) (dC : Nat → ClassId) (dI : Nat → Nat → Nat) (cI cJ cC : ClassId) (ad : Nat → Nat) (o o_board o_board_men o_board_sets : Nat) (oS_board : St_Bo) (oS_side : Int32) (oS_rights : Int32) (oS_passed : Int32) (oS_clock : Int32) (oS_number : Int32) (fr : Int32) (targets : Int64) (k : Int32) : Met l yPo_moveOfMan wsPo_moveOfMan { frames := 3, cells := 0, slots := 0, locals := 63 } (roP dC dI (TYS cI cJ cC) [.ref o, .int fr, .long targets, .int k] [(o, .inr (3, [.ref o_board, .int oS_side, .int oS_rights, .int oS_passed, .int oS_clock, .int oS_number])), (o_board, .inr (0, [.ref o_board_men, .ref o_board_sets])), (o_board_men, .inl (cI, 64, .inl oS_board.1)), (o_board_sets, .inl (cJ, 16, .inr (.inl oS_board.2)))] (GS ad)) (vp_Si (fun r => r = f_Po_moveOfMan oS_board oS_side fr targets k)) 0 0 (fun _ => False) := by
  refine Met.ofW (cc := cPo_moveOfMan) (maxL := 10) (ret := (some .int)) (by decide) rfl ?_
  intro p e s m args below meth c s₁ B hml hv
  obtain ⟨rfl, hP, hK, hG⟩ := hv
  have hx := B.exec
  have hb := B.bytes
  have hr := B.returns
  have hB : ∀ w9 ∈ BIG, w9.before ([.ref o, .int fr, .long targets, .int k]).toArray s = true := fun w9 h => atoms_spec (ws := wsPo_moveOfMan) B.pre w9 (List.mem_cons_of_mem _ h)
  have hown : s.vm.findClass "ChessRules$Position" = some m.cls := findClass_of_methodNamed B.named
  have hlocks := B.notSynchronized
  have hS : va_S (fun _ => False) s.heap s.heap [] := va_S.rf
  have hP : va_P (dC, dI) vwCl [(o, .inr (3, [.ref o_board, .int oS_side, .int oS_rights, .int oS_passed, .int oS_clock, .int oS_number])), (o_board, .inr (0, [.ref o_board_men, .ref o_board_sets])), (o_board_men, .inl (cI, 64, .inl oS_board.1)), (o_board_sets, .inl (cJ, 16, .inr (.inl oS_board.2)))] s.heap := hP
  have hl := lv_entry ([.ref o, .int fr, .long targets, .int k]) (n := 10) (Nat.le_of_ble_eq_true rfl)
  rw [lg_entry_eq]
  generalize (lg_sl ([.ref o, .int fr, .long targets, .int k]) ++ List.replicate (10 - (lg_sl ([.ref o, .int fr, .long targets, .int k])).length) Slot.unset).toArray = ls at hl ⊢
  have hl : lv_has ls 10 [(0, .ref o), (1, .int fr), (2, .long targets), (4, .int k)] := hl
  refine lv_aload_n hx hb dPo_moveOfMan_0 rfl (lv_at hl 0 rfl) ?_
  refine lv_iload_n hx hb dPo_moveOfMan_1 rfl (lv_at hl 1 rfl) ?_
  refine ro_goi (va_runV (C := "ChessRules$Position") (As := [.int fr]) (rest := []) ⟨hx, hb, hml, hown, hB⟩ (c_Po_becomesAnother l dC dI cI cJ cC ad o o_board o_board_men o_board_sets oS_board oS_side oS_rights oS_passed oS_clock oS_number fr) ⟨callB_of 1 hB (big_self q3_134) rfl rfl rfl (hB _ q1_4) (hB _ q3_131) (by decide +kernel) ⟨Nat.le_of_ble_eq_true rfl, Nat.le_of_ble_eq_true rfl⟩, (hB _ q3_133), (hB _ qs3_15)⟩ (ro_preV (GS_ok ad) hK hP hG hS [0, 1, 2, 3] rfl (va_recv hK hP (ci := 3) (q0 := 0) rfl rfl)) rfl rfl hl.1 rfl (lv_room (Nat.le_of_ble_eq_true rfl)) dPo_moveOfMan_2 ⟨Nat.le_of_ble_eq_true rfl, Nat.le_of_ble_eq_true rfl⟩) ?_
  have J_17 : ∀ (k0_17 : Int32), f_Po_moveOfMan oS_board oS_side fr targets k = f_Po_moveOfMan_17 oS_board oS_side fr targets k k0_17 → ∀ ls : Array Slot, lv_has ls 10 [(0, .ref o), (1, .int fr), (2, .long targets), (4, .int k)] → W p l e (headSpec wsPo_moveOfMan { frames := 3, cells := 0, slots := 0, locals := 63 }).room s m ([.ref o, .int fr, .long targets, .int k]).toArray below meth c s.heap [] 0 0 (MQ below (vp_Si (fun r => r = f_Po_moveOfMan oS_board oS_side fr targets k)) ([.ref o, .int fr, .long targets, .int k]).toArray s 0 0 (fun _ => False)) (F0 m 17 ls [.int k0_17]) := by
    intro k0_17 he_17 ls hl
    refine lv_istore (lv' := [(5, .int k0_17), (0, .ref o), (1, .int fr), (2, .long targets), (4, .int k)]) hx hb dPo_moveOfMan_17 hl (by decide) rfl (fun ls hl => ?_)
    refine lv_aload_n hx hb dPo_moveOfMan_19 rfl (lv_at hl 1 rfl) ?_
    refine lv_iload_n hx hb dPo_moveOfMan_20 rfl (lv_at hl 2 rfl) ?_
    refine ro_goi (va_runV (C := "ChessRules$Position") (As := [.int fr]) (rest := []) ⟨hx, hb, hml, hown, hB⟩ (c_Po_becomesAnother l dC dI cI cJ cC ad o o_board o_board_men o_board_sets oS_board oS_side oS_rights oS_passed oS_clock oS_number fr) ⟨callB_of 1 hB (big_self q3_134) rfl rfl rfl (hB _ q1_4) (hB _ q3_131) (by decide +kernel) ⟨Nat.le_of_ble_eq_true rfl, Nat.le_of_ble_eq_true rfl⟩, (hB _ q3_133), (hB _ qs3_15)⟩ (ro_preV (GS_ok ad) hK hP hG hS [0, 1, 2, 3] rfl (va_recv hK hP (ci := 3) (q0 := 0) rfl rfl)) rfl rfl hl.1 rfl (lv_room (Nat.le_of_ble_eq_true rfl)) dPo_moveOfMan_21 ⟨Nat.le_of_ble_eq_true rfl, Nat.le_of_ble_eq_true rfl⟩) ?_
    have J_37 : ∀ (k0_37 : Int32), f_Po_moveOfMan oS_board oS_side fr targets k = f_Po_moveOfMan_37 oS_board oS_side fr targets k k0_17 k0_37 → ∀ ls : Array Slot, lv_has ls 10 [(1, .int fr), (2, .long targets), (5, .int k0_17)] → W p l e (headSpec wsPo_moveOfMan { frames := 3, cells := 0, slots := 0, locals := 63 }).room s m ([.ref o, .int fr, .long targets, .int k]).toArray below meth c s.heap [] 0 0 (MQ below (vp_Si (fun r => r = f_Po_moveOfMan oS_board oS_side fr targets k)) ([.ref o, .int fr, .long targets, .int k]).toArray s 0 0 (fun _ => False)) (F0 m 37 ls [.int k0_37]) := by
      intro k0_37 he_37 ls hl
      refine lv_istore (lv' := [(6, .int k0_37), (1, .int fr), (2, .long targets), (5, .int k0_17)]) hx hb dPo_moveOfMan_37 hl (by decide) rfl (fun ls hl => ?_)
      refine lv_lload_n hx hb dPo_moveOfMan_39 rfl (lv_at hl 2 rfl) ?_
      refine lv_lstore (lv' := [(7, .long targets), (6, .int k0_37), (1, .int fr), (2, .long targets), (5, .int k0_17)]) hx hb dPo_moveOfMan_40 hl (by decide) rfl (fun ls hl => ?_)
      refine lv_iconst (v := 0) hx hb dPo_moveOfMan_42 (by decide) ?_
      refine lv_istore (lv' := [(9, .int 0), (7, .long targets), (6, .int k0_37), (1, .int fr), (2, .long targets), (5, .int k0_17)]) hx hb dPo_moveOfMan_43 hl (by decide) rfl (fun ls hl => ?_)
      have J_45 : ∀ (n_45 : Nat) (v7_45 : Int64) (v9_45 : Int32), f_Po_moveOfMan oS_board oS_side fr targets k = f_Po_moveOfMan_45 oS_board oS_side fr targets k k0_17 k0_37 n_45 v7_45 v9_45 → ((0 : Int) ≤ v9_45.toInt ∧ (k0_17 : Int32).toInt - v9_45.toInt + 1 ≤ (n_45 : Int) ∧ (1 : Int) ≤ (n_45 : Int)) → ∀ ls : Array Slot, lv_has ls 10 [(1, .int fr), (5, .int k0_17), (6, .int k0_37), (7, .long v7_45), (9, .int v9_45)] → W p l e (headSpec wsPo_moveOfMan { frames := 3, cells := 0, slots := 0, locals := 63 }).room s m ([.ref o, .int fr, .long targets, .int k]).toArray below meth c s.heap [] 0 0 (MQ below (vp_Si (fun r => r = f_Po_moveOfMan oS_board oS_side fr targets k)) ([.ref o, .int fr, .long targets, .int k]).toArray s 0 0 (fun _ => False)) (F0 m 45 ls []) := by
        intro n_45
        induction n_45 with
        | zero => intro v7_45 v9_45 _ hm_45; exact absurd hm_45 (by omega)
        | succ n_45 ih_45 =>
          intro v7_45 v9_45 he_45 hm_45 ls hl
          refine lv_iload hx hb dPo_moveOfMan_45 (lv_at hl 4 rfl) ?_
          refine lv_iload hx hb dPo_moveOfMan_47 (lv_at hl 1 rfl) ?_
          refine lv_icmp_ge (tgt := 67) hx hb dPo_moveOfMan_49 (by decide) (fun c_1 => ?_) (fun c_1 => ?_)
          · refine lv_iload_n hx hb dPo_moveOfMan_67 rfl (lv_at hl 0 rfl) ?_
            refine lv_bipush (v := 64) hx hb dPo_moveOfMan_68 (by decide) ?_
            refine lv_lload hx hb dPo_moveOfMan_70 (lv_at hl 3 rfl) ?_
            refine ro_goi (va_runSN (As := [.long v7_45]) (rest := [.int 64, .int fr]) ⟨hx, hb, hml, hown, hB⟩ (c_Ch_lowestSquare l dC dI cI cJ cC ad v7_45) ⟨va_cnB 1 hB (big_self q2_218) rfl rfl rfl (hG.1 _ q2_216) (hB _ q1_1) (by decide +kernel) ⟨Nat.le_of_ble_eq_true rfl, Nat.le_of_ble_eq_true rfl⟩, (hB _ q2_217), trivial⟩ (ro_preS (GS_ok ad) hK hP hG hS [] rfl) rfl rfl hl.1 rfl (lv_room (Nat.le_of_ble_eq_true rfl)) dPo_moveOfMan_72 ⟨Nat.le_of_ble_eq_true rfl, Nat.le_of_ble_eq_true rfl⟩) ?_
            refine lv_imul hx hb dPo_moveOfMan_75 ?_
            refine lv_iadd hx hb dPo_moveOfMan_76 ?_
            refine lv_sipush (v := 4096) hx hb dPo_moveOfMan_77 (by decide) ?_
            refine lv_iload hx hb dPo_moveOfMan_80 (lv_at hl 2 rfl) ?_
            refine lv_imul hx hb dPo_moveOfMan_82 ?_
            refine lv_iadd hx hb dPo_moveOfMan_83 ?_
            exact ro_reti hx hb hr hlocks dPo_moveOfMan_84 (Eq.symm (he_45.trans (by rw [f_Po_moveOfMan_45_eq, if_pos c_1] <;> rfl)))
          · refine lv_lload hx hb dPo_moveOfMan_52 (lv_at hl 3 rfl) ?_
            refine lv_lload hx hb dPo_moveOfMan_54 (lv_at hl 3 rfl) ?_
            refine lv_lconst (v := 1) hx hb dPo_moveOfMan_56 (by decide) ?_
            refine lv_lsub hx hb dPo_moveOfMan_57 ?_
            refine lv_land hx hb dPo_moveOfMan_58 ?_
            refine lv_lstore (lv' := [(7, .long (v7_45 &&& (v7_45 - 1))), (1, .int fr), (5, .int k0_17), (6, .int k0_37), (9, .int v9_45)]) hx hb dPo_moveOfMan_59 hl (by decide) rfl (fun ls hl => ?_)
            refine lv_iinc (v := v9_45 + 1) (lv' := [(9, .int (v9_45 + 1)), (7, .long (v7_45 &&& (v7_45 - 1))), (1, .int fr), (5, .int k0_17), (6, .int k0_37)]) hx hb dPo_moveOfMan_61 hl (k := 4) rfl rfl (by decide) rfl (fun ls hl => ?_)
            refine lv_goto (tgt := 45) hx hb dPo_moveOfMan_64 (by decide) ?_
            exact ih_45 (v7_45 &&& (v7_45 - 1)) (v9_45 + 1) (he_45.trans (by rw [f_Po_moveOfMan_45_eq, if_neg c_1] <;> rfl)) (by have z1 := tnle c_1; have zr := i_rng (k0_17 : Int32); have zs := i_succ9 v9_45 (by omega); omega) ls (lv_sub hl [2, 3, 4, 1, 0] rfl)
      exact J_45 (((k0_17 : Int32).toInt - 0).toNat + 1) targets 0 (he_37.trans (by rw [f_Po_moveOfMan_37_eq] <;> rfl)) (by have y0 : (0 : Int32).toInt = 0 := rfl; omega) ls (lv_sub hl [3, 5, 2, 1, 0] rfl)
    refine lv_if_eq (tgt := 36) hx hb dPo_moveOfMan_24 (by decide) (fun c_2 => ?_) (fun c_2 => ?_)
    · refine lv_iconst (v := 0) hx hb dPo_moveOfMan_36 (by decide) ?_
      exact J_37 0 (he_17.trans (by rw [f_Po_moveOfMan_17_eq, if_pos c_2] <;> rfl)) ls (lv_sub hl [2, 3, 0] rfl)
    · refine lv_iconst (v := 2) hx hb dPo_moveOfMan_27 (by decide) ?_
      refine lv_iload hx hb dPo_moveOfMan_28 (lv_at hl 4 rfl) ?_
      refine lv_iconst (v := 4) hx hb dPo_moveOfMan_30 (by decide) ?_
      refine lv_irem hx hb dPo_moveOfMan_31 (by decide) ?_
      refine lv_iadd hx hb dPo_moveOfMan_32 ?_
      refine lv_goto (tgt := 37) hx hb dPo_moveOfMan_33 (by decide) ?_
      exact J_37 (2 + (k - k / 4 * 4)) (he_17.trans (by rw [f_Po_moveOfMan_17_eq, if_neg c_2] <;> rfl)) ls (lv_sub hl [2, 3, 0] rfl)
  refine lv_if_eq (tgt := 15) hx hb dPo_moveOfMan_5 (by decide) (fun c_3 => ?_) (fun c_3 => ?_)
  · refine lv_iload hx hb dPo_moveOfMan_15 (lv_at hl 3 rfl) ?_
    exact J_17 k (by rw [f_Po_moveOfMan_eq, if_pos c_3] <;> rfl) ls (lv_sub hl [0, 1, 2, 3] rfl)
  · refine lv_iload hx hb dPo_moveOfMan_8 (lv_at hl 3 rfl) ?_
    refine lv_iconst (v := 4) hx hb dPo_moveOfMan_10 (by decide) ?_
    refine lv_idiv hx hb dPo_moveOfMan_11 (by decide) ?_
    refine lv_goto (tgt := 17) hx hb dPo_moveOfMan_12 (by decide) ?_
    exact J_17 (k / 4) (by rw [f_Po_moveOfMan_eq, if_neg c_3] <;> rfl) ls (lv_sub hl [0, 1, 2, 3] rfl)

abbrev cPo_moveInOrder : ByteArray := prog_5_method_23_code
def yPo_moveInOrder : MethodName := ⟨"ChessRules$Position", "moveInOrder", "(I)I"⟩
def wsPo_moveInOrder : List Cond := Cond.code yPo_moveInOrder cPo_moveInOrder 12 (some .int) :: BIG
theorem dPo_moveInOrder_0 : decode cPo_moveInOrder 0 = .ok (.aload_n 0, 1) := by decide +kernel
theorem dPo_moveInOrder_1 : decode cPo_moveInOrder 1 = .ok (.invokevirtual 140, 3) := by decide +kernel
theorem dPo_moveInOrder_4 : decode cPo_moveInOrder 4 = .ok (.lstore_n 2, 1) := by decide +kernel
theorem dPo_moveInOrder_5 : decode cPo_moveInOrder 5 = .ok (.aload_n 0, 1) := by decide +kernel
theorem dPo_moveInOrder_6 : decode cPo_moveInOrder 6 = .ok (.getfield 12, 3) := by decide +kernel
theorem dPo_moveInOrder_9 : decode cPo_moveInOrder 9 = .ok (.aload_n 0, 1) := by decide +kernel
theorem dPo_moveInOrder_10 : decode cPo_moveInOrder 10 = .ok (.getfield 18, 3) := by decide +kernel
theorem dPo_moveInOrder_13 : decode cPo_moveInOrder 13 = .ok (.invokevirtual 78, 3) := by decide +kernel
theorem dPo_moveInOrder_16 : decode cPo_moveInOrder 16 = .ok (.lstore 4, 2) := by decide +kernel
theorem dPo_moveInOrder_18 : decode cPo_moveInOrder 18 = .ok (.iconst 0, 1) := by decide +kernel
theorem dPo_moveInOrder_19 : decode cPo_moveInOrder 19 = .ok (.istore 6, 2) := by decide +kernel
theorem dPo_moveInOrder_21 : decode cPo_moveInOrder 21 = .ok (.iconst 0, 1) := by decide +kernel
theorem dPo_moveInOrder_22 : decode cPo_moveInOrder 22 = .ok (.istore 7, 2) := by decide +kernel
theorem dPo_moveInOrder_24 : decode cPo_moveInOrder 24 = .ok (.iload 7, 2) := by decide +kernel
theorem dPo_moveInOrder_26 : decode cPo_moveInOrder 26 = .ok (.bipush 64, 2) := by decide +kernel
theorem dPo_moveInOrder_28 : decode cPo_moveInOrder 28 = .ok (.if_icmp .ge 84, 3) := by decide +kernel
theorem dPo_moveInOrder_31 : decode cPo_moveInOrder 31 = .ok (.lload 4, 2) := by decide +kernel
theorem dPo_moveInOrder_33 : decode cPo_moveInOrder 33 = .ok (.lconst 0, 1) := by decide +kernel
theorem dPo_moveInOrder_34 : decode cPo_moveInOrder 34 = .ok (.lcmp, 1) := by decide +kernel
theorem dPo_moveInOrder_35 : decode cPo_moveInOrder 35 = .ok (.ifCond .eq 77, 3) := by decide +kernel
theorem dPo_moveInOrder_38 : decode cPo_moveInOrder 38 = .ok (.lload 4, 2) := by decide +kernel
theorem dPo_moveInOrder_40 : decode cPo_moveInOrder 40 = .ok (.invokestatic 63, 3) := by decide +kernel
theorem dPo_moveInOrder_43 : decode cPo_moveInOrder 43 = .ok (.istore 8, 2) := by decide +kernel
theorem dPo_moveInOrder_45 : decode cPo_moveInOrder 45 = .ok (.aload_n 0, 1) := by decide +kernel
theorem dPo_moveInOrder_46 : decode cPo_moveInOrder 46 = .ok (.iload 8, 2) := by decide +kernel
theorem dPo_moveInOrder_48 : decode cPo_moveInOrder 48 = .ok (.lload_n 2, 1) := by decide +kernel
theorem dPo_moveInOrder_49 : decode cPo_moveInOrder 49 = .ok (.invokevirtual 143, 3) := by decide +kernel
theorem dPo_moveInOrder_52 : decode cPo_moveInOrder 52 = .ok (.lstore 9, 2) := by decide +kernel
theorem dPo_moveInOrder_54 : decode cPo_moveInOrder 54 = .ok (.lload 9, 2) := by decide +kernel
theorem dPo_moveInOrder_56 : decode cPo_moveInOrder 56 = .ok (.invokestatic 147, 3) := by decide +kernel
theorem dPo_moveInOrder_59 : decode cPo_moveInOrder 59 = .ok (.aload_n 0, 1) := by decide +kernel
theorem dPo_moveInOrder_60 : decode cPo_moveInOrder 60 = .ok (.iload 8, 2) := by decide +kernel
theorem dPo_moveInOrder_62 : decode cPo_moveInOrder 62 = .ok (.invokevirtual 152, 3) := by decide +kernel
theorem dPo_moveInOrder_65 : decode cPo_moveInOrder 65 = .ok (.imul, 1) := by decide +kernel
theorem dPo_moveInOrder_66 : decode cPo_moveInOrder 66 = .ok (.istore 11, 2) := by decide +kernel
theorem dPo_moveInOrder_68 : decode cPo_moveInOrder 68 = .ok (.iload_n 1, 1) := by decide +kernel
theorem dPo_moveInOrder_69 : decode cPo_moveInOrder 69 = .ok (.iload 6, 2) := by decide +kernel
theorem dPo_moveInOrder_71 : decode cPo_moveInOrder 71 = .ok (.iload 11, 2) := by decide +kernel
theorem dPo_moveInOrder_73 : decode cPo_moveInOrder 73 = .ok (.iadd, 1) := by decide +kernel
theorem dPo_moveInOrder_74 : decode cPo_moveInOrder 74 = .ok (.if_icmp .ge 16, 3) := by decide +kernel
theorem dPo_moveInOrder_77 : decode cPo_moveInOrder 77 = .ok (.aload_n 0, 1) := by decide +kernel
theorem dPo_moveInOrder_78 : decode cPo_moveInOrder 78 = .ok (.iload 8, 2) := by decide +kernel
theorem dPo_moveInOrder_80 : decode cPo_moveInOrder 80 = .ok (.lload 9, 2) := by decide +kernel
theorem dPo_moveInOrder_82 : decode cPo_moveInOrder 82 = .ok (.iload_n 1, 1) := by decide +kernel
theorem dPo_moveInOrder_83 : decode cPo_moveInOrder 83 = .ok (.iload 6, 2) := by decide +kernel
theorem dPo_moveInOrder_85 : decode cPo_moveInOrder 85 = .ok (.isub, 1) := by decide +kernel
theorem dPo_moveInOrder_86 : decode cPo_moveInOrder 86 = .ok (.invokevirtual 155, 3) := by decide +kernel
theorem dPo_moveInOrder_89 : decode cPo_moveInOrder 89 = .ok (.ireturn, 1) := by decide +kernel
theorem dPo_moveInOrder_90 : decode cPo_moveInOrder 90 = .ok (.iload 6, 2) := by decide +kernel
theorem dPo_moveInOrder_92 : decode cPo_moveInOrder 92 = .ok (.iload 11, 2) := by decide +kernel
theorem dPo_moveInOrder_94 : decode cPo_moveInOrder 94 = .ok (.iadd, 1) := by decide +kernel
theorem dPo_moveInOrder_95 : decode cPo_moveInOrder 95 = .ok (.istore 6, 2) := by decide +kernel
theorem dPo_moveInOrder_97 : decode cPo_moveInOrder 97 = .ok (.lload 4, 2) := by decide +kernel
theorem dPo_moveInOrder_99 : decode cPo_moveInOrder 99 = .ok (.lload 4, 2) := by decide +kernel
theorem dPo_moveInOrder_101 : decode cPo_moveInOrder 101 = .ok (.lconst 1, 1) := by decide +kernel
theorem dPo_moveInOrder_102 : decode cPo_moveInOrder 102 = .ok (.lsub, 1) := by decide +kernel
theorem dPo_moveInOrder_103 : decode cPo_moveInOrder 103 = .ok (.land, 1) := by decide +kernel
theorem dPo_moveInOrder_104 : decode cPo_moveInOrder 104 = .ok (.lstore 4, 2) := by decide +kernel
theorem dPo_moveInOrder_106 : decode cPo_moveInOrder 106 = .ok (.iinc 7 1, 3) := by decide +kernel
theorem dPo_moveInOrder_109 : decode cPo_moveInOrder 109 = .ok (.goto (-85), 3) := by decide +kernel
theorem dPo_moveInOrder_112 : decode cPo_moveInOrder 112 = .ok (.iconst (-1), 1) := by decide +kernel
theorem dPo_moveInOrder_113 : decode cPo_moveInOrder 113 = .ok (.ireturn, 1) := by decide +kernel

def f_Po_moveInOrder_24 (oS_board : St_Bo) (oS_side : Int32) (oS_rights : Int32) (oS_passed : Int32) (k : Int32) : Nat → Int64 → Int32 → Int32 → Int32
  | 0 => fun _ _ _ => 0
  | n_24 + 1 => fun v4_24 v6_24 v7_24 => (if 64 ≤ v7_24 then (-1) else (if v4_24 = 0 then (-1) else (if (v6_24 + ((f_Lo_bitCount (f_Po_legalTargets oS_board oS_side oS_rights oS_passed (f_Ch_lowestSquare v4_24) (f_Po_exposed oS_board oS_side oS_passed))) * (f_Po_movesToOneTarget oS_board oS_side (f_Ch_lowestSquare v4_24)))) ≤ k then (f_Po_moveInOrder_24 oS_board oS_side oS_rights oS_passed k n_24) (v4_24 &&& (v4_24 - 1)) (v6_24 + ((f_Lo_bitCount (f_Po_legalTargets oS_board oS_side oS_rights oS_passed (f_Ch_lowestSquare v4_24) (f_Po_exposed oS_board oS_side oS_passed))) * (f_Po_movesToOneTarget oS_board oS_side (f_Ch_lowestSquare v4_24)))) (v7_24 + 1) else f_Po_moveOfMan oS_board oS_side (f_Ch_lowestSquare v4_24) (f_Po_legalTargets oS_board oS_side oS_rights oS_passed (f_Ch_lowestSquare v4_24) (f_Po_exposed oS_board oS_side oS_passed)) (k - v6_24))))
theorem f_Po_moveInOrder_24_eq (oS_board : St_Bo) (oS_side : Int32) (oS_rights : Int32) (oS_passed : Int32) (k : Int32) (n_24 : Nat) (v4_24 : Int64) (v6_24 : Int32) (v7_24 : Int32) : f_Po_moveInOrder_24 oS_board oS_side oS_rights oS_passed k (n_24 + 1) v4_24 v6_24 v7_24 =
  (if 64 ≤ v7_24 then (-1) else (if v4_24 = 0 then (-1) else (if (v6_24 + ((f_Lo_bitCount (f_Po_legalTargets oS_board oS_side oS_rights oS_passed (f_Ch_lowestSquare v4_24) (f_Po_exposed oS_board oS_side oS_passed))) * (f_Po_movesToOneTarget oS_board oS_side (f_Ch_lowestSquare v4_24)))) ≤ k then (f_Po_moveInOrder_24 oS_board oS_side oS_rights oS_passed k n_24) (v4_24 &&& (v4_24 - 1)) (v6_24 + ((f_Lo_bitCount (f_Po_legalTargets oS_board oS_side oS_rights oS_passed (f_Ch_lowestSquare v4_24) (f_Po_exposed oS_board oS_side oS_passed))) * (f_Po_movesToOneTarget oS_board oS_side (f_Ch_lowestSquare v4_24)))) (v7_24 + 1) else f_Po_moveOfMan oS_board oS_side (f_Ch_lowestSquare v4_24) (f_Po_legalTargets oS_board oS_side oS_rights oS_passed (f_Ch_lowestSquare v4_24) (f_Po_exposed oS_board oS_side oS_passed)) (k - v6_24)))) := rfl

def f_Po_moveInOrder (oS_board : St_Bo) (oS_side : Int32) (oS_rights : Int32) (oS_passed : Int32) (k : Int32) : Int32 :=
  f_Po_moveInOrder_24 oS_board oS_side oS_rights oS_passed k (65) (f_Bo_allOf oS_board.2 oS_side) 0 0
theorem f_Po_moveInOrder_eq (oS_board : St_Bo) (oS_side : Int32) (oS_rights : Int32) (oS_passed : Int32) (k : Int32) : f_Po_moveInOrder oS_board oS_side oS_rights oS_passed k =
  f_Po_moveInOrder_24 oS_board oS_side oS_rights oS_passed k (65) (f_Bo_allOf oS_board.2 oS_side) 0 0 := rfl

set_option maxHeartbeats 4000000 in
set_option maxRecDepth 100000 in
theorem c_Po_moveInOrder (l : Launch) (dC : Nat → ClassId) (dI : Nat → Nat → Nat) (cI cJ cC : ClassId) (ad : Nat → Nat) (o o_board o_board_men o_board_sets : Nat) (oS_board : St_Bo) (oS_side : Int32) (oS_rights : Int32) (oS_passed : Int32) (oS_clock : Int32) (oS_number : Int32) (k : Int32) : Met l yPo_moveInOrder wsPo_moveInOrder { frames := 5, cells := 0, slots := 0, locals := 137 } (roP dC dI (TYS cI cJ cC) [.ref o, .int k] [(o, .inr (3, [.ref o_board, .int oS_side, .int oS_rights, .int oS_passed, .int oS_clock, .int oS_number])), (o_board, .inr (0, [.ref o_board_men, .ref o_board_sets])), (o_board_men, .inl (cI, 64, .inl oS_board.1)), (o_board_sets, .inl (cJ, 16, .inr (.inl oS_board.2)))] (GS ad)) (vp_Si (fun r => r = f_Po_moveInOrder oS_board oS_side oS_rights oS_passed k)) 0 0 (fun _ => False) := by
  refine Met.ofW (cc := cPo_moveInOrder) (maxL := 12) (ret := (some .int)) (by decide) rfl ?_
  intro p e s m args below meth c s₁ B hml hv
  obtain ⟨rfl, hP, hK, hG⟩ := hv
  have hx := B.exec
  have hb := B.bytes
  have hr := B.returns
  have hB : ∀ w9 ∈ BIG, w9.before ([.ref o, .int k]).toArray s = true := fun w9 h => atoms_spec (ws := wsPo_moveInOrder) B.pre w9 (List.mem_cons_of_mem _ h)
  have hown : s.vm.findClass "ChessRules$Position" = some m.cls := findClass_of_methodNamed B.named
  have hlocks := B.notSynchronized
  have hS : va_S (fun _ => False) s.heap s.heap [] := va_S.rf
  have hP : va_P (dC, dI) vwCl [(o, .inr (3, [.ref o_board, .int oS_side, .int oS_rights, .int oS_passed, .int oS_clock, .int oS_number])), (o_board, .inr (0, [.ref o_board_men, .ref o_board_sets])), (o_board_men, .inl (cI, 64, .inl oS_board.1)), (o_board_sets, .inl (cJ, 16, .inr (.inl oS_board.2)))] s.heap := hP
  have hl := lv_entry ([.ref o, .int k]) (n := 12) (Nat.le_of_ble_eq_true rfl)
  rw [lg_entry_eq]
  generalize (lg_sl ([.ref o, .int k]) ++ List.replicate (12 - (lg_sl ([.ref o, .int k])).length) Slot.unset).toArray = ls at hl ⊢
  have hl : lv_has ls 12 [(0, .ref o), (1, .int k)] := hl
  refine lv_aload_n hx hb dPo_moveInOrder_0 rfl (lv_at hl 0 rfl) ?_
  refine ro_gol (va_runV (C := "ChessRules$Position") (As := []) (rest := []) ⟨hx, hb, hml, hown, hB⟩ (c_Po_exposed l dC dI cI cJ cC ad o o_board o_board_men o_board_sets oS_board oS_side oS_rights oS_passed oS_clock oS_number) ⟨callB_of 0 hB (big_self q3_78) rfl rfl rfl (hB _ q1_4) (hB _ q3_75) (by decide +kernel) ⟨Nat.le_of_ble_eq_true rfl, Nat.le_of_ble_eq_true rfl⟩, (hB _ q3_77), (hB _ qs3_6)⟩ (ro_preV (GS_ok ad) hK hP hG hS [0, 1, 2, 3] rfl (va_recv hK hP (ci := 3) (q0 := 0) rfl rfl)) rfl rfl hl.1 rfl (lv_room (Nat.le_of_ble_eq_true rfl)) dPo_moveInOrder_1 ⟨Nat.le_of_ble_eq_true rfl, Nat.le_of_ble_eq_true rfl⟩) ?_
  refine lv_lstore_n (lv' := [(2, .long (f_Po_exposed oS_board oS_side oS_passed)), (0, .ref o), (1, .int k)]) hx hb dPo_moveInOrder_4 rfl hl (by decide) rfl (fun ls hl => ?_)
  refine lv_aload_n hx hb dPo_moveInOrder_5 rfl (lv_at hl 1 rfl) ?_
  refine va_get (D := (dC, dI)) (ci := 3) (v := .ref o_board) (C := RPo) (T := TPo) (N := 6) hx hb hB inPo hown hK hP 0 rfl rfl 0 (by decide) (hB _ q1_77) (fun _ h9 => h9) rfl dPo_moveInOrder_6 ?_
  refine lv_aload_n hx hb dPo_moveInOrder_9 rfl (lv_at hl 1 rfl) ?_
  refine va_get (D := (dC, dI)) (ci := 3) (v := .int oS_side) (C := RPo) (T := TPo) (N := 6) hx hb hB inPo hown hK hP 0 rfl rfl 1 (by decide) (hB _ q1_83) (fun _ h9 => h9) rfl dPo_moveInOrder_10 ?_
  refine ro_gol (va_runVN (C := "ChessRules$Board") (As := [.int oS_side]) (rest := []) ⟨hx, hb, hml, hown, hB⟩ (c_Bo_allOf l dC dI cI cJ cC ad o_board o_board_men o_board_sets oS_board.1 oS_board.2 oS_side) ⟨va_cnB 1 hB (big_self q3_83) rfl rfl rfl (hG.1 _ q3_80) (hB _ q1_5) (by decide +kernel) ⟨Nat.le_of_ble_eq_true rfl, Nat.le_of_ble_eq_true rfl⟩, (hB _ q3_82), (hB _ qs3_7)⟩ (ro_preV (GS_ok ad) hK hP hG hS [1, 2, 3] rfl (va_recv hK hP (ci := 0) (q0 := 1) rfl rfl)) rfl rfl hl.1 rfl (lv_room (Nat.le_of_ble_eq_true rfl)) dPo_moveInOrder_13 ⟨Nat.le_of_ble_eq_true rfl, Nat.le_of_ble_eq_true rfl⟩) ?_
  refine lv_lstore (lv' := [(4, .long (f_Bo_allOf oS_board.2 oS_side)), (2, .long (f_Po_exposed oS_board oS_side oS_passed)), (0, .ref o), (1, .int k)]) hx hb dPo_moveInOrder_16 hl (by decide) rfl (fun ls hl => ?_)
  refine lv_iconst (v := 0) hx hb dPo_moveInOrder_18 (by decide) ?_
  refine lv_istore (lv' := [(6, .int 0), (4, .long (f_Bo_allOf oS_board.2 oS_side)), (2, .long (f_Po_exposed oS_board oS_side oS_passed)), (0, .ref o), (1, .int k)]) hx hb dPo_moveInOrder_19 hl (by decide) rfl (fun ls hl => ?_)
  refine lv_iconst (v := 0) hx hb dPo_moveInOrder_21 (by decide) ?_
  refine lv_istore (lv' := [(7, .int 0), (6, .int 0), (4, .long (f_Bo_allOf oS_board.2 oS_side)), (2, .long (f_Po_exposed oS_board oS_side oS_passed)), (0, .ref o), (1, .int k)]) hx hb dPo_moveInOrder_22 hl (by decide) rfl (fun ls hl => ?_)
  have J_24 : ∀ (n_24 : Nat) (v4_24 : Int64) (v6_24 : Int32) (v7_24 : Int32), f_Po_moveInOrder oS_board oS_side oS_rights oS_passed k = f_Po_moveInOrder_24 oS_board oS_side oS_rights oS_passed k n_24 v4_24 v6_24 v7_24 → ((0 : Int) ≤ v7_24.toInt ∧ (64 : Int32).toInt - v7_24.toInt + 1 ≤ (n_24 : Int) ∧ (1 : Int) ≤ (n_24 : Int)) → ∀ ls : Array Slot, lv_has ls 12 [(0, .ref o), (1, .int k), (2, .long (f_Po_exposed oS_board oS_side oS_passed)), (4, .long v4_24), (6, .int v6_24), (7, .int v7_24)] → W p l e (headSpec wsPo_moveInOrder { frames := 5, cells := 0, slots := 0, locals := 137 }).room s m ([.ref o, .int k]).toArray below meth c s.heap [] 0 0 (MQ below (vp_Si (fun r => r = f_Po_moveInOrder oS_board oS_side oS_rights oS_passed k)) ([.ref o, .int k]).toArray s 0 0 (fun _ => False)) (F0 m 24 ls []) := by
    intro n_24
    induction n_24 with
    | zero => intro v4_24 v6_24 v7_24 _ hm_24; exact absurd hm_24 (by omega)
    | succ n_24 ih_24 =>
      intro v4_24 v6_24 v7_24 he_24 hm_24 ls hl
      refine lv_iload hx hb dPo_moveInOrder_24 (lv_at hl 5 rfl) ?_
      refine lv_bipush (v := 64) hx hb dPo_moveInOrder_26 (by decide) ?_
      refine lv_icmp_ge (tgt := 112) hx hb dPo_moveInOrder_28 (by decide) (fun c_1 => ?_) (fun c_1 => ?_)
      · refine lv_iconst (v := (-1)) hx hb dPo_moveInOrder_112 (by decide) ?_
        exact ro_reti hx hb hr hlocks dPo_moveInOrder_113 (Eq.symm (he_24.trans (by rw [f_Po_moveInOrder_24_eq, if_pos c_1] <;> rfl)))
      · refine lv_lload hx hb dPo_moveInOrder_31 (lv_at hl 3 rfl) ?_
        refine lv_lconst (v := 0) hx hb dPo_moveInOrder_33 (by decide) ?_
        refine W.lcmp hx hb dPo_moveInOrder_34 ?_
        refine lv_if_eq (tgt := 112) hx hb dPo_moveInOrder_35 (by decide) (fun q => let_c (h := v4_24 = 0) (lgc_eq.1 q) (fun c_2 => ?_)) (fun q => let_c (h := ¬ v4_24 = 0) (lgc_eq.2 q) (fun c_2 => ?_))
        · refine lv_iconst (v := (-1)) hx hb dPo_moveInOrder_112 (by decide) ?_
          exact ro_reti hx hb hr hlocks dPo_moveInOrder_113 (Eq.symm (he_24.trans (by rw [f_Po_moveInOrder_24_eq, if_neg c_1, if_pos c_2] <;> rfl)))
        · refine lv_lload hx hb dPo_moveInOrder_38 (lv_at hl 3 rfl) ?_
          refine ro_goi (va_runSN (As := [.long v4_24]) (rest := []) ⟨hx, hb, hml, hown, hB⟩ (c_Ch_lowestSquare l dC dI cI cJ cC ad v4_24) ⟨va_cnB 1 hB (big_self q2_218) rfl rfl rfl (hG.1 _ q2_216) (hB _ q1_1) (by decide +kernel) ⟨Nat.le_of_ble_eq_true rfl, Nat.le_of_ble_eq_true rfl⟩, (hB _ q2_217), trivial⟩ (ro_preS (GS_ok ad) hK hP hG hS [] rfl) rfl rfl hl.1 rfl (lv_room (Nat.le_of_ble_eq_true rfl)) dPo_moveInOrder_40 ⟨Nat.le_of_ble_eq_true rfl, Nat.le_of_ble_eq_true rfl⟩) ?_
          refine lv_istore (lv' := [(8, .int (f_Ch_lowestSquare v4_24)), (0, .ref o), (1, .int k), (2, .long (f_Po_exposed oS_board oS_side oS_passed)), (4, .long v4_24), (6, .int v6_24), (7, .int v7_24)]) hx hb dPo_moveInOrder_43 hl (by decide) rfl (fun ls hl => ?_)
          refine lv_aload_n hx hb dPo_moveInOrder_45 rfl (lv_at hl 1 rfl) ?_
          refine lv_iload hx hb dPo_moveInOrder_46 (lv_at hl 0 rfl) ?_
          refine lv_lload_n hx hb dPo_moveInOrder_48 rfl (lv_at hl 3 rfl) ?_
          refine ro_gol (va_runV (C := "ChessRules$Position") (As := [.int (f_Ch_lowestSquare v4_24), .long (f_Po_exposed oS_board oS_side oS_passed)]) (rest := []) ⟨hx, hb, hml, hown, hB⟩ (c_Po_legalTargets l dC dI cI cJ cC ad o o_board o_board_men o_board_sets oS_board oS_side oS_rights oS_passed oS_clock oS_number (f_Ch_lowestSquare v4_24) (f_Po_exposed oS_board oS_side oS_passed)) ⟨callB_of 2 hB (big_self q3_92) rfl rfl rfl (hB _ q1_4) (hB _ q3_89) (by decide +kernel) ⟨Nat.le_of_ble_eq_true rfl, Nat.le_of_ble_eq_true rfl⟩, (hB _ q3_91), (hB _ qs3_9)⟩ (ro_preV (GS_ok ad) hK hP hG hS [0, 1, 2, 3] rfl (va_recv hK hP (ci := 3) (q0 := 0) rfl rfl)) rfl rfl hl.1 rfl (lv_room (Nat.le_of_ble_eq_true rfl)) dPo_moveInOrder_49 ⟨Nat.le_of_ble_eq_true rfl, Nat.le_of_ble_eq_true rfl⟩) ?_
          refine lv_lstore (lv' := [(9, .long (f_Po_legalTargets oS_board oS_side oS_rights oS_passed (f_Ch_lowestSquare v4_24) (f_Po_exposed oS_board oS_side oS_passed))), (8, .int (f_Ch_lowestSquare v4_24)), (0, .ref o), (1, .int k), (2, .long (f_Po_exposed oS_board oS_side oS_passed)), (4, .long v4_24), (6, .int v6_24), (7, .int v7_24)]) hx hb dPo_moveInOrder_52 hl (by decide) rfl (fun ls hl => ?_)
          refine lv_lload hx hb dPo_moveInOrder_54 (lv_at hl 0 rfl) ?_
          refine ro_goi (va_runS (As := [.long (f_Po_legalTargets oS_board oS_side oS_rights oS_passed (f_Ch_lowestSquare v4_24) (f_Po_exposed oS_board oS_side oS_passed))]) (rest := []) ⟨hx, hb, hml, hown, hB⟩ (c_Lo_bitCount l dC dI cI cJ cC ad (f_Po_legalTargets oS_board oS_side oS_rights oS_passed (f_Ch_lowestSquare v4_24) (f_Po_exposed oS_board oS_side oS_passed))) ⟨callB_of 1 hB (big_self q2_115) rfl rfl rfl (hB _ q1_13) (hB _ q3_126) (by decide +kernel) ⟨Nat.le_of_ble_eq_true rfl, Nat.le_of_ble_eq_true rfl⟩, (hB _ q2_114)⟩ (ro_preS (GS_ok ad) hK hP hG hS [] rfl) rfl rfl hl.1 rfl (lv_room (Nat.le_of_ble_eq_true rfl)) dPo_moveInOrder_56 ⟨Nat.le_of_ble_eq_true rfl, Nat.le_of_ble_eq_true rfl⟩) ?_
          refine lv_aload_n hx hb dPo_moveInOrder_59 rfl (lv_at hl 2 rfl) ?_
          refine lv_iload hx hb dPo_moveInOrder_60 (lv_at hl 1 rfl) ?_
          refine ro_goi (va_runV (C := "ChessRules$Position") (As := [.int (f_Ch_lowestSquare v4_24)]) (rest := [.int (f_Lo_bitCount (f_Po_legalTargets oS_board oS_side oS_rights oS_passed (f_Ch_lowestSquare v4_24) (f_Po_exposed oS_board oS_side oS_passed)))]) ⟨hx, hb, hml, hown, hB⟩ (c_Po_movesToOneTarget l dC dI cI cJ cC ad o o_board o_board_men o_board_sets oS_board oS_side oS_rights oS_passed oS_clock oS_number (f_Ch_lowestSquare v4_24)) ⟨callB_of 1 hB (big_self q3_130) rfl rfl rfl (hB _ q1_4) (hB _ q3_127) (by decide +kernel) ⟨Nat.le_of_ble_eq_true rfl, Nat.le_of_ble_eq_true rfl⟩, (hB _ q3_129), (hB _ qs3_14)⟩ (ro_preV (GS_ok ad) hK hP hG hS [0, 1, 2, 3] rfl (va_recv hK hP (ci := 3) (q0 := 0) rfl rfl)) rfl rfl hl.1 rfl (lv_room (Nat.le_of_ble_eq_true rfl)) dPo_moveInOrder_62 ⟨Nat.le_of_ble_eq_true rfl, Nat.le_of_ble_eq_true rfl⟩) ?_
          refine lv_imul hx hb dPo_moveInOrder_65 ?_
          refine lv_istore (lv' := [(11, .int ((f_Lo_bitCount (f_Po_legalTargets oS_board oS_side oS_rights oS_passed (f_Ch_lowestSquare v4_24) (f_Po_exposed oS_board oS_side oS_passed))) * (f_Po_movesToOneTarget oS_board oS_side (f_Ch_lowestSquare v4_24)))), (9, .long (f_Po_legalTargets oS_board oS_side oS_rights oS_passed (f_Ch_lowestSquare v4_24) (f_Po_exposed oS_board oS_side oS_passed))), (8, .int (f_Ch_lowestSquare v4_24)), (0, .ref o), (1, .int k), (2, .long (f_Po_exposed oS_board oS_side oS_passed)), (4, .long v4_24), (6, .int v6_24), (7, .int v7_24)]) hx hb dPo_moveInOrder_66 hl (by decide) rfl (fun ls hl => ?_)
          refine lv_iload_n hx hb dPo_moveInOrder_68 rfl (lv_at hl 4 rfl) ?_
          refine lv_iload hx hb dPo_moveInOrder_69 (lv_at hl 7 rfl) ?_
          refine lv_iload hx hb dPo_moveInOrder_71 (lv_at hl 0 rfl) ?_
          refine lv_iadd hx hb dPo_moveInOrder_73 ?_
          refine lv_icmp_ge (tgt := 90) hx hb dPo_moveInOrder_74 (by decide) (fun c_3 => ?_) (fun c_3 => ?_)
          · refine lv_iload hx hb dPo_moveInOrder_90 (lv_at hl 7 rfl) ?_
            refine lv_iload hx hb dPo_moveInOrder_92 (lv_at hl 0 rfl) ?_
            refine lv_iadd hx hb dPo_moveInOrder_94 ?_
            refine lv_istore (lv' := [(6, .int (v6_24 + ((f_Lo_bitCount (f_Po_legalTargets oS_board oS_side oS_rights oS_passed (f_Ch_lowestSquare v4_24) (f_Po_exposed oS_board oS_side oS_passed))) * (f_Po_movesToOneTarget oS_board oS_side (f_Ch_lowestSquare v4_24))))), (11, .int ((f_Lo_bitCount (f_Po_legalTargets oS_board oS_side oS_rights oS_passed (f_Ch_lowestSquare v4_24) (f_Po_exposed oS_board oS_side oS_passed))) * (f_Po_movesToOneTarget oS_board oS_side (f_Ch_lowestSquare v4_24)))), (9, .long (f_Po_legalTargets oS_board oS_side oS_rights oS_passed (f_Ch_lowestSquare v4_24) (f_Po_exposed oS_board oS_side oS_passed))), (8, .int (f_Ch_lowestSquare v4_24)), (0, .ref o), (1, .int k), (2, .long (f_Po_exposed oS_board oS_side oS_passed)), (4, .long v4_24), (7, .int v7_24)]) hx hb dPo_moveInOrder_95 hl (by decide) rfl (fun ls hl => ?_)
            refine lv_lload hx hb dPo_moveInOrder_97 (lv_at hl 7 rfl) ?_
            refine lv_lload hx hb dPo_moveInOrder_99 (lv_at hl 7 rfl) ?_
            refine lv_lconst (v := 1) hx hb dPo_moveInOrder_101 (by decide) ?_
            refine lv_lsub hx hb dPo_moveInOrder_102 ?_
            refine lv_land hx hb dPo_moveInOrder_103 ?_
            refine lv_lstore (lv' := [(4, .long (v4_24 &&& (v4_24 - 1))), (6, .int (v6_24 + ((f_Lo_bitCount (f_Po_legalTargets oS_board oS_side oS_rights oS_passed (f_Ch_lowestSquare v4_24) (f_Po_exposed oS_board oS_side oS_passed))) * (f_Po_movesToOneTarget oS_board oS_side (f_Ch_lowestSquare v4_24))))), (11, .int ((f_Lo_bitCount (f_Po_legalTargets oS_board oS_side oS_rights oS_passed (f_Ch_lowestSquare v4_24) (f_Po_exposed oS_board oS_side oS_passed))) * (f_Po_movesToOneTarget oS_board oS_side (f_Ch_lowestSquare v4_24)))), (9, .long (f_Po_legalTargets oS_board oS_side oS_rights oS_passed (f_Ch_lowestSquare v4_24) (f_Po_exposed oS_board oS_side oS_passed))), (8, .int (f_Ch_lowestSquare v4_24)), (0, .ref o), (1, .int k), (2, .long (f_Po_exposed oS_board oS_side oS_passed)), (7, .int v7_24)]) hx hb dPo_moveInOrder_104 hl (by decide) rfl (fun ls hl => ?_)
            refine lv_iinc (v := v7_24 + 1) (lv' := [(7, .int (v7_24 + 1)), (4, .long (v4_24 &&& (v4_24 - 1))), (6, .int (v6_24 + ((f_Lo_bitCount (f_Po_legalTargets oS_board oS_side oS_rights oS_passed (f_Ch_lowestSquare v4_24) (f_Po_exposed oS_board oS_side oS_passed))) * (f_Po_movesToOneTarget oS_board oS_side (f_Ch_lowestSquare v4_24))))), (11, .int ((f_Lo_bitCount (f_Po_legalTargets oS_board oS_side oS_rights oS_passed (f_Ch_lowestSquare v4_24) (f_Po_exposed oS_board oS_side oS_passed))) * (f_Po_movesToOneTarget oS_board oS_side (f_Ch_lowestSquare v4_24)))), (9, .long (f_Po_legalTargets oS_board oS_side oS_rights oS_passed (f_Ch_lowestSquare v4_24) (f_Po_exposed oS_board oS_side oS_passed))), (8, .int (f_Ch_lowestSquare v4_24)), (0, .ref o), (1, .int k), (2, .long (f_Po_exposed oS_board oS_side oS_passed))]) hx hb dPo_moveInOrder_106 hl (k := 8) rfl rfl (by decide) rfl (fun ls hl => ?_)
            refine lv_goto (tgt := 24) hx hb dPo_moveInOrder_109 (by decide) ?_
            exact ih_24 (v4_24 &&& (v4_24 - 1)) (v6_24 + ((f_Lo_bitCount (f_Po_legalTargets oS_board oS_side oS_rights oS_passed (f_Ch_lowestSquare v4_24) (f_Po_exposed oS_board oS_side oS_passed))) * (f_Po_movesToOneTarget oS_board oS_side (f_Ch_lowestSquare v4_24)))) (v7_24 + 1) (he_24.trans (by rw [f_Po_moveInOrder_24_eq, if_neg c_1, if_neg c_2, if_pos c_3] <;> rfl)) (by have z1 := tnle c_1; have z3 := tle c_3; have y64 : (64 : Int32).toInt = 64 := rfl; have zr := i_rng (64 : Int32); have zs := i_succ9 v7_24 (by omega); omega) ls (lv_sub hl [6, 7, 8, 1, 2, 0] rfl)
          · refine lv_aload_n hx hb dPo_moveInOrder_77 rfl (lv_at hl 3 rfl) ?_
            refine lv_iload hx hb dPo_moveInOrder_78 (lv_at hl 2 rfl) ?_
            refine lv_lload hx hb dPo_moveInOrder_80 (lv_at hl 1 rfl) ?_
            refine lv_iload_n hx hb dPo_moveInOrder_82 rfl (lv_at hl 4 rfl) ?_
            refine lv_iload hx hb dPo_moveInOrder_83 (lv_at hl 7 rfl) ?_
            refine lv_isub hx hb dPo_moveInOrder_85 ?_
            refine ro_goi (va_runV (C := "ChessRules$Position") (As := [.int (f_Ch_lowestSquare v4_24), .long (f_Po_legalTargets oS_board oS_side oS_rights oS_passed (f_Ch_lowestSquare v4_24) (f_Po_exposed oS_board oS_side oS_passed)), .int (k - v6_24)]) (rest := []) ⟨hx, hb, hml, hown, hB⟩ (c_Po_moveOfMan l dC dI cI cJ cC ad o o_board o_board_men o_board_sets oS_board oS_side oS_rights oS_passed oS_clock oS_number (f_Ch_lowestSquare v4_24) (f_Po_legalTargets oS_board oS_side oS_rights oS_passed (f_Ch_lowestSquare v4_24) (f_Po_exposed oS_board oS_side oS_passed)) (k - v6_24)) ⟨callB_of 3 hB (big_self q4_46) rfl rfl rfl (hB _ q1_4) (hB _ q4_43) (by decide +kernel) ⟨Nat.le_of_ble_eq_true rfl, Nat.le_of_ble_eq_true rfl⟩, (hB _ q4_45), (hB _ qs4_8)⟩ (ro_preV (GS_ok ad) hK hP hG hS [0, 1, 2, 3] rfl (va_recv hK hP (ci := 3) (q0 := 0) rfl rfl)) rfl rfl hl.1 rfl (lv_room (Nat.le_of_ble_eq_true rfl)) dPo_moveInOrder_86 ⟨Nat.le_of_ble_eq_true rfl, Nat.le_of_ble_eq_true rfl⟩) ?_
            exact ro_reti hx hb hr hlocks dPo_moveInOrder_89 (Eq.symm (he_24.trans (by rw [f_Po_moveInOrder_24_eq, if_neg c_1, if_neg c_2, if_neg c_3] <;> rfl)))
  exact J_24 (65) (f_Bo_allOf oS_board.2 oS_side) 0 0 (by rw [f_Po_moveInOrder_eq] <;> rfl) (by decide) ls (lv_sub hl [4, 5, 3, 2, 1, 0] rfl)

abbrev cPo_isLegal : ByteArray := prog_5_method_25_code
def yPo_isLegal : MethodName := ⟨"ChessRules$Position", "isLegal", "(I)Z"⟩
def wsPo_isLegal : List Cond := Cond.code yPo_isLegal cPo_isLegal 6 (some .boolean) :: BIG
theorem dPo_isLegal_0 : decode cPo_isLegal 0 = .ok (.iload_n 1, 1) := by decide +kernel
theorem dPo_isLegal_1 : decode cPo_isLegal 1 = .ok (.bipush 63, 2) := by decide +kernel
theorem dPo_isLegal_3 : decode cPo_isLegal 3 = .ok (.iand, 1) := by decide +kernel
theorem dPo_isLegal_4 : decode cPo_isLegal 4 = .ok (.istore_n 2, 1) := by decide +kernel
theorem dPo_isLegal_5 : decode cPo_isLegal 5 = .ok (.iload_n 1, 1) := by decide +kernel
theorem dPo_isLegal_6 : decode cPo_isLegal 6 = .ok (.bipush 6, 2) := by decide +kernel
theorem dPo_isLegal_8 : decode cPo_isLegal 8 = .ok (.ishr, 1) := by decide +kernel
theorem dPo_isLegal_9 : decode cPo_isLegal 9 = .ok (.bipush 63, 2) := by decide +kernel
theorem dPo_isLegal_11 : decode cPo_isLegal 11 = .ok (.iand, 1) := by decide +kernel
theorem dPo_isLegal_12 : decode cPo_isLegal 12 = .ok (.istore_n 3, 1) := by decide +kernel
theorem dPo_isLegal_13 : decode cPo_isLegal 13 = .ok (.iload_n 1, 1) := by decide +kernel
theorem dPo_isLegal_14 : decode cPo_isLegal 14 = .ok (.bipush 12, 2) := by decide +kernel
theorem dPo_isLegal_16 : decode cPo_isLegal 16 = .ok (.ishr, 1) := by decide +kernel
theorem dPo_isLegal_17 : decode cPo_isLegal 17 = .ok (.istore 4, 2) := by decide +kernel
theorem dPo_isLegal_19 : decode cPo_isLegal 19 = .ok (.aload_n 0, 1) := by decide +kernel
theorem dPo_isLegal_20 : decode cPo_isLegal 20 = .ok (.iload_n 2, 1) := by decide +kernel
theorem dPo_isLegal_21 : decode cPo_isLegal 21 = .ok (.invokevirtual 137, 3) := by decide +kernel
theorem dPo_isLegal_24 : decode cPo_isLegal 24 = .ok (.ifCond .eq 23, 3) := by decide +kernel
theorem dPo_isLegal_27 : decode cPo_isLegal 27 = .ok (.iload 4, 2) := by decide +kernel
theorem dPo_isLegal_29 : decode cPo_isLegal 29 = .ok (.iconst 2, 1) := by decide +kernel
theorem dPo_isLegal_30 : decode cPo_isLegal 30 = .ok (.if_icmp .lt 13, 3) := by decide +kernel
theorem dPo_isLegal_33 : decode cPo_isLegal 33 = .ok (.iload 4, 2) := by decide +kernel
theorem dPo_isLegal_35 : decode cPo_isLegal 35 = .ok (.iconst 5, 1) := by decide +kernel
theorem dPo_isLegal_36 : decode cPo_isLegal 36 = .ok (.if_icmp .gt 7, 3) := by decide +kernel
theorem dPo_isLegal_39 : decode cPo_isLegal 39 = .ok (.iconst 1, 1) := by decide +kernel
theorem dPo_isLegal_40 : decode cPo_isLegal 40 = .ok (.goto 17, 3) := by decide +kernel
theorem dPo_isLegal_43 : decode cPo_isLegal 43 = .ok (.iconst 0, 1) := by decide +kernel
theorem dPo_isLegal_44 : decode cPo_isLegal 44 = .ok (.goto 13, 3) := by decide +kernel
theorem dPo_isLegal_47 : decode cPo_isLegal 47 = .ok (.iload 4, 2) := by decide +kernel
theorem dPo_isLegal_49 : decode cPo_isLegal 49 = .ok (.ifCond .ne 7, 3) := by decide +kernel
theorem dPo_isLegal_52 : decode cPo_isLegal 52 = .ok (.iconst 1, 1) := by decide +kernel
theorem dPo_isLegal_53 : decode cPo_isLegal 53 = .ok (.goto 4, 3) := by decide +kernel
theorem dPo_isLegal_56 : decode cPo_isLegal 56 = .ok (.iconst 0, 1) := by decide +kernel
theorem dPo_isLegal_57 : decode cPo_isLegal 57 = .ok (.istore 5, 2) := by decide +kernel
theorem dPo_isLegal_59 : decode cPo_isLegal 59 = .ok (.iload 5, 2) := by decide +kernel
theorem dPo_isLegal_61 : decode cPo_isLegal 61 = .ok (.ifCond .eq 23, 3) := by decide +kernel
theorem dPo_isLegal_64 : decode cPo_isLegal 64 = .ok (.aload_n 0, 1) := by decide +kernel
theorem dPo_isLegal_65 : decode cPo_isLegal 65 = .ok (.iload_n 2, 1) := by decide +kernel
theorem dPo_isLegal_66 : decode cPo_isLegal 66 = .ok (.aload_n 0, 1) := by decide +kernel
theorem dPo_isLegal_67 : decode cPo_isLegal 67 = .ok (.invokevirtual 140, 3) := by decide +kernel
theorem dPo_isLegal_70 : decode cPo_isLegal 70 = .ok (.invokevirtual 143, 3) := by decide +kernel
theorem dPo_isLegal_73 : decode cPo_isLegal 73 = .ok (.iload_n 3, 1) := by decide +kernel
theorem dPo_isLegal_74 : decode cPo_isLegal 74 = .ok (.invokestatic 123, 3) := by decide +kernel
theorem dPo_isLegal_77 : decode cPo_isLegal 77 = .ok (.ifCond .eq 7, 3) := by decide +kernel
theorem dPo_isLegal_80 : decode cPo_isLegal 80 = .ok (.iconst 1, 1) := by decide +kernel
theorem dPo_isLegal_81 : decode cPo_isLegal 81 = .ok (.goto 4, 3) := by decide +kernel
theorem dPo_isLegal_84 : decode cPo_isLegal 84 = .ok (.iconst 0, 1) := by decide +kernel
theorem dPo_isLegal_85 : decode cPo_isLegal 85 = .ok (.ireturn, 1) := by decide +kernel

def f_Po_isLegal_57 (oS_board : St_Bo) (oS_side : Int32) (oS_rights : Int32) (oS_passed : Int32) (move : Int32) (k0_57 : Int32) : Int32 :=
  (if k0_57 = 0 then 0 else (if (f_Ch_holds (f_Po_legalTargets oS_board oS_side oS_rights oS_passed (move &&& 63) (f_Po_exposed oS_board oS_side oS_passed)) ((move >>> ((6 : Int32) &&& 31)) &&& 63)) = 0 then 0 else 1))
theorem f_Po_isLegal_57_eq (oS_board : St_Bo) (oS_side : Int32) (oS_rights : Int32) (oS_passed : Int32) (move : Int32) (k0_57 : Int32) : f_Po_isLegal_57 oS_board oS_side oS_rights oS_passed move k0_57 =
  (if k0_57 = 0 then 0 else (if (f_Ch_holds (f_Po_legalTargets oS_board oS_side oS_rights oS_passed (move &&& 63) (f_Po_exposed oS_board oS_side oS_passed)) ((move >>> ((6 : Int32) &&& 31)) &&& 63)) = 0 then 0 else 1)) := rfl

def f_Po_isLegal_43 (oS_board : St_Bo) (oS_side : Int32) (oS_rights : Int32) (oS_passed : Int32) (move : Int32) : Int32 :=
  f_Po_isLegal_57 oS_board oS_side oS_rights oS_passed move 0
theorem f_Po_isLegal_43_eq (oS_board : St_Bo) (oS_side : Int32) (oS_rights : Int32) (oS_passed : Int32) (move : Int32) : f_Po_isLegal_43 oS_board oS_side oS_rights oS_passed move =
  f_Po_isLegal_57 oS_board oS_side oS_rights oS_passed move 0 := rfl

def f_Po_isLegal (oS_board : St_Bo) (oS_side : Int32) (oS_rights : Int32) (oS_passed : Int32) (move : Int32) : Int32 :=
  (if (f_Po_becomesAnother oS_board oS_side (move &&& 63)) = 0 then (if (move >>> ((12 : Int32) &&& 31)) = 0 then f_Po_isLegal_57 oS_board oS_side oS_rights oS_passed move 1 else f_Po_isLegal_57 oS_board oS_side oS_rights oS_passed move 0) else (if (move >>> ((12 : Int32) &&& 31)) < 2 then f_Po_isLegal_43 oS_board oS_side oS_rights oS_passed move else (if 5 < (move >>> ((12 : Int32) &&& 31)) then f_Po_isLegal_43 oS_board oS_side oS_rights oS_passed move else f_Po_isLegal_57 oS_board oS_side oS_rights oS_passed move 1)))
theorem f_Po_isLegal_eq (oS_board : St_Bo) (oS_side : Int32) (oS_rights : Int32) (oS_passed : Int32) (move : Int32) : f_Po_isLegal oS_board oS_side oS_rights oS_passed move =
  (if (f_Po_becomesAnother oS_board oS_side (move &&& 63)) = 0 then (if (move >>> ((12 : Int32) &&& 31)) = 0 then f_Po_isLegal_57 oS_board oS_side oS_rights oS_passed move 1 else f_Po_isLegal_57 oS_board oS_side oS_rights oS_passed move 0) else (if (move >>> ((12 : Int32) &&& 31)) < 2 then f_Po_isLegal_43 oS_board oS_side oS_rights oS_passed move else (if 5 < (move >>> ((12 : Int32) &&& 31)) then f_Po_isLegal_43 oS_board oS_side oS_rights oS_passed move else f_Po_isLegal_57 oS_board oS_side oS_rights oS_passed move 1))) := rfl

set_option maxHeartbeats 4000000 in
set_option maxRecDepth 100000 in
theorem c_Po_isLegal (l : Launch) (dC : Nat → ClassId) (dI : Nat → Nat → Nat) (cI cJ cC : ClassId) (ad : Nat → Nat) (o o_board o_board_men o_board_sets : Nat) (oS_board : St_Bo) (oS_side : Int32) (oS_rights : Int32) (oS_passed : Int32) (oS_clock : Int32) (oS_number : Int32) (move : Int32) : Met l yPo_isLegal wsPo_isLegal { frames := 5, cells := 0, slots := 0, locals := 137 } (roP dC dI (TYS cI cJ cC) [.ref o, .int move] [(o, .inr (3, [.ref o_board, .int oS_side, .int oS_rights, .int oS_passed, .int oS_clock, .int oS_number])), (o_board, .inr (0, [.ref o_board_men, .ref o_board_sets])), (o_board_men, .inl (cI, 64, .inl oS_board.1)), (o_board_sets, .inl (cJ, 16, .inr (.inl oS_board.2)))] (GS ad)) (vp_Si (fun r => r = f_Po_isLegal oS_board oS_side oS_rights oS_passed move)) 0 0 (fun _ => False) := by
  refine Met.ofW (cc := cPo_isLegal) (maxL := 6) (ret := (some .boolean)) (by decide) rfl ?_
  intro p e s m args below meth c s₁ B hml hv
  obtain ⟨rfl, hP, hK, hG⟩ := hv
  have hx := B.exec
  have hb := B.bytes
  have hr := B.returns
  have hB : ∀ w9 ∈ BIG, w9.before ([.ref o, .int move]).toArray s = true := fun w9 h => atoms_spec (ws := wsPo_isLegal) B.pre w9 (List.mem_cons_of_mem _ h)
  have hown : s.vm.findClass "ChessRules$Position" = some m.cls := findClass_of_methodNamed B.named
  have hlocks := B.notSynchronized
  have hS : va_S (fun _ => False) s.heap s.heap [] := va_S.rf
  have hP : va_P (dC, dI) vwCl [(o, .inr (3, [.ref o_board, .int oS_side, .int oS_rights, .int oS_passed, .int oS_clock, .int oS_number])), (o_board, .inr (0, [.ref o_board_men, .ref o_board_sets])), (o_board_men, .inl (cI, 64, .inl oS_board.1)), (o_board_sets, .inl (cJ, 16, .inr (.inl oS_board.2)))] s.heap := hP
  have hl := lv_entry ([.ref o, .int move]) (n := 6) (Nat.le_of_ble_eq_true rfl)
  rw [lg_entry_eq]
  generalize (lg_sl ([.ref o, .int move]) ++ List.replicate (6 - (lg_sl ([.ref o, .int move])).length) Slot.unset).toArray = ls at hl ⊢
  have hl : lv_has ls 6 [(0, .ref o), (1, .int move)] := hl
  refine lv_iload_n hx hb dPo_isLegal_0 rfl (lv_at hl 1 rfl) ?_
  refine lv_bipush (v := 63) hx hb dPo_isLegal_1 (by decide) ?_
  refine lv_iand hx hb dPo_isLegal_3 ?_
  refine lv_istore_n (lv' := [(2, .int (move &&& 63)), (0, .ref o), (1, .int move)]) hx hb dPo_isLegal_4 rfl hl (by decide) rfl (fun ls hl => ?_)
  refine lv_iload_n hx hb dPo_isLegal_5 rfl (lv_at hl 2 rfl) ?_
  refine lv_bipush (v := 6) hx hb dPo_isLegal_6 (by decide) ?_
  refine lv_ishr hx hb dPo_isLegal_8 ?_
  refine lv_bipush (v := 63) hx hb dPo_isLegal_9 (by decide) ?_
  refine lv_iand hx hb dPo_isLegal_11 ?_
  refine lv_istore_n (lv' := [(3, .int ((move >>> ((6 : Int32) &&& 31)) &&& 63)), (2, .int (move &&& 63)), (0, .ref o), (1, .int move)]) hx hb dPo_isLegal_12 rfl hl (by decide) rfl (fun ls hl => ?_)
  refine lv_iload_n hx hb dPo_isLegal_13 rfl (lv_at hl 3 rfl) ?_
  refine lv_bipush (v := 12) hx hb dPo_isLegal_14 (by decide) ?_
  refine lv_ishr hx hb dPo_isLegal_16 ?_
  refine lv_istore (lv' := [(4, .int (move >>> ((12 : Int32) &&& 31))), (3, .int ((move >>> ((6 : Int32) &&& 31)) &&& 63)), (2, .int (move &&& 63)), (0, .ref o), (1, .int move)]) hx hb dPo_isLegal_17 hl (by decide) rfl (fun ls hl => ?_)
  refine lv_aload_n hx hb dPo_isLegal_19 rfl (lv_at hl 3 rfl) ?_
  refine lv_iload_n hx hb dPo_isLegal_20 rfl (lv_at hl 2 rfl) ?_
  refine ro_goi (va_runV (C := "ChessRules$Position") (As := [.int (move &&& 63)]) (rest := []) ⟨hx, hb, hml, hown, hB⟩ (c_Po_becomesAnother l dC dI cI cJ cC ad o o_board o_board_men o_board_sets oS_board oS_side oS_rights oS_passed oS_clock oS_number (move &&& 63)) ⟨callB_of 1 hB (big_self q3_134) rfl rfl rfl (hB _ q1_4) (hB _ q3_131) (by decide +kernel) ⟨Nat.le_of_ble_eq_true rfl, Nat.le_of_ble_eq_true rfl⟩, (hB _ q3_133), (hB _ qs3_15)⟩ (ro_preV (GS_ok ad) hK hP hG hS [0, 1, 2, 3] rfl (va_recv hK hP (ci := 3) (q0 := 0) rfl rfl)) rfl rfl hl.1 rfl (lv_room (Nat.le_of_ble_eq_true rfl)) dPo_isLegal_21 ⟨Nat.le_of_ble_eq_true rfl, Nat.le_of_ble_eq_true rfl⟩) ?_
  have J_57 : ∀ (k0_57 : Int32), f_Po_isLegal oS_board oS_side oS_rights oS_passed move = f_Po_isLegal_57 oS_board oS_side oS_rights oS_passed move k0_57 → ∀ ls : Array Slot, lv_has ls 6 [(0, .ref o), (2, .int (move &&& 63)), (3, .int ((move >>> ((6 : Int32) &&& 31)) &&& 63))] → W p l e (headSpec wsPo_isLegal { frames := 5, cells := 0, slots := 0, locals := 137 }).room s m ([.ref o, .int move]).toArray below meth c s.heap [] 0 0 (MQ below (vp_Si (fun r => r = f_Po_isLegal oS_board oS_side oS_rights oS_passed move)) ([.ref o, .int move]).toArray s 0 0 (fun _ => False)) (F0 m 57 ls [.int k0_57]) := by
    intro k0_57 he_57 ls hl
    refine lv_istore (lv' := [(5, .int k0_57), (0, .ref o), (2, .int (move &&& 63)), (3, .int ((move >>> ((6 : Int32) &&& 31)) &&& 63))]) hx hb dPo_isLegal_57 hl (by decide) rfl (fun ls hl => ?_)
    refine lv_iload hx hb dPo_isLegal_59 (lv_at hl 0 rfl) ?_
    refine lv_if_eq (tgt := 84) hx hb dPo_isLegal_61 (by decide) (fun c_1 => ?_) (fun c_1 => ?_)
    · refine lv_iconst (v := 0) hx hb dPo_isLegal_84 (by decide) ?_
      exact ro_retz hx hb hr rfl hlocks dPo_isLegal_85 (Eq.symm (he_57.trans (by rw [f_Po_isLegal_57_eq, if_pos c_1] <;> rfl)))
    · refine lv_aload_n hx hb dPo_isLegal_64 rfl (lv_at hl 1 rfl) ?_
      refine lv_iload_n hx hb dPo_isLegal_65 rfl (lv_at hl 2 rfl) ?_
      refine lv_aload_n hx hb dPo_isLegal_66 rfl (lv_at hl 1 rfl) ?_
      refine ro_gol (va_runV (C := "ChessRules$Position") (As := []) (rest := [.int (move &&& 63), .ref o]) ⟨hx, hb, hml, hown, hB⟩ (c_Po_exposed l dC dI cI cJ cC ad o o_board o_board_men o_board_sets oS_board oS_side oS_rights oS_passed oS_clock oS_number) ⟨callB_of 0 hB (big_self q3_78) rfl rfl rfl (hB _ q1_4) (hB _ q3_75) (by decide +kernel) ⟨Nat.le_of_ble_eq_true rfl, Nat.le_of_ble_eq_true rfl⟩, (hB _ q3_77), (hB _ qs3_6)⟩ (ro_preV (GS_ok ad) hK hP hG hS [0, 1, 2, 3] rfl (va_recv hK hP (ci := 3) (q0 := 0) rfl rfl)) rfl rfl hl.1 rfl (lv_room (Nat.le_of_ble_eq_true rfl)) dPo_isLegal_67 ⟨Nat.le_of_ble_eq_true rfl, Nat.le_of_ble_eq_true rfl⟩) ?_
      refine ro_gol (va_runV (C := "ChessRules$Position") (As := [.int (move &&& 63), .long (f_Po_exposed oS_board oS_side oS_passed)]) (rest := []) ⟨hx, hb, hml, hown, hB⟩ (c_Po_legalTargets l dC dI cI cJ cC ad o o_board o_board_men o_board_sets oS_board oS_side oS_rights oS_passed oS_clock oS_number (move &&& 63) (f_Po_exposed oS_board oS_side oS_passed)) ⟨callB_of 2 hB (big_self q3_92) rfl rfl rfl (hB _ q1_4) (hB _ q3_89) (by decide +kernel) ⟨Nat.le_of_ble_eq_true rfl, Nat.le_of_ble_eq_true rfl⟩, (hB _ q3_91), (hB _ qs3_9)⟩ (ro_preV (GS_ok ad) hK hP hG hS [0, 1, 2, 3] rfl (va_recv hK hP (ci := 3) (q0 := 0) rfl rfl)) rfl rfl hl.1 rfl (lv_room (Nat.le_of_ble_eq_true rfl)) dPo_isLegal_70 ⟨Nat.le_of_ble_eq_true rfl, Nat.le_of_ble_eq_true rfl⟩) ?_
      refine lv_iload_n hx hb dPo_isLegal_73 rfl (lv_at hl 3 rfl) ?_
      refine ro_goi (va_runSN (As := [.long (f_Po_legalTargets oS_board oS_side oS_rights oS_passed (move &&& 63) (f_Po_exposed oS_board oS_side oS_passed)), .int ((move >>> ((6 : Int32) &&& 31)) &&& 63)]) (rest := []) ⟨hx, hb, hml, hown, hB⟩ (c_Ch_holds l dC dI cI cJ cC ad (f_Po_legalTargets oS_board oS_side oS_rights oS_passed (move &&& 63) (f_Po_exposed oS_board oS_side oS_passed)) ((move >>> ((6 : Int32) &&& 31)) &&& 63)) ⟨va_cnB 2 hB (big_self q3_114) rfl rfl rfl (hG.1 _ q3_112) (hB _ q1_1) (by decide +kernel) ⟨Nat.le_of_ble_eq_true rfl, Nat.le_of_ble_eq_true rfl⟩, (hB _ q3_113), trivial⟩ (ro_preS (GS_ok ad) hK hP hG hS [] rfl) rfl rfl hl.1 rfl (lv_room (Nat.le_of_ble_eq_true rfl)) dPo_isLegal_74 ⟨Nat.le_of_ble_eq_true rfl, Nat.le_of_ble_eq_true rfl⟩) ?_
      refine lv_if_eq (tgt := 84) hx hb dPo_isLegal_77 (by decide) (fun c_2 => ?_) (fun c_2 => ?_)
      · refine lv_iconst (v := 0) hx hb dPo_isLegal_84 (by decide) ?_
        exact ro_retz hx hb hr rfl hlocks dPo_isLegal_85 (Eq.symm (he_57.trans (by rw [f_Po_isLegal_57_eq, if_neg c_1, if_pos c_2] <;> rfl)))
      · refine lv_iconst (v := 1) hx hb dPo_isLegal_80 (by decide) ?_
        refine lv_goto (tgt := 85) hx hb dPo_isLegal_81 (by decide) ?_
        exact ro_retz hx hb hr rfl hlocks dPo_isLegal_85 (Eq.symm (he_57.trans (by rw [f_Po_isLegal_57_eq, if_neg c_1, if_neg c_2] <;> rfl)))
  refine lv_if_eq (tgt := 47) hx hb dPo_isLegal_24 (by decide) (fun c_3 => ?_) (fun c_3 => ?_)
  · refine lv_iload hx hb dPo_isLegal_47 (lv_at hl 0 rfl) ?_
    refine lv_if_ne (tgt := 56) hx hb dPo_isLegal_49 (by decide) (fun c_4 => ?_) (fun c_4 => ?_)
    · refine lv_iconst (v := 0) hx hb dPo_isLegal_56 (by decide) ?_
      exact J_57 0 (by rw [f_Po_isLegal_eq, if_pos c_3, if_neg c_4] <;> rfl) ls (lv_sub hl [3, 2, 1] rfl)
    · refine lv_iconst (v := 1) hx hb dPo_isLegal_52 (by decide) ?_
      refine lv_goto (tgt := 57) hx hb dPo_isLegal_53 (by decide) ?_
      exact J_57 1 (by rw [f_Po_isLegal_eq, if_pos c_3, if_pos c_4] <;> rfl) ls (lv_sub hl [3, 2, 1] rfl)
  · refine lv_iload hx hb dPo_isLegal_27 (lv_at hl 0 rfl) ?_
    refine lv_iconst (v := 2) hx hb dPo_isLegal_29 (by decide) ?_
    have J_43 : f_Po_isLegal oS_board oS_side oS_rights oS_passed move = f_Po_isLegal_43 oS_board oS_side oS_rights oS_passed move → ∀ ls : Array Slot, lv_has ls 6 [(0, .ref o), (2, .int (move &&& 63)), (3, .int ((move >>> ((6 : Int32) &&& 31)) &&& 63))] → W p l e (headSpec wsPo_isLegal { frames := 5, cells := 0, slots := 0, locals := 137 }).room s m ([.ref o, .int move]).toArray below meth c s.heap [] 0 0 (MQ below (vp_Si (fun r => r = f_Po_isLegal oS_board oS_side oS_rights oS_passed move)) ([.ref o, .int move]).toArray s 0 0 (fun _ => False)) (F0 m 43 ls []) := by
      intro he_43 ls hl
      refine lv_iconst (v := 0) hx hb dPo_isLegal_43 (by decide) ?_
      refine lv_goto (tgt := 57) hx hb dPo_isLegal_44 (by decide) ?_
      exact J_57 0 (he_43.trans (by rw [f_Po_isLegal_43_eq] <;> rfl)) ls (lv_sub hl [0, 1, 2] rfl)
    refine lv_icmp_lt (tgt := 43) hx hb dPo_isLegal_30 (by decide) (fun c_5 => ?_) (fun c_5 => ?_)
    · exact J_43 (by rw [f_Po_isLegal_eq, if_neg c_3, if_pos c_5] <;> rfl) ls (lv_sub hl [3, 2, 1] rfl)
    · refine lv_iload hx hb dPo_isLegal_33 (lv_at hl 0 rfl) ?_
      refine lv_iconst (v := 5) hx hb dPo_isLegal_35 (by decide) ?_
      refine lv_icmp_gt (tgt := 43) hx hb dPo_isLegal_36 (by decide) (fun c_6 => ?_) (fun c_6 => ?_)
      · exact J_43 (by rw [f_Po_isLegal_eq, if_neg c_3, if_neg c_5, if_pos c_6] <;> rfl) ls (lv_sub hl [3, 2, 1] rfl)
      · refine lv_iconst (v := 1) hx hb dPo_isLegal_39 (by decide) ?_
        refine lv_goto (tgt := 57) hx hb dPo_isLegal_40 (by decide) ?_
        exact J_57 1 (by rw [f_Po_isLegal_eq, if_neg c_3, if_neg c_5, if_neg c_6] <;> rfl) ls (lv_sub hl [3, 2, 1] rfl)

abbrev cPo_isCastling : ByteArray := prog_5_method_28_code
def yPo_isCastling : MethodName := ⟨"ChessRules$Position", "isCastling", "(III)Z"⟩
def wsPo_isCastling : List Cond := Cond.code yPo_isCastling cPo_isCastling 3 (some .boolean) :: BIG
theorem dPo_isCastling_0 : decode cPo_isCastling 0 = .ok (.iload_n 0, 1) := by decide +kernel
theorem dPo_isCastling_1 : decode cPo_isCastling 1 = .ok (.bipush 7, 2) := by decide +kernel
theorem dPo_isCastling_3 : decode cPo_isCastling 3 = .ok (.iand, 1) := by decide +kernel
theorem dPo_isCastling_4 : decode cPo_isCastling 4 = .ok (.bipush 6, 2) := by decide +kernel
theorem dPo_isCastling_6 : decode cPo_isCastling 6 = .ok (.if_icmp .ne 17, 3) := by decide +kernel
theorem dPo_isCastling_9 : decode cPo_isCastling 9 = .ok (.iload_n 2, 1) := by decide +kernel
theorem dPo_isCastling_10 : decode cPo_isCastling 10 = .ok (.iload_n 1, 1) := by decide +kernel
theorem dPo_isCastling_11 : decode cPo_isCastling 11 = .ok (.isub, 1) := by decide +kernel
theorem dPo_isCastling_12 : decode cPo_isCastling 12 = .ok (.invokestatic 174, 3) := by decide +kernel
theorem dPo_isCastling_15 : decode cPo_isCastling 15 = .ok (.iconst 2, 1) := by decide +kernel
theorem dPo_isCastling_16 : decode cPo_isCastling 16 = .ok (.if_icmp .ne 7, 3) := by decide +kernel
theorem dPo_isCastling_19 : decode cPo_isCastling 19 = .ok (.iconst 1, 1) := by decide +kernel
theorem dPo_isCastling_20 : decode cPo_isCastling 20 = .ok (.goto 4, 3) := by decide +kernel
theorem dPo_isCastling_23 : decode cPo_isCastling 23 = .ok (.iconst 0, 1) := by decide +kernel
theorem dPo_isCastling_24 : decode cPo_isCastling 24 = .ok (.ireturn, 1) := by decide +kernel

def f_Po_isCastling (man : Int32) (fr : Int32) (to : Int32) : Int32 :=
  (if (man &&& 7) = 6 then (if (abs32 (to - fr)) = 2 then 1 else 0) else 0)
theorem f_Po_isCastling_eq (man : Int32) (fr : Int32) (to : Int32) : f_Po_isCastling man fr to =
  (if (man &&& 7) = 6 then (if (abs32 (to - fr)) = 2 then 1 else 0) else 0) := rfl

set_option maxHeartbeats 4000000 in
set_option maxRecDepth 100000 in
theorem c_Po_isCastling (l : Launch) (dC : Nat → ClassId) (dI : Nat → Nat → Nat) (cI cJ cC : ClassId) (ad : Nat → Nat) (man : Int32) (fr : Int32) (to : Int32) : Met l yPo_isCastling wsPo_isCastling { frames := 1, cells := 0, slots := 0, locals := 21 } (roP dC dI (TYS cI cJ cC) [.int man, .int fr, .int to] [] (GS ad)) (vp_Si (fun r => r = f_Po_isCastling man fr to)) 0 0 (fun _ => False) := by
  refine Met.ofW (cc := cPo_isCastling) (maxL := 3) (ret := (some .boolean)) (by decide) rfl ?_
  intro p e s m args below meth c s₁ B hml hv
  obtain ⟨rfl, hP, hK, hG⟩ := hv
  have hx := B.exec
  have hb := B.bytes
  have hr := B.returns
  have hB : ∀ w9 ∈ BIG, w9.before ([.int man, .int fr, .int to]).toArray s = true := fun w9 h => atoms_spec (ws := wsPo_isCastling) B.pre w9 (List.mem_cons_of_mem _ h)
  have hown : s.vm.findClass "ChessRules$Position" = some m.cls := findClass_of_methodNamed B.named
  have hlocks := B.notSynchronized
  have hS : va_S (fun _ => False) s.heap s.heap [] := va_S.rf
  have hP : va_P (dC, dI) vwCl [] s.heap := hP
  have hl := lv_entry ([.int man, .int fr, .int to]) (n := 3) (Nat.le_of_ble_eq_true rfl)
  rw [lg_entry_eq]
  generalize (lg_sl ([.int man, .int fr, .int to]) ++ List.replicate (3 - (lg_sl ([.int man, .int fr, .int to])).length) Slot.unset).toArray = ls at hl ⊢
  have hl : lv_has ls 3 [(0, .int man), (1, .int fr), (2, .int to)] := hl
  refine lv_iload_n hx hb dPo_isCastling_0 rfl (lv_at hl 0 rfl) ?_
  refine lv_bipush (v := 7) hx hb dPo_isCastling_1 (by decide) ?_
  refine lv_iand hx hb dPo_isCastling_3 ?_
  refine lv_bipush (v := 6) hx hb dPo_isCastling_4 (by decide) ?_
  refine lv_icmp_ne (tgt := 23) hx hb dPo_isCastling_6 (by decide) (fun c_1 => ?_) (fun c_1 => ?_)
  · refine lv_iconst (v := 0) hx hb dPo_isCastling_23 (by decide) ?_
    exact ro_retz hx hb hr rfl hlocks dPo_isCastling_24 (Eq.symm (by rw [f_Po_isCastling_eq, if_neg c_1] <;> rfl))
  · refine lv_iload_n hx hb dPo_isCastling_9 rfl (lv_at hl 2 rfl) ?_
    refine lv_iload_n hx hb dPo_isCastling_10 rfl (lv_at hl 1 rfl) ?_
    refine lv_isub hx hb dPo_isCastling_11 ?_
    refine va_mabs hx hb (by rw [hml]; exact hl.1.symm) hown (hB _ q4_122) (hB _ q4_123) (hB _ q1_11) (hB _ q4_124) (Nat.le_of_ble_eq_true rfl) (Nat.le_of_ble_eq_true rfl) (Nat.zero_le _) (Nat.zero_le _) dPo_isCastling_12 ?_
    refine W.eq (g2 := F0 m 15 ls [.int (abs32 (to - fr))]) rfl ?_
    refine lv_iconst (v := 2) hx hb dPo_isCastling_15 (by decide) ?_
    refine lv_icmp_ne (tgt := 23) hx hb dPo_isCastling_16 (by decide) (fun c_2 => ?_) (fun c_2 => ?_)
    · refine lv_iconst (v := 0) hx hb dPo_isCastling_23 (by decide) ?_
      exact ro_retz hx hb hr rfl hlocks dPo_isCastling_24 (Eq.symm (by rw [f_Po_isCastling_eq, if_pos c_1, if_neg c_2] <;> rfl))
    · refine lv_iconst (v := 1) hx hb dPo_isCastling_19 (by decide) ?_
      refine lv_goto (tgt := 24) hx hb dPo_isCastling_20 (by decide) ?_
      exact ro_retz hx hb hr rfl hlocks dPo_isCastling_24 (Eq.symm (by rw [f_Po_isCastling_eq, if_pos c_1, if_pos c_2] <;> rfl))

abbrev cPo_squarePassed : ByteArray := prog_5_method_29_code
def yPo_squarePassed : MethodName := ⟨"ChessRules$Position", "squarePassed", "(III)I"⟩
def wsPo_squarePassed : List Cond := Cond.code yPo_squarePassed cPo_squarePassed 7 (some .int) :: BIG
theorem dPo_squarePassed_0 : decode cPo_squarePassed 0 = .ok (.iload_n 1, 1) := by decide +kernel
theorem dPo_squarePassed_1 : decode cPo_squarePassed 1 = .ok (.bipush 7, 2) := by decide +kernel
theorem dPo_squarePassed_3 : decode cPo_squarePassed 3 = .ok (.iand, 1) := by decide +kernel
theorem dPo_squarePassed_4 : decode cPo_squarePassed 4 = .ok (.iconst 1, 1) := by decide +kernel
theorem dPo_squarePassed_5 : decode cPo_squarePassed 5 = .ok (.if_icmp .ne 14, 3) := by decide +kernel
theorem dPo_squarePassed_8 : decode cPo_squarePassed 8 = .ok (.iload_n 3, 1) := by decide +kernel
theorem dPo_squarePassed_9 : decode cPo_squarePassed 9 = .ok (.iload_n 2, 1) := by decide +kernel
theorem dPo_squarePassed_10 : decode cPo_squarePassed 10 = .ok (.isub, 1) := by decide +kernel
theorem dPo_squarePassed_11 : decode cPo_squarePassed 11 = .ok (.invokestatic 174, 3) := by decide +kernel
theorem dPo_squarePassed_14 : decode cPo_squarePassed 14 = .ok (.bipush 16, 2) := by decide +kernel
theorem dPo_squarePassed_16 : decode cPo_squarePassed 16 = .ok (.if_icmp .eq 5, 3) := by decide +kernel
theorem dPo_squarePassed_19 : decode cPo_squarePassed 19 = .ok (.iconst (-1), 1) := by decide +kernel
theorem dPo_squarePassed_20 : decode cPo_squarePassed 20 = .ok (.ireturn, 1) := by decide +kernel
theorem dPo_squarePassed_21 : decode cPo_squarePassed 21 = .ok (.iload_n 2, 1) := by decide +kernel
theorem dPo_squarePassed_22 : decode cPo_squarePassed 22 = .ok (.iload_n 3, 1) := by decide +kernel
theorem dPo_squarePassed_23 : decode cPo_squarePassed 23 = .ok (.iadd, 1) := by decide +kernel
theorem dPo_squarePassed_24 : decode cPo_squarePassed 24 = .ok (.iconst 2, 1) := by decide +kernel
theorem dPo_squarePassed_25 : decode cPo_squarePassed 25 = .ok (.idiv, 1) := by decide +kernel
theorem dPo_squarePassed_26 : decode cPo_squarePassed 26 = .ok (.istore 4, 2) := by decide +kernel
theorem dPo_squarePassed_28 : decode cPo_squarePassed 28 = .ok (.lconst 1, 1) := by decide +kernel
theorem dPo_squarePassed_29 : decode cPo_squarePassed 29 = .ok (.iload 4, 2) := by decide +kernel
theorem dPo_squarePassed_31 : decode cPo_squarePassed 31 = .ok (.lshl, 1) := by decide +kernel
theorem dPo_squarePassed_32 : decode cPo_squarePassed 32 = .ok (.aload_n 0, 1) := by decide +kernel
theorem dPo_squarePassed_33 : decode cPo_squarePassed 33 = .ok (.getfield 18, 3) := by decide +kernel
theorem dPo_squarePassed_36 : decode cPo_squarePassed 36 = .ok (.invokestatic 50, 3) := by decide +kernel
theorem dPo_squarePassed_39 : decode cPo_squarePassed 39 = .ok (.aload_n 0, 1) := by decide +kernel
theorem dPo_squarePassed_40 : decode cPo_squarePassed 40 = .ok (.getfield 12, 3) := by decide +kernel
theorem dPo_squarePassed_43 : decode cPo_squarePassed 43 = .ok (.iconst 1, 1) := by decide +kernel
theorem dPo_squarePassed_44 : decode cPo_squarePassed 44 = .ok (.iconst 1, 1) := by decide +kernel
theorem dPo_squarePassed_45 : decode cPo_squarePassed 45 = .ok (.aload_n 0, 1) := by decide +kernel
theorem dPo_squarePassed_46 : decode cPo_squarePassed 46 = .ok (.getfield 18, 3) := by decide +kernel
theorem dPo_squarePassed_49 : decode cPo_squarePassed 49 = .ok (.isub, 1) := by decide +kernel
theorem dPo_squarePassed_50 : decode cPo_squarePassed 50 = .ok (.invokevirtual 56, 3) := by decide +kernel
theorem dPo_squarePassed_53 : decode cPo_squarePassed 53 = .ok (.land, 1) := by decide +kernel
theorem dPo_squarePassed_54 : decode cPo_squarePassed 54 = .ok (.lstore 5, 2) := by decide +kernel
theorem dPo_squarePassed_56 : decode cPo_squarePassed 56 = .ok (.lload 5, 2) := by decide +kernel
theorem dPo_squarePassed_58 : decode cPo_squarePassed 58 = .ok (.lconst 0, 1) := by decide +kernel
theorem dPo_squarePassed_59 : decode cPo_squarePassed 59 = .ok (.lcmp, 1) := by decide +kernel
theorem dPo_squarePassed_60 : decode cPo_squarePassed 60 = .ok (.ifCond .eq 8, 3) := by decide +kernel
theorem dPo_squarePassed_63 : decode cPo_squarePassed 63 = .ok (.iload 4, 2) := by decide +kernel
theorem dPo_squarePassed_65 : decode cPo_squarePassed 65 = .ok (.goto 4, 3) := by decide +kernel
theorem dPo_squarePassed_68 : decode cPo_squarePassed 68 = .ok (.iconst (-1), 1) := by decide +kernel
theorem dPo_squarePassed_69 : decode cPo_squarePassed 69 = .ok (.ireturn, 1) := by decide +kernel

def f_Po_squarePassed (oS_board : St_Bo) (oS_side : Int32) (man : Int32) (fr : Int32) (to : Int32) : Int32 :=
  (if (man &&& 7) = 1 then (if (abs32 (to - fr)) = 16 then (if ((f_Ra_byPawn (shl64 1 ((fr + to) / 2)) oS_side) &&& (f_Bo_setOf oS_board.2 1 (1 - oS_side))) = 0 then (-1) else (fr + to) / 2) else (-1)) else (-1))
theorem f_Po_squarePassed_eq (oS_board : St_Bo) (oS_side : Int32) (man : Int32) (fr : Int32) (to : Int32) : f_Po_squarePassed oS_board oS_side man fr to =
  (if (man &&& 7) = 1 then (if (abs32 (to - fr)) = 16 then (if ((f_Ra_byPawn (shl64 1 ((fr + to) / 2)) oS_side) &&& (f_Bo_setOf oS_board.2 1 (1 - oS_side))) = 0 then (-1) else (fr + to) / 2) else (-1)) else (-1)) := rfl

set_option maxHeartbeats 4000000 in
set_option maxRecDepth 100000 in
theorem c_Po_squarePassed (l : Launch) (dC : Nat → ClassId) (dI : Nat → Nat → Nat) (cI cJ cC : ClassId) (ad : Nat → Nat) (o o_board o_board_men o_board_sets : Nat) (oS_board : St_Bo) (oS_side : Int32) (oS_rights : Int32) (oS_passed : Int32) (oS_clock : Int32) (oS_number : Int32) (man : Int32) (fr : Int32) (to : Int32) : Met l yPo_squarePassed wsPo_squarePassed { frames := 1, cells := 0, slots := 0, locals := 24 } (roP dC dI (TYS cI cJ cC) [.ref o, .int man, .int fr, .int to] [(o, .inr (3, [.ref o_board, .int oS_side, .int oS_rights, .int oS_passed, .int oS_clock, .int oS_number])), (o_board, .inr (0, [.ref o_board_men, .ref o_board_sets])), (o_board_men, .inl (cI, 64, .inl oS_board.1)), (o_board_sets, .inl (cJ, 16, .inr (.inl oS_board.2)))] (GS ad)) (vp_Si (fun r => r = f_Po_squarePassed oS_board oS_side man fr to)) 0 0 (fun _ => False) := by
  refine Met.ofW (cc := cPo_squarePassed) (maxL := 7) (ret := (some .int)) (by decide) rfl ?_
  intro p e s m args below meth c s₁ B hml hv
  obtain ⟨rfl, hP, hK, hG⟩ := hv
  have hx := B.exec
  have hb := B.bytes
  have hr := B.returns
  have hB : ∀ w9 ∈ BIG, w9.before ([.ref o, .int man, .int fr, .int to]).toArray s = true := fun w9 h => atoms_spec (ws := wsPo_squarePassed) B.pre w9 (List.mem_cons_of_mem _ h)
  have hown : s.vm.findClass "ChessRules$Position" = some m.cls := findClass_of_methodNamed B.named
  have hlocks := B.notSynchronized
  have hS : va_S (fun _ => False) s.heap s.heap [] := va_S.rf
  have hP : va_P (dC, dI) vwCl [(o, .inr (3, [.ref o_board, .int oS_side, .int oS_rights, .int oS_passed, .int oS_clock, .int oS_number])), (o_board, .inr (0, [.ref o_board_men, .ref o_board_sets])), (o_board_men, .inl (cI, 64, .inl oS_board.1)), (o_board_sets, .inl (cJ, 16, .inr (.inl oS_board.2)))] s.heap := hP
  have hl := lv_entry ([.ref o, .int man, .int fr, .int to]) (n := 7) (Nat.le_of_ble_eq_true rfl)
  rw [lg_entry_eq]
  generalize (lg_sl ([.ref o, .int man, .int fr, .int to]) ++ List.replicate (7 - (lg_sl ([.ref o, .int man, .int fr, .int to])).length) Slot.unset).toArray = ls at hl ⊢
  have hl : lv_has ls 7 [(0, .ref o), (1, .int man), (2, .int fr), (3, .int to)] := hl
  refine lv_iload_n hx hb dPo_squarePassed_0 rfl (lv_at hl 1 rfl) ?_
  refine lv_bipush (v := 7) hx hb dPo_squarePassed_1 (by decide) ?_
  refine lv_iand hx hb dPo_squarePassed_3 ?_
  refine lv_iconst (v := 1) hx hb dPo_squarePassed_4 (by decide) ?_
  refine lv_icmp_ne (tgt := 19) hx hb dPo_squarePassed_5 (by decide) (fun c_1 => ?_) (fun c_1 => ?_)
  · refine lv_iconst (v := (-1)) hx hb dPo_squarePassed_19 (by decide) ?_
    exact ro_reti hx hb hr hlocks dPo_squarePassed_20 (Eq.symm (by rw [f_Po_squarePassed_eq, if_neg c_1] <;> rfl))
  · refine lv_iload_n hx hb dPo_squarePassed_8 rfl (lv_at hl 3 rfl) ?_
    refine lv_iload_n hx hb dPo_squarePassed_9 rfl (lv_at hl 2 rfl) ?_
    refine lv_isub hx hb dPo_squarePassed_10 ?_
    refine va_mabs hx hb (by rw [hml]; exact hl.1.symm) hown (hB _ q4_122) (hB _ q4_123) (hB _ q1_11) (hB _ q4_124) (Nat.le_of_ble_eq_true rfl) (Nat.le_of_ble_eq_true rfl) (Nat.zero_le _) (Nat.zero_le _) dPo_squarePassed_11 ?_
    refine W.eq (g2 := F0 m 14 ls [.int (abs32 (to - fr))]) rfl ?_
    refine lv_bipush (v := 16) hx hb dPo_squarePassed_14 (by decide) ?_
    refine lv_icmp_eq (tgt := 21) hx hb dPo_squarePassed_16 (by decide) (fun c_2 => ?_) (fun c_2 => ?_)
    · refine lv_iload_n hx hb dPo_squarePassed_21 rfl (lv_at hl 2 rfl) ?_
      refine lv_iload_n hx hb dPo_squarePassed_22 rfl (lv_at hl 3 rfl) ?_
      refine lv_iadd hx hb dPo_squarePassed_23 ?_
      refine lv_iconst (v := 2) hx hb dPo_squarePassed_24 (by decide) ?_
      refine lv_idiv hx hb dPo_squarePassed_25 (by decide) ?_
      refine lv_istore (lv' := [(4, .int ((fr + to) / 2)), (0, .ref o), (1, .int man), (2, .int fr), (3, .int to)]) hx hb dPo_squarePassed_26 hl (by decide) rfl (fun ls hl => ?_)
      refine lv_lconst (v := 1) hx hb dPo_squarePassed_28 (by decide) ?_
      refine lv_iload hx hb dPo_squarePassed_29 (lv_at hl 0 rfl) ?_
      refine lv_lshl (v := shl64 1 ((fr + to) / 2)) hx hb dPo_squarePassed_31 rfl ?_
      refine lv_aload_n hx hb dPo_squarePassed_32 rfl (lv_at hl 1 rfl) ?_
      refine va_get (D := (dC, dI)) (ci := 3) (v := .int oS_side) (C := RPo) (T := TPo) (N := 6) hx hb hB inPo hown hK hP 0 rfl rfl 1 (by decide) (hB _ q1_83) (fun _ h9 => h9) rfl dPo_squarePassed_33 ?_
      refine ro_gol (va_runSN (As := [.long (shl64 1 ((fr + to) / 2)), .int oS_side]) (rest := []) ⟨hx, hb, hml, hown, hB⟩ (c_Ra_byPawn l dC dI cI cJ cC ad (shl64 1 ((fr + to) / 2)) oS_side) ⟨va_cnB 2 hB (big_self q2_139) rfl rfl rfl (hG.1 _ q2_196) (hB _ q1_14) (by decide +kernel) ⟨Nat.le_of_ble_eq_true rfl, Nat.le_of_ble_eq_true rfl⟩, (hB _ q2_138), trivial⟩ (ro_preS (GS_ok ad) hK hP hG hS [] rfl) rfl rfl hl.1 rfl (lv_room (Nat.le_of_ble_eq_true rfl)) dPo_squarePassed_36 ⟨Nat.le_of_ble_eq_true rfl, Nat.le_of_ble_eq_true rfl⟩) ?_
      refine lv_aload_n hx hb dPo_squarePassed_39 rfl (lv_at hl 1 rfl) ?_
      refine va_get (D := (dC, dI)) (ci := 3) (v := .ref o_board) (C := RPo) (T := TPo) (N := 6) hx hb hB inPo hown hK hP 0 rfl rfl 0 (by decide) (hB _ q1_77) (fun _ h9 => h9) rfl dPo_squarePassed_40 ?_
      refine lv_iconst (v := 1) hx hb dPo_squarePassed_43 (by decide) ?_
      refine lv_iconst (v := 1) hx hb dPo_squarePassed_44 (by decide) ?_
      refine lv_aload_n hx hb dPo_squarePassed_45 rfl (lv_at hl 1 rfl) ?_
      refine va_get (D := (dC, dI)) (ci := 3) (v := .int oS_side) (C := RPo) (T := TPo) (N := 6) hx hb hB inPo hown hK hP 0 rfl rfl 1 (by decide) (hB _ q1_83) (fun _ h9 => h9) rfl dPo_squarePassed_46 ?_
      refine lv_isub hx hb dPo_squarePassed_49 ?_
      refine ro_gol (va_runVN (C := "ChessRules$Board") (As := [.int 1, .int (1 - oS_side)]) (rest := [.long (f_Ra_byPawn (shl64 1 ((fr + to) / 2)) oS_side)]) ⟨hx, hb, hml, hown, hB⟩ (c_Bo_setOf l dC dI cI cJ cC ad o_board o_board_men o_board_sets oS_board.1 oS_board.2 1 (1 - oS_side)) ⟨va_cnB 2 hB (big_self q2_112) rfl rfl rfl (hG.1 _ q2_197) (hB _ q1_5) (by decide +kernel) ⟨Nat.le_of_ble_eq_true rfl, Nat.le_of_ble_eq_true rfl⟩, (hB _ q2_111), (hB _ qs2_1)⟩ (ro_preV (GS_ok ad) hK hP hG hS [1, 2, 3] rfl (va_recv hK hP (ci := 0) (q0 := 1) rfl rfl)) rfl rfl hl.1 rfl (lv_room (Nat.le_of_ble_eq_true rfl)) dPo_squarePassed_50 ⟨Nat.le_of_ble_eq_true rfl, Nat.le_of_ble_eq_true rfl⟩) ?_
      refine lv_land hx hb dPo_squarePassed_53 ?_
      refine lv_lstore (lv' := [(5, .long ((f_Ra_byPawn (shl64 1 ((fr + to) / 2)) oS_side) &&& (f_Bo_setOf oS_board.2 1 (1 - oS_side)))), (4, .int ((fr + to) / 2)), (0, .ref o), (1, .int man), (2, .int fr), (3, .int to)]) hx hb dPo_squarePassed_54 hl (by decide) rfl (fun ls hl => ?_)
      refine lv_lload hx hb dPo_squarePassed_56 (lv_at hl 0 rfl) ?_
      refine lv_lconst (v := 0) hx hb dPo_squarePassed_58 (by decide) ?_
      refine W.lcmp hx hb dPo_squarePassed_59 ?_
      refine lv_if_eq (tgt := 68) hx hb dPo_squarePassed_60 (by decide) (fun q => let_c (h := ((f_Ra_byPawn (shl64 1 ((fr + to) / 2)) oS_side) &&& (f_Bo_setOf oS_board.2 1 (1 - oS_side))) = 0) (lgc_eq.1 q) (fun c_3 => ?_)) (fun q => let_c (h := ¬ ((f_Ra_byPawn (shl64 1 ((fr + to) / 2)) oS_side) &&& (f_Bo_setOf oS_board.2 1 (1 - oS_side))) = 0) (lgc_eq.2 q) (fun c_3 => ?_))
      · refine lv_iconst (v := (-1)) hx hb dPo_squarePassed_68 (by decide) ?_
        exact ro_reti hx hb hr hlocks dPo_squarePassed_69 (Eq.symm (by rw [f_Po_squarePassed_eq, if_pos c_1, if_pos c_2, if_pos c_3] <;> rfl))
      · refine lv_iload hx hb dPo_squarePassed_63 (lv_at hl 1 rfl) ?_
        refine lv_goto (tgt := 69) hx hb dPo_squarePassed_65 (by decide) ?_
        exact ro_reti hx hb hr hlocks dPo_squarePassed_69 (Eq.symm (by rw [f_Po_squarePassed_eq, if_pos c_1, if_pos c_2, if_neg c_3] <;> rfl))
    · refine lv_iconst (v := (-1)) hx hb dPo_squarePassed_19 (by decide) ?_
      exact ro_reti hx hb hr hlocks dPo_squarePassed_20 (Eq.symm (by rw [f_Po_squarePassed_eq, if_pos c_1, if_neg c_2] <;> rfl))

abbrev cPo_rightsBoundTo : ByteArray := prog_5_method_30_code
def yPo_rightsBoundTo : MethodName := ⟨"ChessRules$Position", "rightsBoundTo", "(I)I"⟩
def wsPo_rightsBoundTo : List Cond := Cond.code yPo_rightsBoundTo cPo_rightsBoundTo 1 (some .int) :: BIG
theorem dPo_rightsBoundTo_0 : decode cPo_rightsBoundTo 0 = .ok (.iload_n 0, 1) := by decide +kernel
theorem dPo_rightsBoundTo_1 : decode cPo_rightsBoundTo 1 = .ok (.lookupswitch 73 #[(0, 59), (4, 61), (7, 63), (56, 65), (60, 68), (63, 71)], 59) := by decide +kernel
theorem dPo_rightsBoundTo_60 : decode cPo_rightsBoundTo 60 = .ok (.iconst 2, 1) := by decide +kernel
theorem dPo_rightsBoundTo_61 : decode cPo_rightsBoundTo 61 = .ok (.ireturn, 1) := by decide +kernel
theorem dPo_rightsBoundTo_62 : decode cPo_rightsBoundTo 62 = .ok (.iconst 3, 1) := by decide +kernel
theorem dPo_rightsBoundTo_63 : decode cPo_rightsBoundTo 63 = .ok (.ireturn, 1) := by decide +kernel
theorem dPo_rightsBoundTo_64 : decode cPo_rightsBoundTo 64 = .ok (.iconst 1, 1) := by decide +kernel
theorem dPo_rightsBoundTo_65 : decode cPo_rightsBoundTo 65 = .ok (.ireturn, 1) := by decide +kernel
theorem dPo_rightsBoundTo_66 : decode cPo_rightsBoundTo 66 = .ok (.bipush 8, 2) := by decide +kernel
theorem dPo_rightsBoundTo_68 : decode cPo_rightsBoundTo 68 = .ok (.ireturn, 1) := by decide +kernel
theorem dPo_rightsBoundTo_69 : decode cPo_rightsBoundTo 69 = .ok (.bipush 12, 2) := by decide +kernel
theorem dPo_rightsBoundTo_71 : decode cPo_rightsBoundTo 71 = .ok (.ireturn, 1) := by decide +kernel
theorem dPo_rightsBoundTo_72 : decode cPo_rightsBoundTo 72 = .ok (.iconst 4, 1) := by decide +kernel
theorem dPo_rightsBoundTo_73 : decode cPo_rightsBoundTo 73 = .ok (.ireturn, 1) := by decide +kernel
theorem dPo_rightsBoundTo_74 : decode cPo_rightsBoundTo 74 = .ok (.iconst 0, 1) := by decide +kernel
theorem dPo_rightsBoundTo_75 : decode cPo_rightsBoundTo 75 = .ok (.ireturn, 1) := by decide +kernel

def f_Po_rightsBoundTo (square : Int32) : Int32 :=
  (if square = 0 then 2 else (if square = 4 then 3 else (if square = 7 then 1 else (if square = 56 then 8 else (if square = 60 then 12 else (if square = 63 then 4 else 0))))))
theorem f_Po_rightsBoundTo_eq (square : Int32) : f_Po_rightsBoundTo square =
  (if square = 0 then 2 else (if square = 4 then 3 else (if square = 7 then 1 else (if square = 56 then 8 else (if square = 60 then 12 else (if square = 63 then 4 else 0)))))) := rfl

set_option maxHeartbeats 4000000 in
set_option maxRecDepth 100000 in
theorem c_Po_rightsBoundTo (l : Launch) (dC : Nat → ClassId) (dI : Nat → Nat → Nat) (cI cJ cC : ClassId) (ad : Nat → Nat) (square : Int32) : Met l yPo_rightsBoundTo wsPo_rightsBoundTo { frames := 0, cells := 0, slots := 0, locals := 0 } (roP dC dI (TYS cI cJ cC) [.int square] [] (GS ad)) (vp_Si (fun r => r = f_Po_rightsBoundTo square)) 0 0 (fun _ => False) := by
  refine Met.ofW (cc := cPo_rightsBoundTo) (maxL := 1) (ret := (some .int)) (by decide) rfl ?_
  intro p e s m args below meth c s₁ B hml hv
  obtain ⟨rfl, hP, hK, hG⟩ := hv
  have hx := B.exec
  have hb := B.bytes
  have hr := B.returns
  have hB : ∀ w9 ∈ BIG, w9.before ([.int square]).toArray s = true := fun w9 h => atoms_spec (ws := wsPo_rightsBoundTo) B.pre w9 (List.mem_cons_of_mem _ h)
  have hown : s.vm.findClass "ChessRules$Position" = some m.cls := findClass_of_methodNamed B.named
  have hlocks := B.notSynchronized
  have hS : va_S (fun _ => False) s.heap s.heap [] := va_S.rf
  have hP : va_P (dC, dI) vwCl [] s.heap := hP
  have hl := lv_entry ([.int square]) (n := 1) (Nat.le_of_ble_eq_true rfl)
  rw [lg_entry_eq]
  generalize (lg_sl ([.int square]) ++ List.replicate (1 - (lg_sl ([.int square])).length) Slot.unset).toArray = ls at hl ⊢
  have hl : lv_has ls 1 [(0, .int square)] := hl
  refine lv_iload_n hx hb dPo_rightsBoundTo_0 rfl (lv_at hl 0 rfl) ?_
  by_cases c_1 : square = 0
  · refine lv_lookup (tgt := 60) (off := 59) hx hb dPo_rightsBoundTo_1 (by decide) (by rw [c_1]; rfl) (by decide) ?_
    refine lv_iconst (v := 2) hx hb dPo_rightsBoundTo_60 (by decide) ?_
    exact ro_reti hx hb hr hlocks dPo_rightsBoundTo_61 (Eq.symm (by rw [f_Po_rightsBoundTo_eq, if_pos c_1] <;> rfl))
  · by_cases c_2 : square = 4
    · refine lv_lookup (tgt := 62) (off := 61) hx hb dPo_rightsBoundTo_1 (by decide) (by rw [c_2]; rfl) (by decide) ?_
      refine lv_iconst (v := 3) hx hb dPo_rightsBoundTo_62 (by decide) ?_
      exact ro_reti hx hb hr hlocks dPo_rightsBoundTo_63 (Eq.symm (by rw [f_Po_rightsBoundTo_eq, if_neg c_1, if_pos c_2] <;> rfl))
    · by_cases c_3 : square = 7
      · refine lv_lookup (tgt := 64) (off := 63) hx hb dPo_rightsBoundTo_1 (by decide) (by rw [c_3]; rfl) (by decide) ?_
        refine lv_iconst (v := 1) hx hb dPo_rightsBoundTo_64 (by decide) ?_
        exact ro_reti hx hb hr hlocks dPo_rightsBoundTo_65 (Eq.symm (by rw [f_Po_rightsBoundTo_eq, if_neg c_1, if_neg c_2, if_pos c_3] <;> rfl))
      · by_cases c_4 : square = 56
        · refine lv_lookup (tgt := 66) (off := 65) hx hb dPo_rightsBoundTo_1 (by decide) (by rw [c_4]; rfl) (by decide) ?_
          refine lv_bipush (v := 8) hx hb dPo_rightsBoundTo_66 (by decide) ?_
          exact ro_reti hx hb hr hlocks dPo_rightsBoundTo_68 (Eq.symm (by rw [f_Po_rightsBoundTo_eq, if_neg c_1, if_neg c_2, if_neg c_3, if_pos c_4] <;> rfl))
        · by_cases c_5 : square = 60
          · refine lv_lookup (tgt := 69) (off := 68) hx hb dPo_rightsBoundTo_1 (by decide) (by rw [c_5]; rfl) (by decide) ?_
            refine lv_bipush (v := 12) hx hb dPo_rightsBoundTo_69 (by decide) ?_
            exact ro_reti hx hb hr hlocks dPo_rightsBoundTo_71 (Eq.symm (by rw [f_Po_rightsBoundTo_eq, if_neg c_1, if_neg c_2, if_neg c_3, if_neg c_4, if_pos c_5] <;> rfl))
          · by_cases c_6 : square = 63
            · refine lv_lookup (tgt := 72) (off := 71) hx hb dPo_rightsBoundTo_1 (by decide) (by rw [c_6]; rfl) (by decide) ?_
              refine lv_iconst (v := 4) hx hb dPo_rightsBoundTo_72 (by decide) ?_
              exact ro_reti hx hb hr hlocks dPo_rightsBoundTo_73 (Eq.symm (by rw [f_Po_rightsBoundTo_eq, if_neg c_1, if_neg c_2, if_neg c_3, if_neg c_4, if_neg c_5, if_pos c_6] <;> rfl))
            · refine lv_lookup (tgt := 74) (off := 73) hx hb dPo_rightsBoundTo_1 (by decide) (by have q0 := 0; have q0 : square.toInt ≠ 0 := fun z => c_1 (i_of z rfl); have q1 : square.toInt ≠ 4 := fun z => c_2 (i_of z rfl); have q2 : square.toInt ≠ 7 := fun z => c_3 (i_of z rfl); have q3 : square.toInt ≠ 56 := fun z => c_4 (i_of z rfl); have q4 : square.toInt ≠ 60 := fun z => c_5 (i_of z rfl); have q5 : square.toInt ≠ 63 := fun z => c_6 (i_of z rfl); simp [Op.lookupswitch.offset, q0.symm, q0, q1.symm, q1, q2.symm, q2, q3.symm, q3, q4.symm, q4, q5.symm, q5]) (by decide) ?_
              refine lv_iconst (v := 0) hx hb dPo_rightsBoundTo_74 (by decide) ?_
              exact ro_reti hx hb hr hlocks dPo_rightsBoundTo_75 (Eq.symm (by rw [f_Po_rightsBoundTo_eq, if_neg c_1, if_neg c_2, if_neg c_3, if_neg c_4, if_neg c_5, if_neg c_6] <;> rfl))

abbrev cPo_make : ByteArray := prog_5_method_26_code
def yPo_make : MethodName := ⟨"ChessRules$Position", "make", "(I)I"⟩
def wsPo_make : List Cond := Cond.code yPo_make cPo_make 9 (some .int) :: BIG
theorem dPo_make_0 : decode cPo_make 0 = .ok (.iload_n 1, 1) := by decide +kernel
theorem dPo_make_1 : decode cPo_make 1 = .ok (.bipush 63, 2) := by decide +kernel
theorem dPo_make_3 : decode cPo_make 3 = .ok (.iand, 1) := by decide +kernel
theorem dPo_make_4 : decode cPo_make 4 = .ok (.istore_n 2, 1) := by decide +kernel
theorem dPo_make_5 : decode cPo_make 5 = .ok (.iload_n 1, 1) := by decide +kernel
theorem dPo_make_6 : decode cPo_make 6 = .ok (.bipush 6, 2) := by decide +kernel
theorem dPo_make_8 : decode cPo_make 8 = .ok (.ishr, 1) := by decide +kernel
theorem dPo_make_9 : decode cPo_make 9 = .ok (.bipush 63, 2) := by decide +kernel
theorem dPo_make_11 : decode cPo_make 11 = .ok (.iand, 1) := by decide +kernel
theorem dPo_make_12 : decode cPo_make 12 = .ok (.istore_n 3, 1) := by decide +kernel
theorem dPo_make_13 : decode cPo_make 13 = .ok (.iload_n 1, 1) := by decide +kernel
theorem dPo_make_14 : decode cPo_make 14 = .ok (.bipush 12, 2) := by decide +kernel
theorem dPo_make_16 : decode cPo_make 16 = .ok (.ishr, 1) := by decide +kernel
theorem dPo_make_17 : decode cPo_make 17 = .ok (.istore 4, 2) := by decide +kernel
theorem dPo_make_19 : decode cPo_make 19 = .ok (.aload_n 0, 1) := by decide +kernel
theorem dPo_make_20 : decode cPo_make 20 = .ok (.getfield 12, 3) := by decide +kernel
theorem dPo_make_23 : decode cPo_make 23 = .ok (.iload_n 2, 1) := by decide +kernel
theorem dPo_make_24 : decode cPo_make 24 = .ok (.invokevirtual 38, 3) := by decide +kernel
theorem dPo_make_27 : decode cPo_make 27 = .ok (.istore 5, 2) := by decide +kernel
theorem dPo_make_29 : decode cPo_make 29 = .ok (.aload_n 0, 1) := by decide +kernel
theorem dPo_make_30 : decode cPo_make 30 = .ok (.iload 5, 2) := by decide +kernel
theorem dPo_make_32 : decode cPo_make 32 = .ok (.iload_n 3, 1) := by decide +kernel
theorem dPo_make_33 : decode cPo_make 33 = .ok (.invokevirtual 130, 3) := by decide +kernel
theorem dPo_make_36 : decode cPo_make 36 = .ok (.istore 6, 2) := by decide +kernel
theorem dPo_make_38 : decode cPo_make 38 = .ok (.aload_n 0, 1) := by decide +kernel
theorem dPo_make_39 : decode cPo_make 39 = .ok (.getfield 12, 3) := by decide +kernel
theorem dPo_make_42 : decode cPo_make 42 = .ok (.iload 6, 2) := by decide +kernel
theorem dPo_make_44 : decode cPo_make 44 = .ok (.invokevirtual 38, 3) := by decide +kernel
theorem dPo_make_47 : decode cPo_make 47 = .ok (.istore 7, 2) := by decide +kernel
theorem dPo_make_49 : decode cPo_make 49 = .ok (.iload 7, 2) := by decide +kernel
theorem dPo_make_51 : decode cPo_make 51 = .ok (.bipush 16, 2) := by decide +kernel
theorem dPo_make_53 : decode cPo_make 53 = .ok (.aload_n 0, 1) := by decide +kernel
theorem dPo_make_54 : decode cPo_make 54 = .ok (.getfield 22, 3) := by decide +kernel
theorem dPo_make_57 : decode cPo_make 57 = .ok (.imul, 1) := by decide +kernel
theorem dPo_make_58 : decode cPo_make 58 = .ok (.iadd, 1) := by decide +kernel
theorem dPo_make_59 : decode cPo_make 59 = .ok (.sipush 256, 3) := by decide +kernel
theorem dPo_make_62 : decode cPo_make 62 = .ok (.aload_n 0, 1) := by decide +kernel
theorem dPo_make_63 : decode cPo_make 63 = .ok (.getfield 25, 3) := by decide +kernel
theorem dPo_make_66 : decode cPo_make 66 = .ok (.iconst 1, 1) := by decide +kernel
theorem dPo_make_67 : decode cPo_make 67 = .ok (.iadd, 1) := by decide +kernel
theorem dPo_make_68 : decode cPo_make 68 = .ok (.imul, 1) := by decide +kernel
theorem dPo_make_69 : decode cPo_make 69 = .ok (.iadd, 1) := by decide +kernel
theorem dPo_make_70 : decode cPo_make 70 = .ok (.ldc 159, 2) := by decide +kernel
theorem dPo_make_72 : decode cPo_make 72 = .ok (.aload_n 0, 1) := by decide +kernel
theorem dPo_make_73 : decode cPo_make 73 = .ok (.getfield 28, 3) := by decide +kernel
theorem dPo_make_76 : decode cPo_make 76 = .ok (.imul, 1) := by decide +kernel
theorem dPo_make_77 : decode cPo_make 77 = .ok (.iadd, 1) := by decide +kernel
theorem dPo_make_78 : decode cPo_make 78 = .ok (.istore 8, 2) := by decide +kernel
theorem dPo_make_80 : decode cPo_make 80 = .ok (.aload_n 0, 1) := by decide +kernel
theorem dPo_make_81 : decode cPo_make 81 = .ok (.getfield 12, 3) := by decide +kernel
theorem dPo_make_84 : decode cPo_make 84 = .ok (.iload 6, 2) := by decide +kernel
theorem dPo_make_86 : decode cPo_make 86 = .ok (.iconst 0, 1) := by decide +kernel
theorem dPo_make_87 : decode cPo_make 87 = .ok (.invokevirtual 34, 3) := by decide +kernel
theorem dPo_make_90 : decode cPo_make 90 = .ok (.aload_n 0, 1) := by decide +kernel
theorem dPo_make_91 : decode cPo_make 91 = .ok (.getfield 12, 3) := by decide +kernel
theorem dPo_make_94 : decode cPo_make 94 = .ok (.iload_n 2, 1) := by decide +kernel
theorem dPo_make_95 : decode cPo_make 95 = .ok (.iconst 0, 1) := by decide +kernel
theorem dPo_make_96 : decode cPo_make 96 = .ok (.invokevirtual 34, 3) := by decide +kernel
theorem dPo_make_99 : decode cPo_make 99 = .ok (.aload_n 0, 1) := by decide +kernel
theorem dPo_make_100 : decode cPo_make 100 = .ok (.getfield 12, 3) := by decide +kernel
theorem dPo_make_103 : decode cPo_make 103 = .ok (.iload_n 3, 1) := by decide +kernel
theorem dPo_make_104 : decode cPo_make 104 = .ok (.iload 4, 2) := by decide +kernel
theorem dPo_make_106 : decode cPo_make 106 = .ok (.ifCond .ne 8, 3) := by decide +kernel
theorem dPo_make_109 : decode cPo_make 109 = .ok (.iload 5, 2) := by decide +kernel
theorem dPo_make_111 : decode cPo_make 111 = .ok (.goto 13, 3) := by decide +kernel
theorem dPo_make_114 : decode cPo_make 114 = .ok (.iload 4, 2) := by decide +kernel
theorem dPo_make_116 : decode cPo_make 116 = .ok (.bipush 8, 2) := by decide +kernel
theorem dPo_make_118 : decode cPo_make 118 = .ok (.aload_n 0, 1) := by decide +kernel
theorem dPo_make_119 : decode cPo_make 119 = .ok (.getfield 18, 3) := by decide +kernel
theorem dPo_make_122 : decode cPo_make 122 = .ok (.imul, 1) := by decide +kernel
theorem dPo_make_123 : decode cPo_make 123 = .ok (.iadd, 1) := by decide +kernel
theorem dPo_make_124 : decode cPo_make 124 = .ok (.invokevirtual 34, 3) := by decide +kernel
theorem dPo_make_127 : decode cPo_make 127 = .ok (.iload 5, 2) := by decide +kernel
theorem dPo_make_129 : decode cPo_make 129 = .ok (.iload_n 2, 1) := by decide +kernel
theorem dPo_make_130 : decode cPo_make 130 = .ok (.iload_n 3, 1) := by decide +kernel
theorem dPo_make_131 : decode cPo_make 131 = .ok (.invokestatic 160, 3) := by decide +kernel
theorem dPo_make_134 : decode cPo_make 134 = .ok (.ifCond .eq 49, 3) := by decide +kernel
theorem dPo_make_137 : decode cPo_make 137 = .ok (.aload_n 0, 1) := by decide +kernel
theorem dPo_make_138 : decode cPo_make 138 = .ok (.getfield 12, 3) := by decide +kernel
theorem dPo_make_141 : decode cPo_make 141 = .ok (.aload_n 0, 1) := by decide +kernel
theorem dPo_make_142 : decode cPo_make 142 = .ok (.getfield 18, 3) := by decide +kernel
theorem dPo_make_145 : decode cPo_make 145 = .ok (.iload_n 3, 1) := by decide +kernel
theorem dPo_make_146 : decode cPo_make 146 = .ok (.iload_n 2, 1) := by decide +kernel
theorem dPo_make_147 : decode cPo_make 147 = .ok (.if_icmp .le 7, 3) := by decide +kernel
theorem dPo_make_150 : decode cPo_make 150 = .ok (.iconst 0, 1) := by decide +kernel
theorem dPo_make_151 : decode cPo_make 151 = .ok (.goto 4, 3) := by decide +kernel
theorem dPo_make_154 : decode cPo_make 154 = .ok (.iconst 1, 1) := by decide +kernel
theorem dPo_make_155 : decode cPo_make 155 = .ok (.invokestatic 164, 3) := by decide +kernel
theorem dPo_make_158 : decode cPo_make 158 = .ok (.iconst 0, 1) := by decide +kernel
theorem dPo_make_159 : decode cPo_make 159 = .ok (.invokevirtual 34, 3) := by decide +kernel
theorem dPo_make_162 : decode cPo_make 162 = .ok (.aload_n 0, 1) := by decide +kernel
theorem dPo_make_163 : decode cPo_make 163 = .ok (.getfield 12, 3) := by decide +kernel
theorem dPo_make_166 : decode cPo_make 166 = .ok (.iload_n 2, 1) := by decide +kernel
theorem dPo_make_167 : decode cPo_make 167 = .ok (.iload_n 3, 1) := by decide +kernel
theorem dPo_make_168 : decode cPo_make 168 = .ok (.iadd, 1) := by decide +kernel
theorem dPo_make_169 : decode cPo_make 169 = .ok (.iconst 2, 1) := by decide +kernel
theorem dPo_make_170 : decode cPo_make 170 = .ok (.idiv, 1) := by decide +kernel
theorem dPo_make_171 : decode cPo_make 171 = .ok (.iconst 4, 1) := by decide +kernel
theorem dPo_make_172 : decode cPo_make 172 = .ok (.bipush 8, 2) := by decide +kernel
theorem dPo_make_174 : decode cPo_make 174 = .ok (.aload_n 0, 1) := by decide +kernel
theorem dPo_make_175 : decode cPo_make 175 = .ok (.getfield 18, 3) := by decide +kernel
theorem dPo_make_178 : decode cPo_make 178 = .ok (.imul, 1) := by decide +kernel
theorem dPo_make_179 : decode cPo_make 179 = .ok (.iadd, 1) := by decide +kernel
theorem dPo_make_180 : decode cPo_make 180 = .ok (.invokevirtual 34, 3) := by decide +kernel
theorem dPo_make_183 : decode cPo_make 183 = .ok (.aload_n 0, 1) := by decide +kernel
theorem dPo_make_184 : decode cPo_make 184 = .ok (.dup, 1) := by decide +kernel
theorem dPo_make_185 : decode cPo_make 185 = .ok (.getfield 22, 3) := by decide +kernel
theorem dPo_make_188 : decode cPo_make 188 = .ok (.iload_n 2, 1) := by decide +kernel
theorem dPo_make_189 : decode cPo_make 189 = .ok (.invokestatic 167, 3) := by decide +kernel
theorem dPo_make_192 : decode cPo_make 192 = .ok (.iload_n 3, 1) := by decide +kernel
theorem dPo_make_193 : decode cPo_make 193 = .ok (.invokestatic 167, 3) := by decide +kernel
theorem dPo_make_196 : decode cPo_make 196 = .ok (.ior, 1) := by decide +kernel
theorem dPo_make_197 : decode cPo_make 197 = .ok (.iconst (-1), 1) := by decide +kernel
theorem dPo_make_198 : decode cPo_make 198 = .ok (.ixor, 1) := by decide +kernel
theorem dPo_make_199 : decode cPo_make 199 = .ok (.iand, 1) := by decide +kernel
theorem dPo_make_200 : decode cPo_make 200 = .ok (.putfield 22, 3) := by decide +kernel
theorem dPo_make_203 : decode cPo_make 203 = .ok (.aload_n 0, 1) := by decide +kernel
theorem dPo_make_204 : decode cPo_make 204 = .ok (.aload_n 0, 1) := by decide +kernel
theorem dPo_make_205 : decode cPo_make 205 = .ok (.iload 5, 2) := by decide +kernel
theorem dPo_make_207 : decode cPo_make 207 = .ok (.iload_n 2, 1) := by decide +kernel
theorem dPo_make_208 : decode cPo_make 208 = .ok (.iload_n 3, 1) := by decide +kernel
theorem dPo_make_209 : decode cPo_make 209 = .ok (.invokevirtual 170, 3) := by decide +kernel
theorem dPo_make_212 : decode cPo_make 212 = .ok (.putfield 25, 3) := by decide +kernel
theorem dPo_make_215 : decode cPo_make 215 = .ok (.aload_n 0, 1) := by decide +kernel
theorem dPo_make_216 : decode cPo_make 216 = .ok (.iload 5, 2) := by decide +kernel
theorem dPo_make_218 : decode cPo_make 218 = .ok (.bipush 7, 2) := by decide +kernel
theorem dPo_make_220 : decode cPo_make 220 = .ok (.iand, 1) := by decide +kernel
theorem dPo_make_221 : decode cPo_make 221 = .ok (.iconst 1, 1) := by decide +kernel
theorem dPo_make_222 : decode cPo_make 222 = .ok (.if_icmp .eq 8, 3) := by decide +kernel
theorem dPo_make_225 : decode cPo_make 225 = .ok (.iload 7, 2) := by decide +kernel
theorem dPo_make_227 : decode cPo_make 227 = .ok (.ifCond .eq 7, 3) := by decide +kernel
theorem dPo_make_230 : decode cPo_make 230 = .ok (.iconst 0, 1) := by decide +kernel
theorem dPo_make_231 : decode cPo_make 231 = .ok (.goto 9, 3) := by decide +kernel
theorem dPo_make_234 : decode cPo_make 234 = .ok (.aload_n 0, 1) := by decide +kernel
theorem dPo_make_235 : decode cPo_make 235 = .ok (.getfield 28, 3) := by decide +kernel
theorem dPo_make_238 : decode cPo_make 238 = .ok (.iconst 1, 1) := by decide +kernel
theorem dPo_make_239 : decode cPo_make 239 = .ok (.iadd, 1) := by decide +kernel
theorem dPo_make_240 : decode cPo_make 240 = .ok (.putfield 28, 3) := by decide +kernel
theorem dPo_make_243 : decode cPo_make 243 = .ok (.aload_n 0, 1) := by decide +kernel
theorem dPo_make_244 : decode cPo_make 244 = .ok (.dup, 1) := by decide +kernel
theorem dPo_make_245 : decode cPo_make 245 = .ok (.getfield 31, 3) := by decide +kernel
theorem dPo_make_248 : decode cPo_make 248 = .ok (.aload_n 0, 1) := by decide +kernel
theorem dPo_make_249 : decode cPo_make 249 = .ok (.getfield 18, 3) := by decide +kernel
theorem dPo_make_252 : decode cPo_make 252 = .ok (.iadd, 1) := by decide +kernel
theorem dPo_make_253 : decode cPo_make 253 = .ok (.putfield 31, 3) := by decide +kernel
theorem dPo_make_256 : decode cPo_make 256 = .ok (.aload_n 0, 1) := by decide +kernel
theorem dPo_make_257 : decode cPo_make 257 = .ok (.iconst 1, 1) := by decide +kernel
theorem dPo_make_258 : decode cPo_make 258 = .ok (.aload_n 0, 1) := by decide +kernel
theorem dPo_make_259 : decode cPo_make 259 = .ok (.getfield 18, 3) := by decide +kernel
theorem dPo_make_262 : decode cPo_make 262 = .ok (.isub, 1) := by decide +kernel
theorem dPo_make_263 : decode cPo_make 263 = .ok (.putfield 18, 3) := by decide +kernel
theorem dPo_make_266 : decode cPo_make 266 = .ok (.iload 8, 2) := by decide +kernel
theorem dPo_make_268 : decode cPo_make 268 = .ok (.ireturn, 1) := by decide +kernel

def f_Po_make_240 (oS_board : St_Bo) (oS_side : Int32) (oS_rights : Int32) (oS_passed : Int32) (oS_clock : Int32) (oS_number : Int32) (move : Int32) (R_87 : ((Nat → Int32) × (Nat → Int64))) (R_96 : ((Nat → Int32) × (Nat → Int64))) (k0_124 : Int32) (R_124 : ((Nat → Int32) × (Nat → Int64))) (W_o_board_183 : St_Bo) (k0_240 : Int32) : Int32 × St_Bo × Int32 × Int32 × Int32 × Int32 × Int32 :=
  ((((f_Bo_manAt oS_board.1 (f_Po_squareOfTaken oS_side oS_passed (f_Bo_manAt oS_board.1 (move &&& 63)) ((move >>> ((6 : Int32) &&& 31)) &&& 63))) + (16 * oS_rights)) + (256 * (oS_passed + 1))) + (32768 * oS_clock), W_o_board_183, 1 - oS_side, oS_rights &&& (((f_Po_rightsBoundTo (move &&& 63)) ||| (f_Po_rightsBoundTo ((move >>> ((6 : Int32) &&& 31)) &&& 63))) ^^^ (-1)), f_Po_squarePassed W_o_board_183 oS_side (f_Bo_manAt oS_board.1 (move &&& 63)) (move &&& 63) ((move >>> ((6 : Int32) &&& 31)) &&& 63), k0_240, oS_number + oS_side)
theorem f_Po_make_240_eq (oS_board : St_Bo) (oS_side : Int32) (oS_rights : Int32) (oS_passed : Int32) (oS_clock : Int32) (oS_number : Int32) (move : Int32) (R_87 : ((Nat → Int32) × (Nat → Int64))) (R_96 : ((Nat → Int32) × (Nat → Int64))) (k0_124 : Int32) (R_124 : ((Nat → Int32) × (Nat → Int64))) (W_o_board_183 : St_Bo) (k0_240 : Int32) : f_Po_make_240 oS_board oS_side oS_rights oS_passed oS_clock oS_number move R_87 R_96 k0_124 R_124 W_o_board_183 k0_240 =
  ((((f_Bo_manAt oS_board.1 (f_Po_squareOfTaken oS_side oS_passed (f_Bo_manAt oS_board.1 (move &&& 63)) ((move >>> ((6 : Int32) &&& 31)) &&& 63))) + (16 * oS_rights)) + (256 * (oS_passed + 1))) + (32768 * oS_clock), W_o_board_183, 1 - oS_side, oS_rights &&& (((f_Po_rightsBoundTo (move &&& 63)) ||| (f_Po_rightsBoundTo ((move >>> ((6 : Int32) &&& 31)) &&& 63))) ^^^ (-1)), f_Po_squarePassed W_o_board_183 oS_side (f_Bo_manAt oS_board.1 (move &&& 63)) (move &&& 63) ((move >>> ((6 : Int32) &&& 31)) &&& 63), k0_240, oS_number + oS_side) := rfl

def f_Po_make_230 (oS_board : St_Bo) (oS_side : Int32) (oS_rights : Int32) (oS_passed : Int32) (oS_clock : Int32) (oS_number : Int32) (move : Int32) (R_87 : ((Nat → Int32) × (Nat → Int64))) (R_96 : ((Nat → Int32) × (Nat → Int64))) (k0_124 : Int32) (R_124 : ((Nat → Int32) × (Nat → Int64))) (W_o_board_183 : St_Bo) : Int32 × St_Bo × Int32 × Int32 × Int32 × Int32 × Int32 :=
  f_Po_make_240 oS_board oS_side oS_rights oS_passed oS_clock oS_number move R_87 R_96 k0_124 R_124 W_o_board_183 0
theorem f_Po_make_230_eq (oS_board : St_Bo) (oS_side : Int32) (oS_rights : Int32) (oS_passed : Int32) (oS_clock : Int32) (oS_number : Int32) (move : Int32) (R_87 : ((Nat → Int32) × (Nat → Int64))) (R_96 : ((Nat → Int32) × (Nat → Int64))) (k0_124 : Int32) (R_124 : ((Nat → Int32) × (Nat → Int64))) (W_o_board_183 : St_Bo) : f_Po_make_230 oS_board oS_side oS_rights oS_passed oS_clock oS_number move R_87 R_96 k0_124 R_124 W_o_board_183 =
  f_Po_make_240 oS_board oS_side oS_rights oS_passed oS_clock oS_number move R_87 R_96 k0_124 R_124 W_o_board_183 0 := rfl

def f_Po_make_183 (oS_board : St_Bo) (oS_side : Int32) (oS_rights : Int32) (oS_passed : Int32) (oS_clock : Int32) (oS_number : Int32) (move : Int32) (R_87 : ((Nat → Int32) × (Nat → Int64))) (R_96 : ((Nat → Int32) × (Nat → Int64))) (k0_124 : Int32) (R_124 : ((Nat → Int32) × (Nat → Int64))) (W_o_board_183 : St_Bo) : Int32 × St_Bo × Int32 × Int32 × Int32 × Int32 × Int32 :=
  (if ((f_Bo_manAt oS_board.1 (move &&& 63)) &&& 7) = 1 then f_Po_make_230 oS_board oS_side oS_rights oS_passed oS_clock oS_number move R_87 R_96 k0_124 R_124 W_o_board_183 else (if (f_Bo_manAt oS_board.1 (f_Po_squareOfTaken oS_side oS_passed (f_Bo_manAt oS_board.1 (move &&& 63)) ((move >>> ((6 : Int32) &&& 31)) &&& 63))) = 0 then f_Po_make_240 oS_board oS_side oS_rights oS_passed oS_clock oS_number move R_87 R_96 k0_124 R_124 W_o_board_183 (oS_clock + 1) else f_Po_make_230 oS_board oS_side oS_rights oS_passed oS_clock oS_number move R_87 R_96 k0_124 R_124 W_o_board_183))
theorem f_Po_make_183_eq (oS_board : St_Bo) (oS_side : Int32) (oS_rights : Int32) (oS_passed : Int32) (oS_clock : Int32) (oS_number : Int32) (move : Int32) (R_87 : ((Nat → Int32) × (Nat → Int64))) (R_96 : ((Nat → Int32) × (Nat → Int64))) (k0_124 : Int32) (R_124 : ((Nat → Int32) × (Nat → Int64))) (W_o_board_183 : St_Bo) : f_Po_make_183 oS_board oS_side oS_rights oS_passed oS_clock oS_number move R_87 R_96 k0_124 R_124 W_o_board_183 =
  (if ((f_Bo_manAt oS_board.1 (move &&& 63)) &&& 7) = 1 then f_Po_make_230 oS_board oS_side oS_rights oS_passed oS_clock oS_number move R_87 R_96 k0_124 R_124 W_o_board_183 else (if (f_Bo_manAt oS_board.1 (f_Po_squareOfTaken oS_side oS_passed (f_Bo_manAt oS_board.1 (move &&& 63)) ((move >>> ((6 : Int32) &&& 31)) &&& 63))) = 0 then f_Po_make_240 oS_board oS_side oS_rights oS_passed oS_clock oS_number move R_87 R_96 k0_124 R_124 W_o_board_183 (oS_clock + 1) else f_Po_make_230 oS_board oS_side oS_rights oS_passed oS_clock oS_number move R_87 R_96 k0_124 R_124 W_o_board_183)) := rfl

def f_Po_make_r180 (oS_board : St_Bo) (oS_side : Int32) (oS_rights : Int32) (oS_passed : Int32) (oS_clock : Int32) (oS_number : Int32) (move : Int32) (R_87 : ((Nat → Int32) × (Nat → Int64))) (R_96 : ((Nat → Int32) × (Nat → Int64))) (k0_124 : Int32) (R_124 : ((Nat → Int32) × (Nat → Int64))) (k0_155 : Int32) (R_159 : ((Nat → Int32) × (Nat → Int64))) (R_180 : ((Nat → Int32) × (Nat → Int64))) : Int32 × St_Bo × Int32 × Int32 × Int32 × Int32 × Int32 :=
  f_Po_make_183 oS_board oS_side oS_rights oS_passed oS_clock oS_number move R_87 R_96 k0_124 R_124 R_180
theorem f_Po_make_r180_eq (oS_board : St_Bo) (oS_side : Int32) (oS_rights : Int32) (oS_passed : Int32) (oS_clock : Int32) (oS_number : Int32) (move : Int32) (R_87 : ((Nat → Int32) × (Nat → Int64))) (R_96 : ((Nat → Int32) × (Nat → Int64))) (k0_124 : Int32) (R_124 : ((Nat → Int32) × (Nat → Int64))) (k0_155 : Int32) (R_159 : ((Nat → Int32) × (Nat → Int64))) (R_180 : ((Nat → Int32) × (Nat → Int64))) : f_Po_make_r180 oS_board oS_side oS_rights oS_passed oS_clock oS_number move R_87 R_96 k0_124 R_124 k0_155 R_159 R_180 =
  f_Po_make_183 oS_board oS_side oS_rights oS_passed oS_clock oS_number move R_87 R_96 k0_124 R_124 R_180 := rfl

def f_Po_make_r159 (oS_board : St_Bo) (oS_side : Int32) (oS_rights : Int32) (oS_passed : Int32) (oS_clock : Int32) (oS_number : Int32) (move : Int32) (R_87 : ((Nat → Int32) × (Nat → Int64))) (R_96 : ((Nat → Int32) × (Nat → Int64))) (k0_124 : Int32) (R_124 : ((Nat → Int32) × (Nat → Int64))) (k0_155 : Int32) (R_159 : ((Nat → Int32) × (Nat → Int64))) : Int32 × St_Bo × Int32 × Int32 × Int32 × Int32 × Int32 :=
  f_Po_make_r180 oS_board oS_side oS_rights oS_passed oS_clock oS_number move R_87 R_96 k0_124 R_124 k0_155 R_159 (f_Bo_put R_159.1 R_159.2 (((move &&& 63) + ((move >>> ((6 : Int32) &&& 31)) &&& 63)) / 2) (4 + (8 * oS_side)))
theorem f_Po_make_r159_eq (oS_board : St_Bo) (oS_side : Int32) (oS_rights : Int32) (oS_passed : Int32) (oS_clock : Int32) (oS_number : Int32) (move : Int32) (R_87 : ((Nat → Int32) × (Nat → Int64))) (R_96 : ((Nat → Int32) × (Nat → Int64))) (k0_124 : Int32) (R_124 : ((Nat → Int32) × (Nat → Int64))) (k0_155 : Int32) (R_159 : ((Nat → Int32) × (Nat → Int64))) : f_Po_make_r159 oS_board oS_side oS_rights oS_passed oS_clock oS_number move R_87 R_96 k0_124 R_124 k0_155 R_159 =
  f_Po_make_r180 oS_board oS_side oS_rights oS_passed oS_clock oS_number move R_87 R_96 k0_124 R_124 k0_155 R_159 (f_Bo_put R_159.1 R_159.2 (((move &&& 63) + ((move >>> ((6 : Int32) &&& 31)) &&& 63)) / 2) (4 + (8 * oS_side))) := rfl

def f_Po_make_155 (oS_board : St_Bo) (oS_side : Int32) (oS_rights : Int32) (oS_passed : Int32) (oS_clock : Int32) (oS_number : Int32) (move : Int32) (R_87 : ((Nat → Int32) × (Nat → Int64))) (R_96 : ((Nat → Int32) × (Nat → Int64))) (k0_124 : Int32) (R_124 : ((Nat → Int32) × (Nat → Int64))) (k0_155 : Int32) : Int32 × St_Bo × Int32 × Int32 × Int32 × Int32 × Int32 :=
  f_Po_make_r159 oS_board oS_side oS_rights oS_passed oS_clock oS_number move R_87 R_96 k0_124 R_124 k0_155 (f_Bo_put R_124.1 R_124.2 (f_Po_rookHome oS_side k0_155) 0)
theorem f_Po_make_155_eq (oS_board : St_Bo) (oS_side : Int32) (oS_rights : Int32) (oS_passed : Int32) (oS_clock : Int32) (oS_number : Int32) (move : Int32) (R_87 : ((Nat → Int32) × (Nat → Int64))) (R_96 : ((Nat → Int32) × (Nat → Int64))) (k0_124 : Int32) (R_124 : ((Nat → Int32) × (Nat → Int64))) (k0_155 : Int32) : f_Po_make_155 oS_board oS_side oS_rights oS_passed oS_clock oS_number move R_87 R_96 k0_124 R_124 k0_155 =
  f_Po_make_r159 oS_board oS_side oS_rights oS_passed oS_clock oS_number move R_87 R_96 k0_124 R_124 k0_155 (f_Bo_put R_124.1 R_124.2 (f_Po_rookHome oS_side k0_155) 0) := rfl

def f_Po_make_r124 (oS_board : St_Bo) (oS_side : Int32) (oS_rights : Int32) (oS_passed : Int32) (oS_clock : Int32) (oS_number : Int32) (move : Int32) (R_87 : ((Nat → Int32) × (Nat → Int64))) (R_96 : ((Nat → Int32) × (Nat → Int64))) (k0_124 : Int32) (R_124 : ((Nat → Int32) × (Nat → Int64))) : Int32 × St_Bo × Int32 × Int32 × Int32 × Int32 × Int32 :=
  (if (f_Po_isCastling (f_Bo_manAt oS_board.1 (move &&& 63)) (move &&& 63) ((move >>> ((6 : Int32) &&& 31)) &&& 63)) = 0 then f_Po_make_183 oS_board oS_side oS_rights oS_passed oS_clock oS_number move R_87 R_96 k0_124 R_124 R_124 else (if ((move >>> ((6 : Int32) &&& 31)) &&& 63) ≤ (move &&& 63) then f_Po_make_155 oS_board oS_side oS_rights oS_passed oS_clock oS_number move R_87 R_96 k0_124 R_124 1 else f_Po_make_155 oS_board oS_side oS_rights oS_passed oS_clock oS_number move R_87 R_96 k0_124 R_124 0))
theorem f_Po_make_r124_eq (oS_board : St_Bo) (oS_side : Int32) (oS_rights : Int32) (oS_passed : Int32) (oS_clock : Int32) (oS_number : Int32) (move : Int32) (R_87 : ((Nat → Int32) × (Nat → Int64))) (R_96 : ((Nat → Int32) × (Nat → Int64))) (k0_124 : Int32) (R_124 : ((Nat → Int32) × (Nat → Int64))) : f_Po_make_r124 oS_board oS_side oS_rights oS_passed oS_clock oS_number move R_87 R_96 k0_124 R_124 =
  (if (f_Po_isCastling (f_Bo_manAt oS_board.1 (move &&& 63)) (move &&& 63) ((move >>> ((6 : Int32) &&& 31)) &&& 63)) = 0 then f_Po_make_183 oS_board oS_side oS_rights oS_passed oS_clock oS_number move R_87 R_96 k0_124 R_124 R_124 else (if ((move >>> ((6 : Int32) &&& 31)) &&& 63) ≤ (move &&& 63) then f_Po_make_155 oS_board oS_side oS_rights oS_passed oS_clock oS_number move R_87 R_96 k0_124 R_124 1 else f_Po_make_155 oS_board oS_side oS_rights oS_passed oS_clock oS_number move R_87 R_96 k0_124 R_124 0)) := rfl

def f_Po_make_124 (oS_board : St_Bo) (oS_side : Int32) (oS_rights : Int32) (oS_passed : Int32) (oS_clock : Int32) (oS_number : Int32) (move : Int32) (R_87 : ((Nat → Int32) × (Nat → Int64))) (R_96 : ((Nat → Int32) × (Nat → Int64))) (k0_124 : Int32) : Int32 × St_Bo × Int32 × Int32 × Int32 × Int32 × Int32 :=
  f_Po_make_r124 oS_board oS_side oS_rights oS_passed oS_clock oS_number move R_87 R_96 k0_124 (f_Bo_put R_96.1 R_96.2 ((move >>> ((6 : Int32) &&& 31)) &&& 63) k0_124)
theorem f_Po_make_124_eq (oS_board : St_Bo) (oS_side : Int32) (oS_rights : Int32) (oS_passed : Int32) (oS_clock : Int32) (oS_number : Int32) (move : Int32) (R_87 : ((Nat → Int32) × (Nat → Int64))) (R_96 : ((Nat → Int32) × (Nat → Int64))) (k0_124 : Int32) : f_Po_make_124 oS_board oS_side oS_rights oS_passed oS_clock oS_number move R_87 R_96 k0_124 =
  f_Po_make_r124 oS_board oS_side oS_rights oS_passed oS_clock oS_number move R_87 R_96 k0_124 (f_Bo_put R_96.1 R_96.2 ((move >>> ((6 : Int32) &&& 31)) &&& 63) k0_124) := rfl

def f_Po_make_r96 (oS_board : St_Bo) (oS_side : Int32) (oS_rights : Int32) (oS_passed : Int32) (oS_clock : Int32) (oS_number : Int32) (move : Int32) (R_87 : ((Nat → Int32) × (Nat → Int64))) (R_96 : ((Nat → Int32) × (Nat → Int64))) : Int32 × St_Bo × Int32 × Int32 × Int32 × Int32 × Int32 :=
  (if (move >>> ((12 : Int32) &&& 31)) = 0 then f_Po_make_124 oS_board oS_side oS_rights oS_passed oS_clock oS_number move R_87 R_96 (f_Bo_manAt oS_board.1 (move &&& 63)) else f_Po_make_124 oS_board oS_side oS_rights oS_passed oS_clock oS_number move R_87 R_96 ((move >>> ((12 : Int32) &&& 31)) + (8 * oS_side)))
theorem f_Po_make_r96_eq (oS_board : St_Bo) (oS_side : Int32) (oS_rights : Int32) (oS_passed : Int32) (oS_clock : Int32) (oS_number : Int32) (move : Int32) (R_87 : ((Nat → Int32) × (Nat → Int64))) (R_96 : ((Nat → Int32) × (Nat → Int64))) : f_Po_make_r96 oS_board oS_side oS_rights oS_passed oS_clock oS_number move R_87 R_96 =
  (if (move >>> ((12 : Int32) &&& 31)) = 0 then f_Po_make_124 oS_board oS_side oS_rights oS_passed oS_clock oS_number move R_87 R_96 (f_Bo_manAt oS_board.1 (move &&& 63)) else f_Po_make_124 oS_board oS_side oS_rights oS_passed oS_clock oS_number move R_87 R_96 ((move >>> ((12 : Int32) &&& 31)) + (8 * oS_side))) := rfl

def f_Po_make_r87 (oS_board : St_Bo) (oS_side : Int32) (oS_rights : Int32) (oS_passed : Int32) (oS_clock : Int32) (oS_number : Int32) (move : Int32) (R_87 : ((Nat → Int32) × (Nat → Int64))) : Int32 × St_Bo × Int32 × Int32 × Int32 × Int32 × Int32 :=
  f_Po_make_r96 oS_board oS_side oS_rights oS_passed oS_clock oS_number move R_87 (f_Bo_put R_87.1 R_87.2 (move &&& 63) 0)
theorem f_Po_make_r87_eq (oS_board : St_Bo) (oS_side : Int32) (oS_rights : Int32) (oS_passed : Int32) (oS_clock : Int32) (oS_number : Int32) (move : Int32) (R_87 : ((Nat → Int32) × (Nat → Int64))) : f_Po_make_r87 oS_board oS_side oS_rights oS_passed oS_clock oS_number move R_87 =
  f_Po_make_r96 oS_board oS_side oS_rights oS_passed oS_clock oS_number move R_87 (f_Bo_put R_87.1 R_87.2 (move &&& 63) 0) := rfl

def f_Po_make (oS_board : St_Bo) (oS_side : Int32) (oS_rights : Int32) (oS_passed : Int32) (oS_clock : Int32) (oS_number : Int32) (move : Int32) : Int32 × St_Bo × Int32 × Int32 × Int32 × Int32 × Int32 :=
  f_Po_make_r87 oS_board oS_side oS_rights oS_passed oS_clock oS_number move (f_Bo_put oS_board.1 oS_board.2 (f_Po_squareOfTaken oS_side oS_passed (f_Bo_manAt oS_board.1 (move &&& 63)) ((move >>> ((6 : Int32) &&& 31)) &&& 63)) 0)
theorem f_Po_make_eq (oS_board : St_Bo) (oS_side : Int32) (oS_rights : Int32) (oS_passed : Int32) (oS_clock : Int32) (oS_number : Int32) (move : Int32) : f_Po_make oS_board oS_side oS_rights oS_passed oS_clock oS_number move =
  f_Po_make_r87 oS_board oS_side oS_rights oS_passed oS_clock oS_number move (f_Bo_put oS_board.1 oS_board.2 (f_Po_squareOfTaken oS_side oS_passed (f_Bo_manAt oS_board.1 (move &&& 63)) ((move >>> ((6 : Int32) &&& 31)) &&& 63)) 0) := rfl

set_option maxHeartbeats 4000000 in
set_option maxRecDepth 100000 in
theorem c_Po_make (l : Launch) (dC : Nat → ClassId) (dI : Nat → Nat → Nat) (cI cJ cC : ClassId) (ad : Nat → Nat) (o o_board o_board_men o_board_sets : Nat) (sz : Nat) (oS_board : St_Bo) (oS_side : Int32) (oS_rights : Int32) (oS_passed : Int32) (oS_clock : Int32) (oS_number : Int32) (move : Int32) : Met l yPo_make wsPo_make { frames := 2, cells := 0, slots := 0, locals := 50 } (rwP dC dI (TYS cI cJ cC) [.ref o, .int move] [(o, .inr (3, [.ref o_board, .int oS_side, .int oS_rights, .int oS_passed, .int oS_clock, .int oS_number])), (o_board, .inr (0, [.ref o_board_men, .ref o_board_sets])), (o_board_men, .inl (cI, 64, .inl oS_board.1)), (o_board_sets, .inl (cJ, 16, .inr (.inl oS_board.2)))] sz (GS ad)) (va_Qi (fun r (_ : Unit) => r = (f_Po_make oS_board oS_side oS_rights oS_passed oS_clock oS_number move).1) (rwB dC dI (TYS cI cJ cC) [(o, .inr (3, [.ref o_board, .int ((f_Po_make oS_board oS_side oS_rights oS_passed oS_clock oS_number move).2.2.1), .int ((f_Po_make oS_board oS_side oS_rights oS_passed oS_clock oS_number move).2.2.2.1), .int ((f_Po_make oS_board oS_side oS_rights oS_passed oS_clock oS_number move).2.2.2.2.1), .int ((f_Po_make oS_board oS_side oS_rights oS_passed oS_clock oS_number move).2.2.2.2.2.1), .int ((f_Po_make oS_board oS_side oS_rights oS_passed oS_clock oS_number move).2.2.2.2.2.2)])), (o_board, .inr (0, [.ref o_board_men, .ref o_board_sets])), (o_board_men, .inl (cI, 64, .inl (((f_Po_make oS_board oS_side oS_rights oS_passed oS_clock oS_number move).2.1).1))), (o_board_sets, .inl (cJ, 16, .inr (.inl (((f_Po_make oS_board oS_side oS_rights oS_passed oS_clock oS_number move).2.1).2))))] (va_A [(o, .inr (3, [.ref o_board, .int oS_side, .int oS_rights, .int oS_passed, .int oS_clock, .int oS_number])), (o_board, .inr (0, [.ref o_board_men, .ref o_board_sets])), (o_board_men, .inl (cI, 64, .inl oS_board.1)), (o_board_sets, .inl (cJ, 16, .inr (.inl oS_board.2)))] sz)) (va_A [(o, .inr (3, [.ref o_board, .int oS_side, .int oS_rights, .int oS_passed, .int oS_clock, .int oS_number])), (o_board, .inr (0, [.ref o_board_men, .ref o_board_sets])), (o_board_men, .inl (cI, 64, .inl oS_board.1)), (o_board_sets, .inl (cJ, 16, .inr (.inl oS_board.2)))] sz)) 0 0 (va_A [(o, .inr (3, [.ref o_board, .int oS_side, .int oS_rights, .int oS_passed, .int oS_clock, .int oS_number])), (o_board, .inr (0, [.ref o_board_men, .ref o_board_sets])), (o_board_men, .inl (cI, 64, .inl oS_board.1)), (o_board_sets, .inl (cJ, 16, .inr (.inl oS_board.2)))] sz) := by
  refine Met.ofW (cc := cPo_make) (maxL := 9) (ret := (some .int)) (by decide) rfl ?_
  intro p e s m args below meth c s₁ B hml hv
  obtain ⟨rfl, hsz, hP, hK, hD0, hG⟩ := hv
  have hx := B.exec
  have hb := B.bytes
  have hr := B.returns
  have hB : ∀ w9 ∈ BIG, w9.before ([.ref o, .int move]).toArray s = true := fun w9 h => atoms_spec (ws := wsPo_make) B.pre w9 (List.mem_cons_of_mem _ h)
  have hown : s.vm.findClass "ChessRules$Position" = some m.cls := findClass_of_methodNamed B.named
  have hlocks := B.notSynchronized
  subst hsz
  have hD := hD0.self (sz := s.heap.size)
  generalize hAe : va_A [(o, .inr (3, [.ref o_board, .int oS_side, .int oS_rights, .int oS_passed, .int oS_clock, .int oS_number])), (o_board, .inr (0, [.ref o_board_men, .ref o_board_sets])), (o_board_men, .inl (cI, 64, .inl oS_board.1)), (o_board_sets, .inl (cJ, 16, .inr (.inl oS_board.2)))] s.heap.size = A at hD hG ⊢
  have hA : ∀ q : Nat, s.heap.size ≤ q → A q := fun q h => by rw [← hAe]; exact Or.inr h
  have hS : va_S A s.heap s.heap [] := va_S.rf
  have hP : va_P (dC, dI) vwCl [(o, .inr (3, [.ref o_board, .int oS_side, .int oS_rights, .int oS_passed, .int oS_clock, .int oS_number])), (o_board, .inr (0, [.ref o_board_men, .ref o_board_sets])), (o_board_men, .inl (cI, 64, .inl oS_board.1)), (o_board_sets, .inl (cJ, 16, .inr (.inl oS_board.2)))] s.heap := hP
  have hl := lv_entry ([.ref o, .int move]) (n := 9) (Nat.le_of_ble_eq_true rfl)
  rw [lg_entry_eq]
  generalize (lg_sl ([.ref o, .int move]) ++ List.replicate (9 - (lg_sl ([.ref o, .int move])).length) Slot.unset).toArray = ls at hl ⊢
  have hl : lv_has ls 9 [(0, .ref o), (1, .int move)] := hl
  refine lv_iload_n hx hb dPo_make_0 rfl (lv_at hl 1 rfl) ?_
  refine lv_bipush (v := 63) hx hb dPo_make_1 (by decide) ?_
  refine lv_iand hx hb dPo_make_3 ?_
  refine lv_istore_n (lv' := [(2, .int (move &&& 63)), (0, .ref o), (1, .int move)]) hx hb dPo_make_4 rfl hl (by decide) rfl (fun ls hl => ?_)
  refine lv_iload_n hx hb dPo_make_5 rfl (lv_at hl 2 rfl) ?_
  refine lv_bipush (v := 6) hx hb dPo_make_6 (by decide) ?_
  refine lv_ishr hx hb dPo_make_8 ?_
  refine lv_bipush (v := 63) hx hb dPo_make_9 (by decide) ?_
  refine lv_iand hx hb dPo_make_11 ?_
  refine lv_istore_n (lv' := [(3, .int ((move >>> ((6 : Int32) &&& 31)) &&& 63)), (2, .int (move &&& 63)), (0, .ref o), (1, .int move)]) hx hb dPo_make_12 rfl hl (by decide) rfl (fun ls hl => ?_)
  refine lv_iload_n hx hb dPo_make_13 rfl (lv_at hl 3 rfl) ?_
  refine lv_bipush (v := 12) hx hb dPo_make_14 (by decide) ?_
  refine lv_ishr hx hb dPo_make_16 ?_
  refine lv_istore (lv' := [(4, .int (move >>> ((12 : Int32) &&& 31))), (3, .int ((move >>> ((6 : Int32) &&& 31)) &&& 63)), (2, .int (move &&& 63)), (0, .ref o), (1, .int move)]) hx hb dPo_make_17 hl (by decide) rfl (fun ls hl => ?_)
  refine lv_aload_n hx hb dPo_make_19 rfl (lv_at hl 3 rfl) ?_
  refine va_get (D := (dC, dI)) (ci := 3) (v := .ref o_board) (C := RPo) (T := TPo) (N := 6) hx hb hB inPo hown hK hP 0 rfl rfl 0 (by decide) (hB _ q1_77) (fun _ h9 => h9) rfl dPo_make_20 ?_
  refine lv_iload_n hx hb dPo_make_23 rfl (lv_at hl 2 rfl) ?_
  refine ro_goi (va_runVN (C := "ChessRules$Board") (As := [.int (move &&& 63)]) (rest := []) ⟨hx, hb, hml, hown, hB⟩ (c_Bo_manAt l dC dI cI cJ cC ad o_board o_board_men o_board_sets oS_board.1 oS_board.2 (move &&& 63)) ⟨va_cnB 1 hB (big_self q2_168) rfl rfl rfl (hG.1 _ q2_206) (hB _ q1_5) (by decide +kernel) ⟨Nat.le_of_ble_eq_true rfl, Nat.le_of_ble_eq_true rfl⟩, (hB _ q2_167), (hB _ qs2_7)⟩ (ro_preV (GS_ok ad) hK hP hG hS [1, 2, 3] rfl (va_recv hK hP (ci := 0) (q0 := 1) rfl rfl)) rfl rfl hl.1 rfl (lv_room (Nat.le_of_ble_eq_true rfl)) dPo_make_24 ⟨Nat.le_of_ble_eq_true rfl, Nat.le_of_ble_eq_true rfl⟩) ?_
  refine lv_istore (lv' := [(5, .int (f_Bo_manAt oS_board.1 (move &&& 63))), (4, .int (move >>> ((12 : Int32) &&& 31))), (3, .int ((move >>> ((6 : Int32) &&& 31)) &&& 63)), (2, .int (move &&& 63)), (0, .ref o), (1, .int move)]) hx hb dPo_make_27 hl (by decide) rfl (fun ls hl => ?_)
  refine lv_aload_n hx hb dPo_make_29 rfl (lv_at hl 4 rfl) ?_
  refine lv_iload hx hb dPo_make_30 (lv_at hl 0 rfl) ?_
  refine lv_iload_n hx hb dPo_make_32 rfl (lv_at hl 2 rfl) ?_
  refine ro_goi (va_runV (C := "ChessRules$Position") (As := [.int (f_Bo_manAt oS_board.1 (move &&& 63)), .int ((move >>> ((6 : Int32) &&& 31)) &&& 63)]) (rest := []) ⟨hx, hb, hml, hown, hB⟩ (c_Po_squareOfTaken l dC dI cI cJ cC ad o o_board o_board_men o_board_sets oS_board oS_side oS_rights oS_passed oS_clock oS_number (f_Bo_manAt oS_board.1 (move &&& 63)) ((move >>> ((6 : Int32) &&& 31)) &&& 63)) ⟨callB_of 2 hB (big_self q2_227) rfl rfl rfl (hB _ q1_4) (hB _ q2_224) (by decide +kernel) ⟨Nat.le_of_ble_eq_true rfl, Nat.le_of_ble_eq_true rfl⟩, (hB _ q2_226), (hB _ qs3_2)⟩ (ro_preV (GS_ok ad) hK hP hG hS [0, 1, 2, 3] rfl (va_recv hK hP (ci := 3) (q0 := 0) rfl rfl)) rfl rfl hl.1 rfl (lv_room (Nat.le_of_ble_eq_true rfl)) dPo_make_33 ⟨Nat.le_of_ble_eq_true rfl, Nat.le_of_ble_eq_true rfl⟩) ?_
  refine lv_istore (lv' := [(6, .int (f_Po_squareOfTaken oS_side oS_passed (f_Bo_manAt oS_board.1 (move &&& 63)) ((move >>> ((6 : Int32) &&& 31)) &&& 63))), (5, .int (f_Bo_manAt oS_board.1 (move &&& 63))), (4, .int (move >>> ((12 : Int32) &&& 31))), (3, .int ((move >>> ((6 : Int32) &&& 31)) &&& 63)), (2, .int (move &&& 63)), (0, .ref o), (1, .int move)]) hx hb dPo_make_36 hl (by decide) rfl (fun ls hl => ?_)
  refine lv_aload_n hx hb dPo_make_38 rfl (lv_at hl 5 rfl) ?_
  refine va_get (D := (dC, dI)) (ci := 3) (v := .ref o_board) (C := RPo) (T := TPo) (N := 6) hx hb hB inPo hown hK hP 0 rfl rfl 0 (by decide) (hB _ q1_77) (fun _ h9 => h9) rfl dPo_make_39 ?_
  refine lv_iload hx hb dPo_make_42 (lv_at hl 0 rfl) ?_
  refine ro_goi (va_runVN (C := "ChessRules$Board") (As := [.int (f_Po_squareOfTaken oS_side oS_passed (f_Bo_manAt oS_board.1 (move &&& 63)) ((move >>> ((6 : Int32) &&& 31)) &&& 63))]) (rest := []) ⟨hx, hb, hml, hown, hB⟩ (c_Bo_manAt l dC dI cI cJ cC ad o_board o_board_men o_board_sets oS_board.1 oS_board.2 (f_Po_squareOfTaken oS_side oS_passed (f_Bo_manAt oS_board.1 (move &&& 63)) ((move >>> ((6 : Int32) &&& 31)) &&& 63))) ⟨va_cnB 1 hB (big_self q2_168) rfl rfl rfl (hG.1 _ q2_206) (hB _ q1_5) (by decide +kernel) ⟨Nat.le_of_ble_eq_true rfl, Nat.le_of_ble_eq_true rfl⟩, (hB _ q2_167), (hB _ qs2_7)⟩ (ro_preV (GS_ok ad) hK hP hG hS [1, 2, 3] rfl (va_recv hK hP (ci := 0) (q0 := 1) rfl rfl)) rfl rfl hl.1 rfl (lv_room (Nat.le_of_ble_eq_true rfl)) dPo_make_44 ⟨Nat.le_of_ble_eq_true rfl, Nat.le_of_ble_eq_true rfl⟩) ?_
  refine lv_istore (lv' := [(7, .int (f_Bo_manAt oS_board.1 (f_Po_squareOfTaken oS_side oS_passed (f_Bo_manAt oS_board.1 (move &&& 63)) ((move >>> ((6 : Int32) &&& 31)) &&& 63)))), (6, .int (f_Po_squareOfTaken oS_side oS_passed (f_Bo_manAt oS_board.1 (move &&& 63)) ((move >>> ((6 : Int32) &&& 31)) &&& 63))), (5, .int (f_Bo_manAt oS_board.1 (move &&& 63))), (4, .int (move >>> ((12 : Int32) &&& 31))), (3, .int ((move >>> ((6 : Int32) &&& 31)) &&& 63)), (2, .int (move &&& 63)), (0, .ref o), (1, .int move)]) hx hb dPo_make_47 hl (by decide) rfl (fun ls hl => ?_)
  refine lv_iload hx hb dPo_make_49 (lv_at hl 0 rfl) ?_
  refine lv_bipush (v := 16) hx hb dPo_make_51 (by decide) ?_
  refine lv_aload_n hx hb dPo_make_53 rfl (lv_at hl 6 rfl) ?_
  refine va_get (D := (dC, dI)) (ci := 3) (v := .int oS_rights) (C := RPo) (T := TPo) (N := 6) hx hb hB inPo hown hK hP 0 rfl rfl 2 (by decide) (hB _ q1_89) (fun _ h9 => h9) rfl dPo_make_54 ?_
  refine lv_imul hx hb dPo_make_57 ?_
  refine lv_iadd hx hb dPo_make_58 ?_
  refine lv_sipush (v := 256) hx hb dPo_make_59 (by decide) ?_
  refine lv_aload_n hx hb dPo_make_62 rfl (lv_at hl 6 rfl) ?_
  refine va_get (D := (dC, dI)) (ci := 3) (v := .int oS_passed) (C := RPo) (T := TPo) (N := 6) hx hb hB inPo hown hK hP 0 rfl rfl 3 (by decide) (hB _ q1_94) (fun _ h9 => h9) rfl dPo_make_63 ?_
  refine lv_iconst (v := 1) hx hb dPo_make_66 (by decide) ?_
  refine lv_iadd hx hb dPo_make_67 ?_
  refine lv_imul hx hb dPo_make_68 ?_
  refine lv_iadd hx hb dPo_make_69 ?_
  refine lv_ldc (v := 32768) hx hb hown (hB _ q4_118) dPo_make_70 ?_
  refine lv_aload_n hx hb dPo_make_72 rfl (lv_at hl 6 rfl) ?_
  refine va_get (D := (dC, dI)) (ci := 3) (v := .int oS_clock) (C := RPo) (T := TPo) (N := 6) hx hb hB inPo hown hK hP 0 rfl rfl 4 (by decide) (hB _ q1_98) (fun _ h9 => h9) rfl dPo_make_73 ?_
  refine lv_imul hx hb dPo_make_76 ?_
  refine lv_iadd hx hb dPo_make_77 ?_
  refine lv_istore (lv' := [(8, .int ((((f_Bo_manAt oS_board.1 (f_Po_squareOfTaken oS_side oS_passed (f_Bo_manAt oS_board.1 (move &&& 63)) ((move >>> ((6 : Int32) &&& 31)) &&& 63))) + (16 * oS_rights)) + (256 * (oS_passed + 1))) + (32768 * oS_clock))), (7, .int (f_Bo_manAt oS_board.1 (f_Po_squareOfTaken oS_side oS_passed (f_Bo_manAt oS_board.1 (move &&& 63)) ((move >>> ((6 : Int32) &&& 31)) &&& 63)))), (6, .int (f_Po_squareOfTaken oS_side oS_passed (f_Bo_manAt oS_board.1 (move &&& 63)) ((move >>> ((6 : Int32) &&& 31)) &&& 63))), (5, .int (f_Bo_manAt oS_board.1 (move &&& 63))), (4, .int (move >>> ((12 : Int32) &&& 31))), (3, .int ((move >>> ((6 : Int32) &&& 31)) &&& 63)), (2, .int (move &&& 63)), (0, .ref o), (1, .int move)]) hx hb dPo_make_78 hl (by decide) rfl (fun ls hl => ?_)
  refine lv_aload_n hx hb dPo_make_80 rfl (lv_at hl 7 rfl) ?_
  refine va_get (D := (dC, dI)) (ci := 3) (v := .ref o_board) (C := RPo) (T := TPo) (N := 6) hx hb hB inPo hown hK hP 0 rfl rfl 0 (by decide) (hB _ q1_77) (fun _ h9 => h9) rfl dPo_make_81 ?_
  refine lv_iload hx hb dPo_make_84 (lv_at hl 2 rfl) ?_
  refine lv_iconst (v := 0) hx hb dPo_make_86 (by decide) ?_
  obtain ⟨R_87, hR_87⟩ : ∃ R9, R9 = f_Bo_put oS_board.1 oS_board.2 (f_Po_squareOfTaken oS_side oS_passed (f_Bo_manAt oS_board.1 (move &&& 63)) ((move >>> ((6 : Int32) &&& 31)) &&& 63)) 0 := ⟨_, rfl⟩
  have hM_87 := (c_Bo_put l dC dI cI cJ cC ad o_board o_board_men o_board_sets s.heap.size oS_board.1 oS_board.2 (f_Po_squareOfTaken oS_side oS_passed (f_Bo_manAt oS_board.1 (move &&& 63)) ((move >>> ((6 : Int32) &&& 31)) &&& 63)) 0)
  rw [← hR_87] at hM_87
  refine rw_gov (wr := [(o, .inr (3, [.ref o_board, .int oS_side, .int oS_rights, .int oS_passed, .int oS_clock, .int oS_number]))]) (va_runVN (C := "ChessRules$Board") (As := [.int (f_Po_squareOfTaken oS_side oS_passed (f_Bo_manAt oS_board.1 (move &&& 63)) ((move >>> ((6 : Int32) &&& 31)) &&& 63)), .int 0]) (rest := []) ⟨hx, hb, hml, hown, hB⟩ hM_87 ⟨va_cnB 2 hB (big_self q1_228) rfl rfl rfl (hG.1 _ q1_225) (hB _ q1_5) (by decide +kernel) ⟨Nat.le_of_ble_eq_true rfl, Nat.le_of_ble_eq_true rfl⟩, (hB _ q1_227), (hB _ qs1_3)⟩ (rw_preV (GS_ok ad) hK hP hD hA hG hS [1, 2, 3] (by decide) rfl rfl (va_recv hK hP (ci := 0) (q0 := 1) rfl rfl)) rfl rfl hl.1 rfl (lv_room (Nat.le_of_ble_eq_true rfl)) dPo_make_87 ⟨Nat.le_of_ble_eq_true rfl, Nat.le_of_ble_eq_true rfl⟩) hP hD hS hA [1, 2, 3] [0] rfl rfl (by decide) (by decide) (fun H locs hP hD hS => ?_)
  have hP : va_P (dC, dI) vwCl [(o, .inr (3, [.ref o_board, .int oS_side, .int oS_rights, .int oS_passed, .int oS_clock, .int oS_number])), (o_board, .inr (0, [.ref o_board_men, .ref o_board_sets])), (o_board_men, .inl (cI, 64, .inl R_87.1)), (o_board_sets, .inl (cJ, 16, .inr (.inl R_87.2)))] H := hP
  have hD : va_D A [(o, .inr (3, [.ref o_board, .int oS_side, .int oS_rights, .int oS_passed, .int oS_clock, .int oS_number])), (o_board, .inr (0, [.ref o_board_men, .ref o_board_sets])), (o_board_men, .inl (cI, 64, .inl R_87.1)), (o_board_sets, .inl (cJ, 16, .inr (.inl R_87.2)))] := hD
  have he_r87 : f_Po_make oS_board oS_side oS_rights oS_passed oS_clock oS_number move = f_Po_make_r87 oS_board oS_side oS_rights oS_passed oS_clock oS_number move R_87 := (by rw [f_Po_make_eq, ← hR_87] <;> rfl)
  refine lv_aload_n hx hb dPo_make_90 rfl (lv_at hl 7 rfl) ?_
  refine va_get (D := (dC, dI)) (ci := 3) (v := .ref o_board) (C := RPo) (T := TPo) (N := 6) hx hb hB inPo hown hK hP 0 rfl rfl 0 (by decide) (hB _ q1_77) (fun _ h9 => h9) rfl dPo_make_91 ?_
  refine lv_iload_n hx hb dPo_make_94 rfl (lv_at hl 6 rfl) ?_
  refine lv_iconst (v := 0) hx hb dPo_make_95 (by decide) ?_
  obtain ⟨R_96, hR_96⟩ : ∃ R9, R9 = f_Bo_put R_87.1 R_87.2 (move &&& 63) 0 := ⟨_, rfl⟩
  have hM_96 := (c_Bo_put l dC dI cI cJ cC ad o_board o_board_men o_board_sets H.size R_87.1 R_87.2 (move &&& 63) 0)
  rw [← hR_96] at hM_96
  refine rw_gov (wr := [(o, .inr (3, [.ref o_board, .int oS_side, .int oS_rights, .int oS_passed, .int oS_clock, .int oS_number]))]) (va_runVN (C := "ChessRules$Board") (As := [.int (move &&& 63), .int 0]) (rest := []) ⟨hx, hb, hml, hown, hB⟩ hM_96 ⟨va_cnB 2 hB (big_self q1_228) rfl rfl rfl (hG.1 _ q1_225) (hB _ q1_5) (by decide +kernel) ⟨Nat.le_of_ble_eq_true rfl, Nat.le_of_ble_eq_true rfl⟩, (hB _ q1_227), (hB _ qs1_3)⟩ (rw_preV (GS_ok ad) hK hP hD hA hG hS [1, 2, 3] (by decide) rfl rfl (va_recv hK hP (ci := 0) (q0 := 1) rfl rfl)) rfl rfl hl.1 rfl (lv_room (Nat.le_of_ble_eq_true rfl)) dPo_make_96 ⟨Nat.le_of_ble_eq_true rfl, Nat.le_of_ble_eq_true rfl⟩) hP hD hS hA [1, 2, 3] [0] rfl rfl (by decide) (by decide) (fun H locs hP hD hS => ?_)
  have hP : va_P (dC, dI) vwCl [(o, .inr (3, [.ref o_board, .int oS_side, .int oS_rights, .int oS_passed, .int oS_clock, .int oS_number])), (o_board, .inr (0, [.ref o_board_men, .ref o_board_sets])), (o_board_men, .inl (cI, 64, .inl R_96.1)), (o_board_sets, .inl (cJ, 16, .inr (.inl R_96.2)))] H := hP
  have hD : va_D A [(o, .inr (3, [.ref o_board, .int oS_side, .int oS_rights, .int oS_passed, .int oS_clock, .int oS_number])), (o_board, .inr (0, [.ref o_board_men, .ref o_board_sets])), (o_board_men, .inl (cI, 64, .inl R_96.1)), (o_board_sets, .inl (cJ, 16, .inr (.inl R_96.2)))] := hD
  have he_r96 : f_Po_make oS_board oS_side oS_rights oS_passed oS_clock oS_number move = f_Po_make_r96 oS_board oS_side oS_rights oS_passed oS_clock oS_number move R_87 R_96 := (he_r87.trans (by rw [f_Po_make_r87_eq, ← hR_96] <;> rfl))
  refine lv_aload_n hx hb dPo_make_99 rfl (lv_at hl 7 rfl) ?_
  refine va_get (D := (dC, dI)) (ci := 3) (v := .ref o_board) (C := RPo) (T := TPo) (N := 6) hx hb hB inPo hown hK hP 0 rfl rfl 0 (by decide) (hB _ q1_77) (fun _ h9 => h9) rfl dPo_make_100 ?_
  refine lv_iload_n hx hb dPo_make_103 rfl (lv_at hl 5 rfl) ?_
  refine lv_iload hx hb dPo_make_104 (lv_at hl 4 rfl) ?_
  have J_124 : ∀ (k0_124 : Int32), f_Po_make oS_board oS_side oS_rights oS_passed oS_clock oS_number move = f_Po_make_124 oS_board oS_side oS_rights oS_passed oS_clock oS_number move R_87 R_96 k0_124 → ∀ (H : Heap) (locs : List Loc), va_P (dC, dI) vwCl [(o, .inr (3, [.ref o_board, .int oS_side, .int oS_rights, .int oS_passed, .int oS_clock, .int oS_number])), (o_board, .inr (0, [.ref o_board_men, .ref o_board_sets])), (o_board_men, .inl (cI, 64, .inl R_96.1)), (o_board_sets, .inl (cJ, 16, .inr (.inl R_96.2)))] H → va_D A [(o, .inr (3, [.ref o_board, .int oS_side, .int oS_rights, .int oS_passed, .int oS_clock, .int oS_number])), (o_board, .inr (0, [.ref o_board_men, .ref o_board_sets])), (o_board_men, .inl (cI, 64, .inl R_96.1)), (o_board_sets, .inl (cJ, 16, .inr (.inl R_96.2)))] → va_S A s.heap H locs → ∀ ls : Array Slot, lv_has ls 9 [(0, .ref o), (2, .int (move &&& 63)), (3, .int ((move >>> ((6 : Int32) &&& 31)) &&& 63)), (5, .int (f_Bo_manAt oS_board.1 (move &&& 63))), (7, .int (f_Bo_manAt oS_board.1 (f_Po_squareOfTaken oS_side oS_passed (f_Bo_manAt oS_board.1 (move &&& 63)) ((move >>> ((6 : Int32) &&& 31)) &&& 63)))), (8, .int ((((f_Bo_manAt oS_board.1 (f_Po_squareOfTaken oS_side oS_passed (f_Bo_manAt oS_board.1 (move &&& 63)) ((move >>> ((6 : Int32) &&& 31)) &&& 63))) + (16 * oS_rights)) + (256 * (oS_passed + 1))) + (32768 * oS_clock)))] → W p l e (headSpec wsPo_make { frames := 2, cells := 0, slots := 0, locals := 50 }).room s m ([.ref o, .int move]).toArray below meth c H locs 0 0 (MQ below (va_Qi (fun r (_ : Unit) => r = (f_Po_make oS_board oS_side oS_rights oS_passed oS_clock oS_number move).1) (rwB dC dI (TYS cI cJ cC) [(o, .inr (3, [.ref o_board, .int ((f_Po_make oS_board oS_side oS_rights oS_passed oS_clock oS_number move).2.2.1), .int ((f_Po_make oS_board oS_side oS_rights oS_passed oS_clock oS_number move).2.2.2.1), .int ((f_Po_make oS_board oS_side oS_rights oS_passed oS_clock oS_number move).2.2.2.2.1), .int ((f_Po_make oS_board oS_side oS_rights oS_passed oS_clock oS_number move).2.2.2.2.2.1), .int ((f_Po_make oS_board oS_side oS_rights oS_passed oS_clock oS_number move).2.2.2.2.2.2)])), (o_board, .inr (0, [.ref o_board_men, .ref o_board_sets])), (o_board_men, .inl (cI, 64, .inl (((f_Po_make oS_board oS_side oS_rights oS_passed oS_clock oS_number move).2.1).1))), (o_board_sets, .inl (cJ, 16, .inr (.inl (((f_Po_make oS_board oS_side oS_rights oS_passed oS_clock oS_number move).2.1).2))))] A) A) ([.ref o, .int move]).toArray s 0 0 A) (F0 m 124 ls [.int k0_124, .int ((move >>> ((6 : Int32) &&& 31)) &&& 63), .ref o_board]) := by
    intro k0_124 he_124 H locs hP hD hS ls hl
    obtain ⟨R_124, hR_124⟩ : ∃ R9, R9 = f_Bo_put R_96.1 R_96.2 ((move >>> ((6 : Int32) &&& 31)) &&& 63) k0_124 := ⟨_, rfl⟩
    have hM_124 := (c_Bo_put l dC dI cI cJ cC ad o_board o_board_men o_board_sets H.size R_96.1 R_96.2 ((move >>> ((6 : Int32) &&& 31)) &&& 63) k0_124)
    rw [← hR_124] at hM_124
    refine rw_gov (wr := [(o, .inr (3, [.ref o_board, .int oS_side, .int oS_rights, .int oS_passed, .int oS_clock, .int oS_number]))]) (va_runVN (C := "ChessRules$Board") (As := [.int ((move >>> ((6 : Int32) &&& 31)) &&& 63), .int k0_124]) (rest := []) ⟨hx, hb, hml, hown, hB⟩ hM_124 ⟨va_cnB 2 hB (big_self q1_228) rfl rfl rfl (hG.1 _ q1_225) (hB _ q1_5) (by decide +kernel) ⟨Nat.le_of_ble_eq_true rfl, Nat.le_of_ble_eq_true rfl⟩, (hB _ q1_227), (hB _ qs1_3)⟩ (rw_preV (GS_ok ad) hK hP hD hA hG hS [1, 2, 3] (by decide) rfl rfl (va_recv hK hP (ci := 0) (q0 := 1) rfl rfl)) rfl rfl hl.1 rfl (lv_room (Nat.le_of_ble_eq_true rfl)) dPo_make_124 ⟨Nat.le_of_ble_eq_true rfl, Nat.le_of_ble_eq_true rfl⟩) hP hD hS hA [1, 2, 3] [0] rfl rfl (by decide) (by decide) (fun H locs hP hD hS => ?_)
    have hP : va_P (dC, dI) vwCl [(o, .inr (3, [.ref o_board, .int oS_side, .int oS_rights, .int oS_passed, .int oS_clock, .int oS_number])), (o_board, .inr (0, [.ref o_board_men, .ref o_board_sets])), (o_board_men, .inl (cI, 64, .inl R_124.1)), (o_board_sets, .inl (cJ, 16, .inr (.inl R_124.2)))] H := hP
    have hD : va_D A [(o, .inr (3, [.ref o_board, .int oS_side, .int oS_rights, .int oS_passed, .int oS_clock, .int oS_number])), (o_board, .inr (0, [.ref o_board_men, .ref o_board_sets])), (o_board_men, .inl (cI, 64, .inl R_124.1)), (o_board_sets, .inl (cJ, 16, .inr (.inl R_124.2)))] := hD
    have he_r124 : f_Po_make oS_board oS_side oS_rights oS_passed oS_clock oS_number move = f_Po_make_r124 oS_board oS_side oS_rights oS_passed oS_clock oS_number move R_87 R_96 k0_124 R_124 := (he_124.trans (by rw [f_Po_make_124_eq, ← hR_124] <;> rfl))
    refine lv_iload hx hb dPo_make_127 (lv_at hl 3 rfl) ?_
    refine lv_iload_n hx hb dPo_make_129 rfl (lv_at hl 1 rfl) ?_
    refine lv_iload_n hx hb dPo_make_130 rfl (lv_at hl 2 rfl) ?_
    refine ro_goi (va_runS (As := [.int (f_Bo_manAt oS_board.1 (move &&& 63)), .int (move &&& 63), .int ((move >>> ((6 : Int32) &&& 31)) &&& 63)]) (rest := []) ⟨hx, hb, hml, hown, hB⟩ (c_Po_isCastling l dC dI cI cJ cC ad (f_Bo_manAt oS_board.1 (move &&& 63)) (move &&& 63) ((move >>> ((6 : Int32) &&& 31)) &&& 63)) ⟨callB_of 3 hB (big_self q4_121) rfl rfl rfl (hB _ q1_4) (hB _ q4_119) (by decide +kernel) ⟨Nat.le_of_ble_eq_true rfl, Nat.le_of_ble_eq_true rfl⟩, (hB _ q4_120)⟩ (ro_preS (GS_ok ad) hK hP hG hS [] rfl) rfl rfl hl.1 rfl (lv_room (Nat.le_of_ble_eq_true rfl)) dPo_make_131 ⟨Nat.le_of_ble_eq_true rfl, Nat.le_of_ble_eq_true rfl⟩) ?_
    have J_183 : ∀ (W_o_board_183 : St_Bo), f_Po_make oS_board oS_side oS_rights oS_passed oS_clock oS_number move = f_Po_make_183 oS_board oS_side oS_rights oS_passed oS_clock oS_number move R_87 R_96 k0_124 R_124 W_o_board_183 → ∀ (H : Heap) (locs : List Loc), va_P (dC, dI) vwCl [(o, .inr (3, [.ref o_board, .int oS_side, .int oS_rights, .int oS_passed, .int oS_clock, .int oS_number])), (o_board, .inr (0, [.ref o_board_men, .ref o_board_sets])), (o_board_men, .inl (cI, 64, .inl W_o_board_183.1)), (o_board_sets, .inl (cJ, 16, .inr (.inl W_o_board_183.2)))] H → va_D A [(o, .inr (3, [.ref o_board, .int oS_side, .int oS_rights, .int oS_passed, .int oS_clock, .int oS_number])), (o_board, .inr (0, [.ref o_board_men, .ref o_board_sets])), (o_board_men, .inl (cI, 64, .inl W_o_board_183.1)), (o_board_sets, .inl (cJ, 16, .inr (.inl W_o_board_183.2)))] → va_S A s.heap H locs → ∀ ls : Array Slot, lv_has ls 9 [(0, .ref o), (2, .int (move &&& 63)), (3, .int ((move >>> ((6 : Int32) &&& 31)) &&& 63)), (5, .int (f_Bo_manAt oS_board.1 (move &&& 63))), (7, .int (f_Bo_manAt oS_board.1 (f_Po_squareOfTaken oS_side oS_passed (f_Bo_manAt oS_board.1 (move &&& 63)) ((move >>> ((6 : Int32) &&& 31)) &&& 63)))), (8, .int ((((f_Bo_manAt oS_board.1 (f_Po_squareOfTaken oS_side oS_passed (f_Bo_manAt oS_board.1 (move &&& 63)) ((move >>> ((6 : Int32) &&& 31)) &&& 63))) + (16 * oS_rights)) + (256 * (oS_passed + 1))) + (32768 * oS_clock)))] → W p l e (headSpec wsPo_make { frames := 2, cells := 0, slots := 0, locals := 50 }).room s m ([.ref o, .int move]).toArray below meth c H locs 0 0 (MQ below (va_Qi (fun r (_ : Unit) => r = (f_Po_make oS_board oS_side oS_rights oS_passed oS_clock oS_number move).1) (rwB dC dI (TYS cI cJ cC) [(o, .inr (3, [.ref o_board, .int ((f_Po_make oS_board oS_side oS_rights oS_passed oS_clock oS_number move).2.2.1), .int ((f_Po_make oS_board oS_side oS_rights oS_passed oS_clock oS_number move).2.2.2.1), .int ((f_Po_make oS_board oS_side oS_rights oS_passed oS_clock oS_number move).2.2.2.2.1), .int ((f_Po_make oS_board oS_side oS_rights oS_passed oS_clock oS_number move).2.2.2.2.2.1), .int ((f_Po_make oS_board oS_side oS_rights oS_passed oS_clock oS_number move).2.2.2.2.2.2)])), (o_board, .inr (0, [.ref o_board_men, .ref o_board_sets])), (o_board_men, .inl (cI, 64, .inl (((f_Po_make oS_board oS_side oS_rights oS_passed oS_clock oS_number move).2.1).1))), (o_board_sets, .inl (cJ, 16, .inr (.inl (((f_Po_make oS_board oS_side oS_rights oS_passed oS_clock oS_number move).2.1).2))))] A) A) ([.ref o, .int move]).toArray s 0 0 A) (F0 m 183 ls []) := by
      intro W_o_board_183 he_183 H locs hP hD hS ls hl
      refine lv_aload_n hx hb dPo_make_183 rfl (lv_at hl 0 rfl) ?_
      refine lv_dup hx hb dPo_make_184 rfl ?_
      refine va_get (D := (dC, dI)) (ci := 3) (v := .int oS_rights) (C := RPo) (T := TPo) (N := 6) hx hb hB inPo hown hK hP 0 rfl rfl 2 (by decide) (hB _ q1_89) (fun _ h9 => h9) rfl dPo_make_185 ?_
      refine lv_iload_n hx hb dPo_make_188 rfl (lv_at hl 1 rfl) ?_
      refine ro_goi (va_runS (As := [.int (move &&& 63)]) (rest := [.int oS_rights, .ref o]) ⟨hx, hb, hml, hown, hB⟩ (c_Po_rightsBoundTo l dC dI cI cJ cC ad (move &&& 63)) ⟨callB_of 1 hB (big_self q4_128) rfl rfl rfl (hB _ q1_4) (hB _ q4_126) (by decide +kernel) ⟨Nat.le_of_ble_eq_true rfl, Nat.le_of_ble_eq_true rfl⟩, (hB _ q4_127)⟩ (ro_preS (GS_ok ad) hK hP hG hS [] rfl) rfl rfl hl.1 rfl (lv_room (Nat.le_of_ble_eq_true rfl)) dPo_make_189 ⟨Nat.le_of_ble_eq_true rfl, Nat.le_of_ble_eq_true rfl⟩) ?_
      refine lv_iload_n hx hb dPo_make_192 rfl (lv_at hl 2 rfl) ?_
      refine ro_goi (va_runS (As := [.int ((move >>> ((6 : Int32) &&& 31)) &&& 63)]) (rest := [.int (f_Po_rightsBoundTo (move &&& 63)), .int oS_rights, .ref o]) ⟨hx, hb, hml, hown, hB⟩ (c_Po_rightsBoundTo l dC dI cI cJ cC ad ((move >>> ((6 : Int32) &&& 31)) &&& 63)) ⟨callB_of 1 hB (big_self q4_128) rfl rfl rfl (hB _ q1_4) (hB _ q4_126) (by decide +kernel) ⟨Nat.le_of_ble_eq_true rfl, Nat.le_of_ble_eq_true rfl⟩, (hB _ q4_127)⟩ (ro_preS (GS_ok ad) hK hP hG hS [] rfl) rfl rfl hl.1 rfl (lv_room (Nat.le_of_ble_eq_true rfl)) dPo_make_193 ⟨Nat.le_of_ble_eq_true rfl, Nat.le_of_ble_eq_true rfl⟩) ?_
      refine lv_ior hx hb dPo_make_196 ?_
      refine lv_iconst (v := (-1)) hx hb dPo_make_197 (by decide) ?_
      refine lv_ixor hx hb dPo_make_198 ?_
      refine lv_iand hx hb dPo_make_199 ?_
      refine va_put (D := (dC, dI)) (ci := 3) (v := .int (oS_rights &&& (((f_Po_rightsBoundTo (move &&& 63)) ||| (f_Po_rightsBoundTo ((move >>> ((6 : Int32) &&& 31)) &&& 63))) ^^^ (-1)))) (ty := .int) (C := RPo) (T := TPo) (N := 6) hx hb hB inPo tyPo tyPo_ok nmPo hown hK hP hD hS 0 rfl rfl 2 (by decide) (hB _ q1_89) (fun _ h9 => h9) rfl (by decide +kernel) rfl rfl (Nat.le_of_ble_eq_true rfl) dPo_make_200 (fun H locs hP hD hS => ?_)
      have hP : va_P (dC, dI) vwCl [(o, .inr (3, [.ref o_board, .int oS_side, .int (oS_rights &&& (((f_Po_rightsBoundTo (move &&& 63)) ||| (f_Po_rightsBoundTo ((move >>> ((6 : Int32) &&& 31)) &&& 63))) ^^^ (-1))), .int oS_passed, .int oS_clock, .int oS_number])), (o_board, .inr (0, [.ref o_board_men, .ref o_board_sets])), (o_board_men, .inl (cI, 64, .inl W_o_board_183.1)), (o_board_sets, .inl (cJ, 16, .inr (.inl W_o_board_183.2)))] H := hP
      have hD : va_D A [(o, .inr (3, [.ref o_board, .int oS_side, .int (oS_rights &&& (((f_Po_rightsBoundTo (move &&& 63)) ||| (f_Po_rightsBoundTo ((move >>> ((6 : Int32) &&& 31)) &&& 63))) ^^^ (-1))), .int oS_passed, .int oS_clock, .int oS_number])), (o_board, .inr (0, [.ref o_board_men, .ref o_board_sets])), (o_board_men, .inl (cI, 64, .inl W_o_board_183.1)), (o_board_sets, .inl (cJ, 16, .inr (.inl W_o_board_183.2)))] := hD
      refine lv_aload_n hx hb dPo_make_203 rfl (lv_at hl 0 rfl) ?_
      refine lv_aload_n hx hb dPo_make_204 rfl (lv_at hl 0 rfl) ?_
      refine lv_iload hx hb dPo_make_205 (lv_at hl 3 rfl) ?_
      refine lv_iload_n hx hb dPo_make_207 rfl (lv_at hl 1 rfl) ?_
      refine lv_iload_n hx hb dPo_make_208 rfl (lv_at hl 2 rfl) ?_
      refine ro_goi (va_runV (C := "ChessRules$Position") (As := [.int (f_Bo_manAt oS_board.1 (move &&& 63)), .int (move &&& 63), .int ((move >>> ((6 : Int32) &&& 31)) &&& 63)]) (rest := [.ref o]) ⟨hx, hb, hml, hown, hB⟩ (c_Po_squarePassed l dC dI cI cJ cC ad o o_board o_board_men o_board_sets W_o_board_183 oS_side (oS_rights &&& (((f_Po_rightsBoundTo (move &&& 63)) ||| (f_Po_rightsBoundTo ((move >>> ((6 : Int32) &&& 31)) &&& 63))) ^^^ (-1))) oS_passed oS_clock oS_number (f_Bo_manAt oS_board.1 (move &&& 63)) (move &&& 63) ((move >>> ((6 : Int32) &&& 31)) &&& 63)) ⟨callB_of 3 hB (big_self q4_132) rfl rfl rfl (hB _ q1_4) (hB _ q4_129) (by decide +kernel) ⟨Nat.le_of_ble_eq_true rfl, Nat.le_of_ble_eq_true rfl⟩, (hB _ q4_131), (hB _ qs4_12)⟩ (ro_preV (GS_ok ad) hK hP hG hS [0, 1, 2, 3] rfl (va_recv hK hP (ci := 3) (q0 := 0) rfl rfl)) rfl rfl hl.1 rfl (lv_room (Nat.le_of_ble_eq_true rfl)) dPo_make_209 ⟨Nat.le_of_ble_eq_true rfl, Nat.le_of_ble_eq_true rfl⟩) ?_
      refine va_put (D := (dC, dI)) (ci := 3) (v := .int (f_Po_squarePassed W_o_board_183 oS_side (f_Bo_manAt oS_board.1 (move &&& 63)) (move &&& 63) ((move >>> ((6 : Int32) &&& 31)) &&& 63))) (ty := .int) (C := RPo) (T := TPo) (N := 6) hx hb hB inPo tyPo tyPo_ok nmPo hown hK hP hD hS 0 rfl rfl 3 (by decide) (hB _ q1_94) (fun _ h9 => h9) rfl (by decide +kernel) rfl rfl (Nat.le_of_ble_eq_true rfl) dPo_make_212 (fun H locs hP hD hS => ?_)
      have hP : va_P (dC, dI) vwCl [(o, .inr (3, [.ref o_board, .int oS_side, .int (oS_rights &&& (((f_Po_rightsBoundTo (move &&& 63)) ||| (f_Po_rightsBoundTo ((move >>> ((6 : Int32) &&& 31)) &&& 63))) ^^^ (-1))), .int (f_Po_squarePassed W_o_board_183 oS_side (f_Bo_manAt oS_board.1 (move &&& 63)) (move &&& 63) ((move >>> ((6 : Int32) &&& 31)) &&& 63)), .int oS_clock, .int oS_number])), (o_board, .inr (0, [.ref o_board_men, .ref o_board_sets])), (o_board_men, .inl (cI, 64, .inl W_o_board_183.1)), (o_board_sets, .inl (cJ, 16, .inr (.inl W_o_board_183.2)))] H := hP
      have hD : va_D A [(o, .inr (3, [.ref o_board, .int oS_side, .int (oS_rights &&& (((f_Po_rightsBoundTo (move &&& 63)) ||| (f_Po_rightsBoundTo ((move >>> ((6 : Int32) &&& 31)) &&& 63))) ^^^ (-1))), .int (f_Po_squarePassed W_o_board_183 oS_side (f_Bo_manAt oS_board.1 (move &&& 63)) (move &&& 63) ((move >>> ((6 : Int32) &&& 31)) &&& 63)), .int oS_clock, .int oS_number])), (o_board, .inr (0, [.ref o_board_men, .ref o_board_sets])), (o_board_men, .inl (cI, 64, .inl W_o_board_183.1)), (o_board_sets, .inl (cJ, 16, .inr (.inl W_o_board_183.2)))] := hD
      refine lv_aload_n hx hb dPo_make_215 rfl (lv_at hl 0 rfl) ?_
      refine lv_iload hx hb dPo_make_216 (lv_at hl 3 rfl) ?_
      refine lv_bipush (v := 7) hx hb dPo_make_218 (by decide) ?_
      refine lv_iand hx hb dPo_make_220 ?_
      refine lv_iconst (v := 1) hx hb dPo_make_221 (by decide) ?_
      have J_240 : ∀ (k0_240 : Int32), f_Po_make oS_board oS_side oS_rights oS_passed oS_clock oS_number move = f_Po_make_240 oS_board oS_side oS_rights oS_passed oS_clock oS_number move R_87 R_96 k0_124 R_124 W_o_board_183 k0_240 → ∀ (H : Heap) (locs : List Loc), va_P (dC, dI) vwCl [(o, .inr (3, [.ref o_board, .int oS_side, .int (oS_rights &&& (((f_Po_rightsBoundTo (move &&& 63)) ||| (f_Po_rightsBoundTo ((move >>> ((6 : Int32) &&& 31)) &&& 63))) ^^^ (-1))), .int (f_Po_squarePassed W_o_board_183 oS_side (f_Bo_manAt oS_board.1 (move &&& 63)) (move &&& 63) ((move >>> ((6 : Int32) &&& 31)) &&& 63)), .int oS_clock, .int oS_number])), (o_board, .inr (0, [.ref o_board_men, .ref o_board_sets])), (o_board_men, .inl (cI, 64, .inl W_o_board_183.1)), (o_board_sets, .inl (cJ, 16, .inr (.inl W_o_board_183.2)))] H → va_D A [(o, .inr (3, [.ref o_board, .int oS_side, .int (oS_rights &&& (((f_Po_rightsBoundTo (move &&& 63)) ||| (f_Po_rightsBoundTo ((move >>> ((6 : Int32) &&& 31)) &&& 63))) ^^^ (-1))), .int (f_Po_squarePassed W_o_board_183 oS_side (f_Bo_manAt oS_board.1 (move &&& 63)) (move &&& 63) ((move >>> ((6 : Int32) &&& 31)) &&& 63)), .int oS_clock, .int oS_number])), (o_board, .inr (0, [.ref o_board_men, .ref o_board_sets])), (o_board_men, .inl (cI, 64, .inl W_o_board_183.1)), (o_board_sets, .inl (cJ, 16, .inr (.inl W_o_board_183.2)))] → va_S A s.heap H locs → ∀ ls : Array Slot, lv_has ls 9 [(0, .ref o), (8, .int ((((f_Bo_manAt oS_board.1 (f_Po_squareOfTaken oS_side oS_passed (f_Bo_manAt oS_board.1 (move &&& 63)) ((move >>> ((6 : Int32) &&& 31)) &&& 63))) + (16 * oS_rights)) + (256 * (oS_passed + 1))) + (32768 * oS_clock)))] → W p l e (headSpec wsPo_make { frames := 2, cells := 0, slots := 0, locals := 50 }).room s m ([.ref o, .int move]).toArray below meth c H locs 0 0 (MQ below (va_Qi (fun r (_ : Unit) => r = (f_Po_make oS_board oS_side oS_rights oS_passed oS_clock oS_number move).1) (rwB dC dI (TYS cI cJ cC) [(o, .inr (3, [.ref o_board, .int ((f_Po_make oS_board oS_side oS_rights oS_passed oS_clock oS_number move).2.2.1), .int ((f_Po_make oS_board oS_side oS_rights oS_passed oS_clock oS_number move).2.2.2.1), .int ((f_Po_make oS_board oS_side oS_rights oS_passed oS_clock oS_number move).2.2.2.2.1), .int ((f_Po_make oS_board oS_side oS_rights oS_passed oS_clock oS_number move).2.2.2.2.2.1), .int ((f_Po_make oS_board oS_side oS_rights oS_passed oS_clock oS_number move).2.2.2.2.2.2)])), (o_board, .inr (0, [.ref o_board_men, .ref o_board_sets])), (o_board_men, .inl (cI, 64, .inl (((f_Po_make oS_board oS_side oS_rights oS_passed oS_clock oS_number move).2.1).1))), (o_board_sets, .inl (cJ, 16, .inr (.inl (((f_Po_make oS_board oS_side oS_rights oS_passed oS_clock oS_number move).2.1).2))))] A) A) ([.ref o, .int move]).toArray s 0 0 A) (F0 m 240 ls [.int k0_240, .ref o]) := by
        intro k0_240 he_240 H locs hP hD hS ls hl
        refine va_put (D := (dC, dI)) (ci := 3) (v := .int k0_240) (ty := .int) (C := RPo) (T := TPo) (N := 6) hx hb hB inPo tyPo tyPo_ok nmPo hown hK hP hD hS 0 rfl rfl 4 (by decide) (hB _ q1_98) (fun _ h9 => h9) rfl (by decide +kernel) rfl rfl (Nat.le_of_ble_eq_true rfl) dPo_make_240 (fun H locs hP hD hS => ?_)
        have hP : va_P (dC, dI) vwCl [(o, .inr (3, [.ref o_board, .int oS_side, .int (oS_rights &&& (((f_Po_rightsBoundTo (move &&& 63)) ||| (f_Po_rightsBoundTo ((move >>> ((6 : Int32) &&& 31)) &&& 63))) ^^^ (-1))), .int (f_Po_squarePassed W_o_board_183 oS_side (f_Bo_manAt oS_board.1 (move &&& 63)) (move &&& 63) ((move >>> ((6 : Int32) &&& 31)) &&& 63)), .int k0_240, .int oS_number])), (o_board, .inr (0, [.ref o_board_men, .ref o_board_sets])), (o_board_men, .inl (cI, 64, .inl W_o_board_183.1)), (o_board_sets, .inl (cJ, 16, .inr (.inl W_o_board_183.2)))] H := hP
        have hD : va_D A [(o, .inr (3, [.ref o_board, .int oS_side, .int (oS_rights &&& (((f_Po_rightsBoundTo (move &&& 63)) ||| (f_Po_rightsBoundTo ((move >>> ((6 : Int32) &&& 31)) &&& 63))) ^^^ (-1))), .int (f_Po_squarePassed W_o_board_183 oS_side (f_Bo_manAt oS_board.1 (move &&& 63)) (move &&& 63) ((move >>> ((6 : Int32) &&& 31)) &&& 63)), .int k0_240, .int oS_number])), (o_board, .inr (0, [.ref o_board_men, .ref o_board_sets])), (o_board_men, .inl (cI, 64, .inl W_o_board_183.1)), (o_board_sets, .inl (cJ, 16, .inr (.inl W_o_board_183.2)))] := hD
        refine lv_aload_n hx hb dPo_make_243 rfl (lv_at hl 0 rfl) ?_
        refine lv_dup hx hb dPo_make_244 rfl ?_
        refine va_get (D := (dC, dI)) (ci := 3) (v := .int oS_number) (C := RPo) (T := TPo) (N := 6) hx hb hB inPo hown hK hP 0 rfl rfl 5 (by decide) (hB _ q1_103) (fun _ h9 => h9) rfl dPo_make_245 ?_
        refine lv_aload_n hx hb dPo_make_248 rfl (lv_at hl 0 rfl) ?_
        refine va_get (D := (dC, dI)) (ci := 3) (v := .int oS_side) (C := RPo) (T := TPo) (N := 6) hx hb hB inPo hown hK hP 0 rfl rfl 1 (by decide) (hB _ q1_83) (fun _ h9 => h9) rfl dPo_make_249 ?_
        refine lv_iadd hx hb dPo_make_252 ?_
        refine va_put (D := (dC, dI)) (ci := 3) (v := .int (oS_number + oS_side)) (ty := .int) (C := RPo) (T := TPo) (N := 6) hx hb hB inPo tyPo tyPo_ok nmPo hown hK hP hD hS 0 rfl rfl 5 (by decide) (hB _ q1_103) (fun _ h9 => h9) rfl (by decide +kernel) rfl rfl (Nat.le_of_ble_eq_true rfl) dPo_make_253 (fun H locs hP hD hS => ?_)
        have hP : va_P (dC, dI) vwCl [(o, .inr (3, [.ref o_board, .int oS_side, .int (oS_rights &&& (((f_Po_rightsBoundTo (move &&& 63)) ||| (f_Po_rightsBoundTo ((move >>> ((6 : Int32) &&& 31)) &&& 63))) ^^^ (-1))), .int (f_Po_squarePassed W_o_board_183 oS_side (f_Bo_manAt oS_board.1 (move &&& 63)) (move &&& 63) ((move >>> ((6 : Int32) &&& 31)) &&& 63)), .int k0_240, .int (oS_number + oS_side)])), (o_board, .inr (0, [.ref o_board_men, .ref o_board_sets])), (o_board_men, .inl (cI, 64, .inl W_o_board_183.1)), (o_board_sets, .inl (cJ, 16, .inr (.inl W_o_board_183.2)))] H := hP
        have hD : va_D A [(o, .inr (3, [.ref o_board, .int oS_side, .int (oS_rights &&& (((f_Po_rightsBoundTo (move &&& 63)) ||| (f_Po_rightsBoundTo ((move >>> ((6 : Int32) &&& 31)) &&& 63))) ^^^ (-1))), .int (f_Po_squarePassed W_o_board_183 oS_side (f_Bo_manAt oS_board.1 (move &&& 63)) (move &&& 63) ((move >>> ((6 : Int32) &&& 31)) &&& 63)), .int k0_240, .int (oS_number + oS_side)])), (o_board, .inr (0, [.ref o_board_men, .ref o_board_sets])), (o_board_men, .inl (cI, 64, .inl W_o_board_183.1)), (o_board_sets, .inl (cJ, 16, .inr (.inl W_o_board_183.2)))] := hD
        refine lv_aload_n hx hb dPo_make_256 rfl (lv_at hl 0 rfl) ?_
        refine lv_iconst (v := 1) hx hb dPo_make_257 (by decide) ?_
        refine lv_aload_n hx hb dPo_make_258 rfl (lv_at hl 0 rfl) ?_
        refine va_get (D := (dC, dI)) (ci := 3) (v := .int oS_side) (C := RPo) (T := TPo) (N := 6) hx hb hB inPo hown hK hP 0 rfl rfl 1 (by decide) (hB _ q1_83) (fun _ h9 => h9) rfl dPo_make_259 ?_
        refine lv_isub hx hb dPo_make_262 ?_
        refine va_put (D := (dC, dI)) (ci := 3) (v := .int (1 - oS_side)) (ty := .int) (C := RPo) (T := TPo) (N := 6) hx hb hB inPo tyPo tyPo_ok nmPo hown hK hP hD hS 0 rfl rfl 1 (by decide) (hB _ q1_83) (fun _ h9 => h9) rfl (by decide +kernel) rfl rfl (Nat.le_of_ble_eq_true rfl) dPo_make_263 (fun H locs hP hD hS => ?_)
        have hP : va_P (dC, dI) vwCl [(o, .inr (3, [.ref o_board, .int (1 - oS_side), .int (oS_rights &&& (((f_Po_rightsBoundTo (move &&& 63)) ||| (f_Po_rightsBoundTo ((move >>> ((6 : Int32) &&& 31)) &&& 63))) ^^^ (-1))), .int (f_Po_squarePassed W_o_board_183 oS_side (f_Bo_manAt oS_board.1 (move &&& 63)) (move &&& 63) ((move >>> ((6 : Int32) &&& 31)) &&& 63)), .int k0_240, .int (oS_number + oS_side)])), (o_board, .inr (0, [.ref o_board_men, .ref o_board_sets])), (o_board_men, .inl (cI, 64, .inl W_o_board_183.1)), (o_board_sets, .inl (cJ, 16, .inr (.inl W_o_board_183.2)))] H := hP
        have hD : va_D A [(o, .inr (3, [.ref o_board, .int (1 - oS_side), .int (oS_rights &&& (((f_Po_rightsBoundTo (move &&& 63)) ||| (f_Po_rightsBoundTo ((move >>> ((6 : Int32) &&& 31)) &&& 63))) ^^^ (-1))), .int (f_Po_squarePassed W_o_board_183 oS_side (f_Bo_manAt oS_board.1 (move &&& 63)) (move &&& 63) ((move >>> ((6 : Int32) &&& 31)) &&& 63)), .int k0_240, .int (oS_number + oS_side)])), (o_board, .inr (0, [.ref o_board_men, .ref o_board_sets])), (o_board_men, .inl (cI, 64, .inl W_o_board_183.1)), (o_board_sets, .inl (cJ, 16, .inr (.inl W_o_board_183.2)))] := hD
        refine lv_iload hx hb dPo_make_266 (lv_at hl 1 rfl) ?_
        have hv : f_Po_make oS_board oS_side oS_rights oS_passed oS_clock oS_number move = ((((f_Bo_manAt oS_board.1 (f_Po_squareOfTaken oS_side oS_passed (f_Bo_manAt oS_board.1 (move &&& 63)) ((move >>> ((6 : Int32) &&& 31)) &&& 63))) + (16 * oS_rights)) + (256 * (oS_passed + 1))) + (32768 * oS_clock), W_o_board_183, 1 - oS_side, oS_rights &&& (((f_Po_rightsBoundTo (move &&& 63)) ||| (f_Po_rightsBoundTo ((move >>> ((6 : Int32) &&& 31)) &&& 63))) ^^^ (-1)), f_Po_squarePassed W_o_board_183 oS_side (f_Bo_manAt oS_board.1 (move &&& 63)) (move &&& 63) ((move >>> ((6 : Int32) &&& 31)) &&& 63), k0_240, oS_number + oS_side) := (he_240.trans (by rw [f_Po_make_240_eq] <;> rfl))
        have hP9 : va_P (dC, dI) vwCl [(o, .inr (3, [.ref o_board, .int ((f_Po_make oS_board oS_side oS_rights oS_passed oS_clock oS_number move).2.2.1), .int ((f_Po_make oS_board oS_side oS_rights oS_passed oS_clock oS_number move).2.2.2.1), .int ((f_Po_make oS_board oS_side oS_rights oS_passed oS_clock oS_number move).2.2.2.2.1), .int ((f_Po_make oS_board oS_side oS_rights oS_passed oS_clock oS_number move).2.2.2.2.2.1), .int ((f_Po_make oS_board oS_side oS_rights oS_passed oS_clock oS_number move).2.2.2.2.2.2)])), (o_board, .inr (0, [.ref o_board_men, .ref o_board_sets])), (o_board_men, .inl (cI, 64, .inl (((f_Po_make oS_board oS_side oS_rights oS_passed oS_clock oS_number move).2.1).1))), (o_board_sets, .inl (cJ, 16, .inr (.inl (((f_Po_make oS_board oS_side oS_rights oS_passed oS_clock oS_number move).2.1).2))))] H := by first | (rw [hv]; exact hP.sub [0, 1, 2, 3] rfl) | exact hP.sub [0, 1, 2, 3] rfl
        have hD9 : va_D A [(o, .inr (3, [.ref o_board, .int ((f_Po_make oS_board oS_side oS_rights oS_passed oS_clock oS_number move).2.2.1), .int ((f_Po_make oS_board oS_side oS_rights oS_passed oS_clock oS_number move).2.2.2.1), .int ((f_Po_make oS_board oS_side oS_rights oS_passed oS_clock oS_number move).2.2.2.2.1), .int ((f_Po_make oS_board oS_side oS_rights oS_passed oS_clock oS_number move).2.2.2.2.2.1), .int ((f_Po_make oS_board oS_side oS_rights oS_passed oS_clock oS_number move).2.2.2.2.2.2)])), (o_board, .inr (0, [.ref o_board_men, .ref o_board_sets])), (o_board_men, .inl (cI, 64, .inl (((f_Po_make oS_board oS_side oS_rights oS_passed oS_clock oS_number move).2.1).1))), (o_board_sets, .inl (cJ, 16, .inr (.inl (((f_Po_make oS_board oS_side oS_rights oS_passed oS_clock oS_number move).2.1).2))))] := by first | (rw [hv]; exact hD.sub [0, 1, 2, 3] (by decide) rfl) | exact hD.sub [0, 1, 2, 3] (by decide) rfl
        exact rw_reti hx hb hr hlocks hK hP9 hD9 hS dPo_make_268 (by rw [hv])
      have J_230 : f_Po_make oS_board oS_side oS_rights oS_passed oS_clock oS_number move = f_Po_make_230 oS_board oS_side oS_rights oS_passed oS_clock oS_number move R_87 R_96 k0_124 R_124 W_o_board_183 → ∀ (H : Heap) (locs : List Loc), va_P (dC, dI) vwCl [(o, .inr (3, [.ref o_board, .int oS_side, .int (oS_rights &&& (((f_Po_rightsBoundTo (move &&& 63)) ||| (f_Po_rightsBoundTo ((move >>> ((6 : Int32) &&& 31)) &&& 63))) ^^^ (-1))), .int (f_Po_squarePassed W_o_board_183 oS_side (f_Bo_manAt oS_board.1 (move &&& 63)) (move &&& 63) ((move >>> ((6 : Int32) &&& 31)) &&& 63)), .int oS_clock, .int oS_number])), (o_board, .inr (0, [.ref o_board_men, .ref o_board_sets])), (o_board_men, .inl (cI, 64, .inl W_o_board_183.1)), (o_board_sets, .inl (cJ, 16, .inr (.inl W_o_board_183.2)))] H → va_D A [(o, .inr (3, [.ref o_board, .int oS_side, .int (oS_rights &&& (((f_Po_rightsBoundTo (move &&& 63)) ||| (f_Po_rightsBoundTo ((move >>> ((6 : Int32) &&& 31)) &&& 63))) ^^^ (-1))), .int (f_Po_squarePassed W_o_board_183 oS_side (f_Bo_manAt oS_board.1 (move &&& 63)) (move &&& 63) ((move >>> ((6 : Int32) &&& 31)) &&& 63)), .int oS_clock, .int oS_number])), (o_board, .inr (0, [.ref o_board_men, .ref o_board_sets])), (o_board_men, .inl (cI, 64, .inl W_o_board_183.1)), (o_board_sets, .inl (cJ, 16, .inr (.inl W_o_board_183.2)))] → va_S A s.heap H locs → ∀ ls : Array Slot, lv_has ls 9 [(0, .ref o), (8, .int ((((f_Bo_manAt oS_board.1 (f_Po_squareOfTaken oS_side oS_passed (f_Bo_manAt oS_board.1 (move &&& 63)) ((move >>> ((6 : Int32) &&& 31)) &&& 63))) + (16 * oS_rights)) + (256 * (oS_passed + 1))) + (32768 * oS_clock)))] → W p l e (headSpec wsPo_make { frames := 2, cells := 0, slots := 0, locals := 50 }).room s m ([.ref o, .int move]).toArray below meth c H locs 0 0 (MQ below (va_Qi (fun r (_ : Unit) => r = (f_Po_make oS_board oS_side oS_rights oS_passed oS_clock oS_number move).1) (rwB dC dI (TYS cI cJ cC) [(o, .inr (3, [.ref o_board, .int ((f_Po_make oS_board oS_side oS_rights oS_passed oS_clock oS_number move).2.2.1), .int ((f_Po_make oS_board oS_side oS_rights oS_passed oS_clock oS_number move).2.2.2.1), .int ((f_Po_make oS_board oS_side oS_rights oS_passed oS_clock oS_number move).2.2.2.2.1), .int ((f_Po_make oS_board oS_side oS_rights oS_passed oS_clock oS_number move).2.2.2.2.2.1), .int ((f_Po_make oS_board oS_side oS_rights oS_passed oS_clock oS_number move).2.2.2.2.2.2)])), (o_board, .inr (0, [.ref o_board_men, .ref o_board_sets])), (o_board_men, .inl (cI, 64, .inl (((f_Po_make oS_board oS_side oS_rights oS_passed oS_clock oS_number move).2.1).1))), (o_board_sets, .inl (cJ, 16, .inr (.inl (((f_Po_make oS_board oS_side oS_rights oS_passed oS_clock oS_number move).2.1).2))))] A) A) ([.ref o, .int move]).toArray s 0 0 A) (F0 m 230 ls [.ref o]) := by
        intro he_230 H locs hP hD hS ls hl
        refine lv_iconst (v := 0) hx hb dPo_make_230 (by decide) ?_
        refine lv_goto (tgt := 240) hx hb dPo_make_231 (by decide) ?_
        exact J_240 0 (he_230.trans (by rw [f_Po_make_230_eq] <;> rfl)) _ _ (hP.sub [0, 1, 2, 3] rfl) (hD.sub [0, 1, 2, 3] (by decide) rfl) hS ls (lv_sub hl [0, 1] rfl)
      refine lv_icmp_eq (tgt := 230) hx hb dPo_make_222 (by decide) (fun c_1 => ?_) (fun c_1 => ?_)
      · exact J_230 (he_183.trans (by rw [f_Po_make_183_eq, if_pos c_1] <;> rfl)) _ _ (hP.sub [0, 1, 2, 3] rfl) (hD.sub [0, 1, 2, 3] (by decide) rfl) hS ls (lv_sub hl [0, 5] rfl)
      · refine lv_iload hx hb dPo_make_225 (lv_at hl 4 rfl) ?_
        refine lv_if_eq (tgt := 234) hx hb dPo_make_227 (by decide) (fun c_2 => ?_) (fun c_2 => ?_)
        · refine lv_aload_n hx hb dPo_make_234 rfl (lv_at hl 0 rfl) ?_
          refine va_get (D := (dC, dI)) (ci := 3) (v := .int oS_clock) (C := RPo) (T := TPo) (N := 6) hx hb hB inPo hown hK hP 0 rfl rfl 4 (by decide) (hB _ q1_98) (fun _ h9 => h9) rfl dPo_make_235 ?_
          refine lv_iconst (v := 1) hx hb dPo_make_238 (by decide) ?_
          refine lv_iadd hx hb dPo_make_239 ?_
          exact J_240 (oS_clock + 1) (he_183.trans (by rw [f_Po_make_183_eq, if_neg c_1, if_pos c_2] <;> rfl)) _ _ (hP.sub [0, 1, 2, 3] rfl) (hD.sub [0, 1, 2, 3] (by decide) rfl) hS ls (lv_sub hl [0, 5] rfl)
        · exact J_230 (he_183.trans (by rw [f_Po_make_183_eq, if_neg c_1, if_neg c_2] <;> rfl)) _ _ (hP.sub [0, 1, 2, 3] rfl) (hD.sub [0, 1, 2, 3] (by decide) rfl) hS ls (lv_sub hl [0, 5] rfl)
    refine lv_if_eq (tgt := 183) hx hb dPo_make_134 (by decide) (fun c_3 => ?_) (fun c_3 => ?_)
    · exact J_183 R_124 (he_r124.trans (by rw [f_Po_make_r124_eq, if_pos c_3] <;> rfl)) _ _ (hP.sub [0, 1, 2, 3] rfl) (hD.sub [0, 1, 2, 3] (by decide) rfl) hS ls (lv_sub hl [0, 1, 2, 3, 4, 5] rfl)
    · refine lv_aload_n hx hb dPo_make_137 rfl (lv_at hl 0 rfl) ?_
      refine va_get (D := (dC, dI)) (ci := 3) (v := .ref o_board) (C := RPo) (T := TPo) (N := 6) hx hb hB inPo hown hK hP 0 rfl rfl 0 (by decide) (hB _ q1_77) (fun _ h9 => h9) rfl dPo_make_138 ?_
      refine lv_aload_n hx hb dPo_make_141 rfl (lv_at hl 0 rfl) ?_
      refine va_get (D := (dC, dI)) (ci := 3) (v := .int oS_side) (C := RPo) (T := TPo) (N := 6) hx hb hB inPo hown hK hP 0 rfl rfl 1 (by decide) (hB _ q1_83) (fun _ h9 => h9) rfl dPo_make_142 ?_
      refine lv_iload_n hx hb dPo_make_145 rfl (lv_at hl 2 rfl) ?_
      refine lv_iload_n hx hb dPo_make_146 rfl (lv_at hl 1 rfl) ?_
      have J_155 : ∀ (k0_155 : Int32), f_Po_make oS_board oS_side oS_rights oS_passed oS_clock oS_number move = f_Po_make_155 oS_board oS_side oS_rights oS_passed oS_clock oS_number move R_87 R_96 k0_124 R_124 k0_155 → ∀ (H : Heap) (locs : List Loc), va_P (dC, dI) vwCl [(o, .inr (3, [.ref o_board, .int oS_side, .int oS_rights, .int oS_passed, .int oS_clock, .int oS_number])), (o_board, .inr (0, [.ref o_board_men, .ref o_board_sets])), (o_board_men, .inl (cI, 64, .inl R_124.1)), (o_board_sets, .inl (cJ, 16, .inr (.inl R_124.2)))] H → va_D A [(o, .inr (3, [.ref o_board, .int oS_side, .int oS_rights, .int oS_passed, .int oS_clock, .int oS_number])), (o_board, .inr (0, [.ref o_board_men, .ref o_board_sets])), (o_board_men, .inl (cI, 64, .inl R_124.1)), (o_board_sets, .inl (cJ, 16, .inr (.inl R_124.2)))] → va_S A s.heap H locs → ∀ ls : Array Slot, lv_has ls 9 [(0, .ref o), (2, .int (move &&& 63)), (3, .int ((move >>> ((6 : Int32) &&& 31)) &&& 63)), (5, .int (f_Bo_manAt oS_board.1 (move &&& 63))), (7, .int (f_Bo_manAt oS_board.1 (f_Po_squareOfTaken oS_side oS_passed (f_Bo_manAt oS_board.1 (move &&& 63)) ((move >>> ((6 : Int32) &&& 31)) &&& 63)))), (8, .int ((((f_Bo_manAt oS_board.1 (f_Po_squareOfTaken oS_side oS_passed (f_Bo_manAt oS_board.1 (move &&& 63)) ((move >>> ((6 : Int32) &&& 31)) &&& 63))) + (16 * oS_rights)) + (256 * (oS_passed + 1))) + (32768 * oS_clock)))] → W p l e (headSpec wsPo_make { frames := 2, cells := 0, slots := 0, locals := 50 }).room s m ([.ref o, .int move]).toArray below meth c H locs 0 0 (MQ below (va_Qi (fun r (_ : Unit) => r = (f_Po_make oS_board oS_side oS_rights oS_passed oS_clock oS_number move).1) (rwB dC dI (TYS cI cJ cC) [(o, .inr (3, [.ref o_board, .int ((f_Po_make oS_board oS_side oS_rights oS_passed oS_clock oS_number move).2.2.1), .int ((f_Po_make oS_board oS_side oS_rights oS_passed oS_clock oS_number move).2.2.2.1), .int ((f_Po_make oS_board oS_side oS_rights oS_passed oS_clock oS_number move).2.2.2.2.1), .int ((f_Po_make oS_board oS_side oS_rights oS_passed oS_clock oS_number move).2.2.2.2.2.1), .int ((f_Po_make oS_board oS_side oS_rights oS_passed oS_clock oS_number move).2.2.2.2.2.2)])), (o_board, .inr (0, [.ref o_board_men, .ref o_board_sets])), (o_board_men, .inl (cI, 64, .inl (((f_Po_make oS_board oS_side oS_rights oS_passed oS_clock oS_number move).2.1).1))), (o_board_sets, .inl (cJ, 16, .inr (.inl (((f_Po_make oS_board oS_side oS_rights oS_passed oS_clock oS_number move).2.1).2))))] A) A) ([.ref o, .int move]).toArray s 0 0 A) (F0 m 155 ls [.int k0_155, .int oS_side, .ref o_board]) := by
        intro k0_155 he_155 H locs hP hD hS ls hl
        refine ro_goi (va_runS (As := [.int oS_side, .int k0_155]) (rest := [.ref o_board]) ⟨hx, hb, hml, hown, hB⟩ (c_Po_rookHome l dC dI cI cJ cC ad oS_side k0_155) ⟨callB_of 2 hB (big_self q2_171) rfl rfl rfl (hB _ q1_4) (hB _ q4_125) (by decide +kernel) ⟨Nat.le_of_ble_eq_true rfl, Nat.le_of_ble_eq_true rfl⟩, (hB _ q2_170)⟩ (ro_preS (GS_ok ad) hK hP hG hS [] rfl) rfl rfl hl.1 rfl (lv_room (Nat.le_of_ble_eq_true rfl)) dPo_make_155 ⟨Nat.le_of_ble_eq_true rfl, Nat.le_of_ble_eq_true rfl⟩) ?_
        refine lv_iconst (v := 0) hx hb dPo_make_158 (by decide) ?_
        obtain ⟨R_159, hR_159⟩ : ∃ R9, R9 = f_Bo_put R_124.1 R_124.2 (f_Po_rookHome oS_side k0_155) 0 := ⟨_, rfl⟩
        have hM_159 := (c_Bo_put l dC dI cI cJ cC ad o_board o_board_men o_board_sets H.size R_124.1 R_124.2 (f_Po_rookHome oS_side k0_155) 0)
        rw [← hR_159] at hM_159
        refine rw_gov (wr := [(o, .inr (3, [.ref o_board, .int oS_side, .int oS_rights, .int oS_passed, .int oS_clock, .int oS_number]))]) (va_runVN (C := "ChessRules$Board") (As := [.int (f_Po_rookHome oS_side k0_155), .int 0]) (rest := []) ⟨hx, hb, hml, hown, hB⟩ hM_159 ⟨va_cnB 2 hB (big_self q1_228) rfl rfl rfl (hG.1 _ q1_225) (hB _ q1_5) (by decide +kernel) ⟨Nat.le_of_ble_eq_true rfl, Nat.le_of_ble_eq_true rfl⟩, (hB _ q1_227), (hB _ qs1_3)⟩ (rw_preV (GS_ok ad) hK hP hD hA hG hS [1, 2, 3] (by decide) rfl rfl (va_recv hK hP (ci := 0) (q0 := 1) rfl rfl)) rfl rfl hl.1 rfl (lv_room (Nat.le_of_ble_eq_true rfl)) dPo_make_159 ⟨Nat.le_of_ble_eq_true rfl, Nat.le_of_ble_eq_true rfl⟩) hP hD hS hA [1, 2, 3] [0] rfl rfl (by decide) (by decide) (fun H locs hP hD hS => ?_)
        have hP : va_P (dC, dI) vwCl [(o, .inr (3, [.ref o_board, .int oS_side, .int oS_rights, .int oS_passed, .int oS_clock, .int oS_number])), (o_board, .inr (0, [.ref o_board_men, .ref o_board_sets])), (o_board_men, .inl (cI, 64, .inl R_159.1)), (o_board_sets, .inl (cJ, 16, .inr (.inl R_159.2)))] H := hP
        have hD : va_D A [(o, .inr (3, [.ref o_board, .int oS_side, .int oS_rights, .int oS_passed, .int oS_clock, .int oS_number])), (o_board, .inr (0, [.ref o_board_men, .ref o_board_sets])), (o_board_men, .inl (cI, 64, .inl R_159.1)), (o_board_sets, .inl (cJ, 16, .inr (.inl R_159.2)))] := hD
        have he_r159 : f_Po_make oS_board oS_side oS_rights oS_passed oS_clock oS_number move = f_Po_make_r159 oS_board oS_side oS_rights oS_passed oS_clock oS_number move R_87 R_96 k0_124 R_124 k0_155 R_159 := (he_155.trans (by rw [f_Po_make_155_eq, ← hR_159] <;> rfl))
        refine lv_aload_n hx hb dPo_make_162 rfl (lv_at hl 0 rfl) ?_
        refine va_get (D := (dC, dI)) (ci := 3) (v := .ref o_board) (C := RPo) (T := TPo) (N := 6) hx hb hB inPo hown hK hP 0 rfl rfl 0 (by decide) (hB _ q1_77) (fun _ h9 => h9) rfl dPo_make_163 ?_
        refine lv_iload_n hx hb dPo_make_166 rfl (lv_at hl 1 rfl) ?_
        refine lv_iload_n hx hb dPo_make_167 rfl (lv_at hl 2 rfl) ?_
        refine lv_iadd hx hb dPo_make_168 ?_
        refine lv_iconst (v := 2) hx hb dPo_make_169 (by decide) ?_
        refine lv_idiv hx hb dPo_make_170 (by decide) ?_
        refine lv_iconst (v := 4) hx hb dPo_make_171 (by decide) ?_
        refine lv_bipush (v := 8) hx hb dPo_make_172 (by decide) ?_
        refine lv_aload_n hx hb dPo_make_174 rfl (lv_at hl 0 rfl) ?_
        refine va_get (D := (dC, dI)) (ci := 3) (v := .int oS_side) (C := RPo) (T := TPo) (N := 6) hx hb hB inPo hown hK hP 0 rfl rfl 1 (by decide) (hB _ q1_83) (fun _ h9 => h9) rfl dPo_make_175 ?_
        refine lv_imul hx hb dPo_make_178 ?_
        refine lv_iadd hx hb dPo_make_179 ?_
        obtain ⟨R_180, hR_180⟩ : ∃ R9, R9 = f_Bo_put R_159.1 R_159.2 (((move &&& 63) + ((move >>> ((6 : Int32) &&& 31)) &&& 63)) / 2) (4 + (8 * oS_side)) := ⟨_, rfl⟩
        have hM_180 := (c_Bo_put l dC dI cI cJ cC ad o_board o_board_men o_board_sets H.size R_159.1 R_159.2 (((move &&& 63) + ((move >>> ((6 : Int32) &&& 31)) &&& 63)) / 2) (4 + (8 * oS_side)))
        rw [← hR_180] at hM_180
        refine rw_gov (wr := [(o, .inr (3, [.ref o_board, .int oS_side, .int oS_rights, .int oS_passed, .int oS_clock, .int oS_number]))]) (va_runVN (C := "ChessRules$Board") (As := [.int (((move &&& 63) + ((move >>> ((6 : Int32) &&& 31)) &&& 63)) / 2), .int (4 + (8 * oS_side))]) (rest := []) ⟨hx, hb, hml, hown, hB⟩ hM_180 ⟨va_cnB 2 hB (big_self q1_228) rfl rfl rfl (hG.1 _ q1_225) (hB _ q1_5) (by decide +kernel) ⟨Nat.le_of_ble_eq_true rfl, Nat.le_of_ble_eq_true rfl⟩, (hB _ q1_227), (hB _ qs1_3)⟩ (rw_preV (GS_ok ad) hK hP hD hA hG hS [1, 2, 3] (by decide) rfl rfl (va_recv hK hP (ci := 0) (q0 := 1) rfl rfl)) rfl rfl hl.1 rfl (lv_room (Nat.le_of_ble_eq_true rfl)) dPo_make_180 ⟨Nat.le_of_ble_eq_true rfl, Nat.le_of_ble_eq_true rfl⟩) hP hD hS hA [1, 2, 3] [0] rfl rfl (by decide) (by decide) (fun H locs hP hD hS => ?_)
        have hP : va_P (dC, dI) vwCl [(o, .inr (3, [.ref o_board, .int oS_side, .int oS_rights, .int oS_passed, .int oS_clock, .int oS_number])), (o_board, .inr (0, [.ref o_board_men, .ref o_board_sets])), (o_board_men, .inl (cI, 64, .inl R_180.1)), (o_board_sets, .inl (cJ, 16, .inr (.inl R_180.2)))] H := hP
        have hD : va_D A [(o, .inr (3, [.ref o_board, .int oS_side, .int oS_rights, .int oS_passed, .int oS_clock, .int oS_number])), (o_board, .inr (0, [.ref o_board_men, .ref o_board_sets])), (o_board_men, .inl (cI, 64, .inl R_180.1)), (o_board_sets, .inl (cJ, 16, .inr (.inl R_180.2)))] := hD
        have he_r180 : f_Po_make oS_board oS_side oS_rights oS_passed oS_clock oS_number move = f_Po_make_r180 oS_board oS_side oS_rights oS_passed oS_clock oS_number move R_87 R_96 k0_124 R_124 k0_155 R_159 R_180 := (he_r159.trans (by rw [f_Po_make_r159_eq, ← hR_180] <;> rfl))
        exact J_183 R_180 (he_r180.trans (by rw [f_Po_make_r180_eq] <;> rfl)) _ _ (hP.sub [0, 1, 2, 3] rfl) (hD.sub [0, 1, 2, 3] (by decide) rfl) hS ls (lv_sub hl [0, 1, 2, 3, 4, 5] rfl)
      refine lv_icmp_le (tgt := 154) hx hb dPo_make_147 (by decide) (fun c_4 => ?_) (fun c_4 => ?_)
      · refine lv_iconst (v := 1) hx hb dPo_make_154 (by decide) ?_
        exact J_155 1 (he_r124.trans (by rw [f_Po_make_r124_eq, if_neg c_3, if_pos c_4] <;> rfl)) _ _ (hP.sub [0, 1, 2, 3] rfl) (hD.sub [0, 1, 2, 3] (by decide) rfl) hS ls (lv_sub hl [0, 1, 2, 3, 4, 5] rfl)
      · refine lv_iconst (v := 0) hx hb dPo_make_150 (by decide) ?_
        refine lv_goto (tgt := 155) hx hb dPo_make_151 (by decide) ?_
        exact J_155 0 (he_r124.trans (by rw [f_Po_make_r124_eq, if_neg c_3, if_neg c_4] <;> rfl)) _ _ (hP.sub [0, 1, 2, 3] rfl) (hD.sub [0, 1, 2, 3] (by decide) rfl) hS ls (lv_sub hl [0, 1, 2, 3, 4, 5] rfl)
  refine lv_if_ne (tgt := 114) hx hb dPo_make_106 (by decide) (fun c_5 => ?_) (fun c_5 => ?_)
  · refine lv_iload hx hb dPo_make_114 (lv_at hl 4 rfl) ?_
    refine lv_bipush (v := 8) hx hb dPo_make_116 (by decide) ?_
    refine lv_aload_n hx hb dPo_make_118 rfl (lv_at hl 7 rfl) ?_
    refine va_get (D := (dC, dI)) (ci := 3) (v := .int oS_side) (C := RPo) (T := TPo) (N := 6) hx hb hB inPo hown hK hP 0 rfl rfl 1 (by decide) (hB _ q1_83) (fun _ h9 => h9) rfl dPo_make_119 ?_
    refine lv_imul hx hb dPo_make_122 ?_
    refine lv_iadd hx hb dPo_make_123 ?_
    exact J_124 ((move >>> ((12 : Int32) &&& 31)) + (8 * oS_side)) (he_r96.trans (by rw [f_Po_make_r96_eq, if_neg c_5] <;> rfl)) _ _ (hP.sub [0, 1, 2, 3] rfl) (hD.sub [0, 1, 2, 3] (by decide) rfl) hS ls (lv_sub hl [7, 6, 5, 3, 1, 0] rfl)
  · refine lv_iload hx hb dPo_make_109 (lv_at hl 3 rfl) ?_
    refine lv_goto (tgt := 124) hx hb dPo_make_111 (by decide) ?_
    exact J_124 (f_Bo_manAt oS_board.1 (move &&& 63)) (he_r96.trans (by rw [f_Po_make_r96_eq, if_pos c_5] <;> rfl)) _ _ (hP.sub [0, 1, 2, 3] rfl) (hD.sub [0, 1, 2, 3] (by decide) rfl) hS ls (lv_sub hl [7, 6, 5, 3, 1, 0] rfl)

abbrev cPo_unmake : ByteArray := prog_5_method_27_code
def yPo_unmake : MethodName := ⟨"ChessRules$Position", "unmake", "(II)V"⟩
def wsPo_unmake : List Cond := Cond.code yPo_unmake cPo_unmake 7 none :: BIG
theorem dPo_unmake_0 : decode cPo_unmake 0 = .ok (.iload_n 1, 1) := by decide +kernel
theorem dPo_unmake_1 : decode cPo_unmake 1 = .ok (.bipush 63, 2) := by decide +kernel
theorem dPo_unmake_3 : decode cPo_unmake 3 = .ok (.iand, 1) := by decide +kernel
theorem dPo_unmake_4 : decode cPo_unmake 4 = .ok (.istore_n 3, 1) := by decide +kernel
theorem dPo_unmake_5 : decode cPo_unmake 5 = .ok (.iload_n 1, 1) := by decide +kernel
theorem dPo_unmake_6 : decode cPo_unmake 6 = .ok (.bipush 6, 2) := by decide +kernel
theorem dPo_unmake_8 : decode cPo_unmake 8 = .ok (.ishr, 1) := by decide +kernel
theorem dPo_unmake_9 : decode cPo_unmake 9 = .ok (.bipush 63, 2) := by decide +kernel
theorem dPo_unmake_11 : decode cPo_unmake 11 = .ok (.iand, 1) := by decide +kernel
theorem dPo_unmake_12 : decode cPo_unmake 12 = .ok (.istore 4, 2) := by decide +kernel
theorem dPo_unmake_14 : decode cPo_unmake 14 = .ok (.iload_n 1, 1) := by decide +kernel
theorem dPo_unmake_15 : decode cPo_unmake 15 = .ok (.bipush 12, 2) := by decide +kernel
theorem dPo_unmake_17 : decode cPo_unmake 17 = .ok (.ishr, 1) := by decide +kernel
theorem dPo_unmake_18 : decode cPo_unmake 18 = .ok (.istore 5, 2) := by decide +kernel
theorem dPo_unmake_20 : decode cPo_unmake 20 = .ok (.aload_n 0, 1) := by decide +kernel
theorem dPo_unmake_21 : decode cPo_unmake 21 = .ok (.iconst 1, 1) := by decide +kernel
theorem dPo_unmake_22 : decode cPo_unmake 22 = .ok (.aload_n 0, 1) := by decide +kernel
theorem dPo_unmake_23 : decode cPo_unmake 23 = .ok (.getfield 18, 3) := by decide +kernel
theorem dPo_unmake_26 : decode cPo_unmake 26 = .ok (.isub, 1) := by decide +kernel
theorem dPo_unmake_27 : decode cPo_unmake 27 = .ok (.putfield 18, 3) := by decide +kernel
theorem dPo_unmake_30 : decode cPo_unmake 30 = .ok (.aload_n 0, 1) := by decide +kernel
theorem dPo_unmake_31 : decode cPo_unmake 31 = .ok (.dup, 1) := by decide +kernel
theorem dPo_unmake_32 : decode cPo_unmake 32 = .ok (.getfield 31, 3) := by decide +kernel
theorem dPo_unmake_35 : decode cPo_unmake 35 = .ok (.aload_n 0, 1) := by decide +kernel
theorem dPo_unmake_36 : decode cPo_unmake 36 = .ok (.getfield 18, 3) := by decide +kernel
theorem dPo_unmake_39 : decode cPo_unmake 39 = .ok (.isub, 1) := by decide +kernel
theorem dPo_unmake_40 : decode cPo_unmake 40 = .ok (.putfield 31, 3) := by decide +kernel
theorem dPo_unmake_43 : decode cPo_unmake 43 = .ok (.aload_n 0, 1) := by decide +kernel
theorem dPo_unmake_44 : decode cPo_unmake 44 = .ok (.iload_n 2, 1) := by decide +kernel
theorem dPo_unmake_45 : decode cPo_unmake 45 = .ok (.bipush 15, 2) := by decide +kernel
theorem dPo_unmake_47 : decode cPo_unmake 47 = .ok (.ishr, 1) := by decide +kernel
theorem dPo_unmake_48 : decode cPo_unmake 48 = .ok (.putfield 28, 3) := by decide +kernel
theorem dPo_unmake_51 : decode cPo_unmake 51 = .ok (.aload_n 0, 1) := by decide +kernel
theorem dPo_unmake_52 : decode cPo_unmake 52 = .ok (.iload_n 2, 1) := by decide +kernel
theorem dPo_unmake_53 : decode cPo_unmake 53 = .ok (.bipush 8, 2) := by decide +kernel
theorem dPo_unmake_55 : decode cPo_unmake 55 = .ok (.ishr, 1) := by decide +kernel
theorem dPo_unmake_56 : decode cPo_unmake 56 = .ok (.bipush 127, 2) := by decide +kernel
theorem dPo_unmake_58 : decode cPo_unmake 58 = .ok (.iand, 1) := by decide +kernel
theorem dPo_unmake_59 : decode cPo_unmake 59 = .ok (.iconst 1, 1) := by decide +kernel
theorem dPo_unmake_60 : decode cPo_unmake 60 = .ok (.isub, 1) := by decide +kernel
theorem dPo_unmake_61 : decode cPo_unmake 61 = .ok (.putfield 25, 3) := by decide +kernel
theorem dPo_unmake_64 : decode cPo_unmake 64 = .ok (.aload_n 0, 1) := by decide +kernel
theorem dPo_unmake_65 : decode cPo_unmake 65 = .ok (.iload_n 2, 1) := by decide +kernel
theorem dPo_unmake_66 : decode cPo_unmake 66 = .ok (.iconst 4, 1) := by decide +kernel
theorem dPo_unmake_67 : decode cPo_unmake 67 = .ok (.ishr, 1) := by decide +kernel
theorem dPo_unmake_68 : decode cPo_unmake 68 = .ok (.bipush 15, 2) := by decide +kernel
theorem dPo_unmake_70 : decode cPo_unmake 70 = .ok (.iand, 1) := by decide +kernel
theorem dPo_unmake_71 : decode cPo_unmake 71 = .ok (.putfield 22, 3) := by decide +kernel
theorem dPo_unmake_74 : decode cPo_unmake 74 = .ok (.iload 5, 2) := by decide +kernel
theorem dPo_unmake_76 : decode cPo_unmake 76 = .ok (.ifCond .ne 15, 3) := by decide +kernel
theorem dPo_unmake_79 : decode cPo_unmake 79 = .ok (.aload_n 0, 1) := by decide +kernel
theorem dPo_unmake_80 : decode cPo_unmake 80 = .ok (.getfield 12, 3) := by decide +kernel
theorem dPo_unmake_83 : decode cPo_unmake 83 = .ok (.iload 4, 2) := by decide +kernel
theorem dPo_unmake_85 : decode cPo_unmake 85 = .ok (.invokevirtual 38, 3) := by decide +kernel
theorem dPo_unmake_88 : decode cPo_unmake 88 = .ok (.goto 12, 3) := by decide +kernel
theorem dPo_unmake_91 : decode cPo_unmake 91 = .ok (.iconst 1, 1) := by decide +kernel
theorem dPo_unmake_92 : decode cPo_unmake 92 = .ok (.bipush 8, 2) := by decide +kernel
theorem dPo_unmake_94 : decode cPo_unmake 94 = .ok (.aload_n 0, 1) := by decide +kernel
theorem dPo_unmake_95 : decode cPo_unmake 95 = .ok (.getfield 18, 3) := by decide +kernel
theorem dPo_unmake_98 : decode cPo_unmake 98 = .ok (.imul, 1) := by decide +kernel
theorem dPo_unmake_99 : decode cPo_unmake 99 = .ok (.iadd, 1) := by decide +kernel
theorem dPo_unmake_100 : decode cPo_unmake 100 = .ok (.istore 6, 2) := by decide +kernel
theorem dPo_unmake_102 : decode cPo_unmake 102 = .ok (.iload 6, 2) := by decide +kernel
theorem dPo_unmake_104 : decode cPo_unmake 104 = .ok (.iload_n 3, 1) := by decide +kernel
theorem dPo_unmake_105 : decode cPo_unmake 105 = .ok (.iload 4, 2) := by decide +kernel
theorem dPo_unmake_107 : decode cPo_unmake 107 = .ok (.invokestatic 160, 3) := by decide +kernel
theorem dPo_unmake_110 : decode cPo_unmake 110 = .ok (.ifCond .eq 51, 3) := by decide +kernel
theorem dPo_unmake_113 : decode cPo_unmake 113 = .ok (.aload_n 0, 1) := by decide +kernel
theorem dPo_unmake_114 : decode cPo_unmake 114 = .ok (.getfield 12, 3) := by decide +kernel
theorem dPo_unmake_117 : decode cPo_unmake 117 = .ok (.iload_n 3, 1) := by decide +kernel
theorem dPo_unmake_118 : decode cPo_unmake 118 = .ok (.iload 4, 2) := by decide +kernel
theorem dPo_unmake_120 : decode cPo_unmake 120 = .ok (.iadd, 1) := by decide +kernel
theorem dPo_unmake_121 : decode cPo_unmake 121 = .ok (.iconst 2, 1) := by decide +kernel
theorem dPo_unmake_122 : decode cPo_unmake 122 = .ok (.idiv, 1) := by decide +kernel
theorem dPo_unmake_123 : decode cPo_unmake 123 = .ok (.iconst 0, 1) := by decide +kernel
theorem dPo_unmake_124 : decode cPo_unmake 124 = .ok (.invokevirtual 34, 3) := by decide +kernel
theorem dPo_unmake_127 : decode cPo_unmake 127 = .ok (.aload_n 0, 1) := by decide +kernel
theorem dPo_unmake_128 : decode cPo_unmake 128 = .ok (.getfield 12, 3) := by decide +kernel
theorem dPo_unmake_131 : decode cPo_unmake 131 = .ok (.aload_n 0, 1) := by decide +kernel
theorem dPo_unmake_132 : decode cPo_unmake 132 = .ok (.getfield 18, 3) := by decide +kernel
theorem dPo_unmake_135 : decode cPo_unmake 135 = .ok (.iload 4, 2) := by decide +kernel
theorem dPo_unmake_137 : decode cPo_unmake 137 = .ok (.iload_n 3, 1) := by decide +kernel
theorem dPo_unmake_138 : decode cPo_unmake 138 = .ok (.if_icmp .le 7, 3) := by decide +kernel
theorem dPo_unmake_141 : decode cPo_unmake 141 = .ok (.iconst 0, 1) := by decide +kernel
theorem dPo_unmake_142 : decode cPo_unmake 142 = .ok (.goto 4, 3) := by decide +kernel
theorem dPo_unmake_145 : decode cPo_unmake 145 = .ok (.iconst 1, 1) := by decide +kernel
theorem dPo_unmake_146 : decode cPo_unmake 146 = .ok (.invokestatic 164, 3) := by decide +kernel
theorem dPo_unmake_149 : decode cPo_unmake 149 = .ok (.iconst 4, 1) := by decide +kernel
theorem dPo_unmake_150 : decode cPo_unmake 150 = .ok (.bipush 8, 2) := by decide +kernel
theorem dPo_unmake_152 : decode cPo_unmake 152 = .ok (.aload_n 0, 1) := by decide +kernel
theorem dPo_unmake_153 : decode cPo_unmake 153 = .ok (.getfield 18, 3) := by decide +kernel
theorem dPo_unmake_156 : decode cPo_unmake 156 = .ok (.imul, 1) := by decide +kernel
theorem dPo_unmake_157 : decode cPo_unmake 157 = .ok (.iadd, 1) := by decide +kernel
theorem dPo_unmake_158 : decode cPo_unmake 158 = .ok (.invokevirtual 34, 3) := by decide +kernel
theorem dPo_unmake_161 : decode cPo_unmake 161 = .ok (.aload_n 0, 1) := by decide +kernel
theorem dPo_unmake_162 : decode cPo_unmake 162 = .ok (.getfield 12, 3) := by decide +kernel
theorem dPo_unmake_165 : decode cPo_unmake 165 = .ok (.iload 4, 2) := by decide +kernel
theorem dPo_unmake_167 : decode cPo_unmake 167 = .ok (.iconst 0, 1) := by decide +kernel
theorem dPo_unmake_168 : decode cPo_unmake 168 = .ok (.invokevirtual 34, 3) := by decide +kernel
theorem dPo_unmake_171 : decode cPo_unmake 171 = .ok (.aload_n 0, 1) := by decide +kernel
theorem dPo_unmake_172 : decode cPo_unmake 172 = .ok (.getfield 12, 3) := by decide +kernel
theorem dPo_unmake_175 : decode cPo_unmake 175 = .ok (.iload_n 3, 1) := by decide +kernel
theorem dPo_unmake_176 : decode cPo_unmake 176 = .ok (.iload 6, 2) := by decide +kernel
theorem dPo_unmake_178 : decode cPo_unmake 178 = .ok (.invokevirtual 34, 3) := by decide +kernel
theorem dPo_unmake_181 : decode cPo_unmake 181 = .ok (.aload_n 0, 1) := by decide +kernel
theorem dPo_unmake_182 : decode cPo_unmake 182 = .ok (.getfield 12, 3) := by decide +kernel
theorem dPo_unmake_185 : decode cPo_unmake 185 = .ok (.aload_n 0, 1) := by decide +kernel
theorem dPo_unmake_186 : decode cPo_unmake 186 = .ok (.iload 6, 2) := by decide +kernel
theorem dPo_unmake_188 : decode cPo_unmake 188 = .ok (.iload 4, 2) := by decide +kernel
theorem dPo_unmake_190 : decode cPo_unmake 190 = .ok (.invokevirtual 130, 3) := by decide +kernel
theorem dPo_unmake_193 : decode cPo_unmake 193 = .ok (.iload_n 2, 1) := by decide +kernel
theorem dPo_unmake_194 : decode cPo_unmake 194 = .ok (.bipush 15, 2) := by decide +kernel
theorem dPo_unmake_196 : decode cPo_unmake 196 = .ok (.iand, 1) := by decide +kernel
theorem dPo_unmake_197 : decode cPo_unmake 197 = .ok (.invokevirtual 34, 3) := by decide +kernel
theorem dPo_unmake_200 : decode cPo_unmake 200 = .ok (.return_, 1) := by decide +kernel

def f_Po_unmake_r197 (oS_board : St_Bo) (oS_side : Int32) (oS_number : Int32) (move : Int32) (memory : Int32) (k0_100 : Int32) (W_o_board_161 : St_Bo) (R_168 : ((Nat → Int32) × (Nat → Int64))) (R_178 : ((Nat → Int32) × (Nat → Int64))) (R_197 : ((Nat → Int32) × (Nat → Int64))) : St_Bo × Int32 × Int32 × Int32 × Int32 × Int32 :=
  (R_197, 1 - oS_side, (memory >>> ((4 : Int32) &&& 31)) &&& 15, ((memory >>> ((8 : Int32) &&& 31)) &&& 127) - 1, memory >>> ((15 : Int32) &&& 31), oS_number - (1 - oS_side))
theorem f_Po_unmake_r197_eq (oS_board : St_Bo) (oS_side : Int32) (oS_number : Int32) (move : Int32) (memory : Int32) (k0_100 : Int32) (W_o_board_161 : St_Bo) (R_168 : ((Nat → Int32) × (Nat → Int64))) (R_178 : ((Nat → Int32) × (Nat → Int64))) (R_197 : ((Nat → Int32) × (Nat → Int64))) : f_Po_unmake_r197 oS_board oS_side oS_number move memory k0_100 W_o_board_161 R_168 R_178 R_197 =
  (R_197, 1 - oS_side, (memory >>> ((4 : Int32) &&& 31)) &&& 15, ((memory >>> ((8 : Int32) &&& 31)) &&& 127) - 1, memory >>> ((15 : Int32) &&& 31), oS_number - (1 - oS_side)) := rfl

def f_Po_unmake_r178 (oS_board : St_Bo) (oS_side : Int32) (oS_number : Int32) (move : Int32) (memory : Int32) (k0_100 : Int32) (W_o_board_161 : St_Bo) (R_168 : ((Nat → Int32) × (Nat → Int64))) (R_178 : ((Nat → Int32) × (Nat → Int64))) : St_Bo × Int32 × Int32 × Int32 × Int32 × Int32 :=
  f_Po_unmake_r197 oS_board oS_side oS_number move memory k0_100 W_o_board_161 R_168 R_178 (f_Bo_put R_178.1 R_178.2 (f_Po_squareOfTaken (1 - oS_side) (((memory >>> ((8 : Int32) &&& 31)) &&& 127) - 1) k0_100 ((move >>> ((6 : Int32) &&& 31)) &&& 63)) (memory &&& 15))
theorem f_Po_unmake_r178_eq (oS_board : St_Bo) (oS_side : Int32) (oS_number : Int32) (move : Int32) (memory : Int32) (k0_100 : Int32) (W_o_board_161 : St_Bo) (R_168 : ((Nat → Int32) × (Nat → Int64))) (R_178 : ((Nat → Int32) × (Nat → Int64))) : f_Po_unmake_r178 oS_board oS_side oS_number move memory k0_100 W_o_board_161 R_168 R_178 =
  f_Po_unmake_r197 oS_board oS_side oS_number move memory k0_100 W_o_board_161 R_168 R_178 (f_Bo_put R_178.1 R_178.2 (f_Po_squareOfTaken (1 - oS_side) (((memory >>> ((8 : Int32) &&& 31)) &&& 127) - 1) k0_100 ((move >>> ((6 : Int32) &&& 31)) &&& 63)) (memory &&& 15)) := rfl

def f_Po_unmake_r168 (oS_board : St_Bo) (oS_side : Int32) (oS_number : Int32) (move : Int32) (memory : Int32) (k0_100 : Int32) (W_o_board_161 : St_Bo) (R_168 : ((Nat → Int32) × (Nat → Int64))) : St_Bo × Int32 × Int32 × Int32 × Int32 × Int32 :=
  f_Po_unmake_r178 oS_board oS_side oS_number move memory k0_100 W_o_board_161 R_168 (f_Bo_put R_168.1 R_168.2 (move &&& 63) k0_100)
theorem f_Po_unmake_r168_eq (oS_board : St_Bo) (oS_side : Int32) (oS_number : Int32) (move : Int32) (memory : Int32) (k0_100 : Int32) (W_o_board_161 : St_Bo) (R_168 : ((Nat → Int32) × (Nat → Int64))) : f_Po_unmake_r168 oS_board oS_side oS_number move memory k0_100 W_o_board_161 R_168 =
  f_Po_unmake_r178 oS_board oS_side oS_number move memory k0_100 W_o_board_161 R_168 (f_Bo_put R_168.1 R_168.2 (move &&& 63) k0_100) := rfl

def f_Po_unmake_161 (oS_board : St_Bo) (oS_side : Int32) (oS_number : Int32) (move : Int32) (memory : Int32) (k0_100 : Int32) (W_o_board_161 : St_Bo) : St_Bo × Int32 × Int32 × Int32 × Int32 × Int32 :=
  f_Po_unmake_r168 oS_board oS_side oS_number move memory k0_100 W_o_board_161 (f_Bo_put W_o_board_161.1 W_o_board_161.2 ((move >>> ((6 : Int32) &&& 31)) &&& 63) 0)
theorem f_Po_unmake_161_eq (oS_board : St_Bo) (oS_side : Int32) (oS_number : Int32) (move : Int32) (memory : Int32) (k0_100 : Int32) (W_o_board_161 : St_Bo) : f_Po_unmake_161 oS_board oS_side oS_number move memory k0_100 W_o_board_161 =
  f_Po_unmake_r168 oS_board oS_side oS_number move memory k0_100 W_o_board_161 (f_Bo_put W_o_board_161.1 W_o_board_161.2 ((move >>> ((6 : Int32) &&& 31)) &&& 63) 0) := rfl

def f_Po_unmake_r158 (oS_board : St_Bo) (oS_side : Int32) (oS_number : Int32) (move : Int32) (memory : Int32) (k0_100 : Int32) (R_124 : ((Nat → Int32) × (Nat → Int64))) (k0_146 : Int32) (R_158 : ((Nat → Int32) × (Nat → Int64))) : St_Bo × Int32 × Int32 × Int32 × Int32 × Int32 :=
  f_Po_unmake_161 oS_board oS_side oS_number move memory k0_100 R_158
theorem f_Po_unmake_r158_eq (oS_board : St_Bo) (oS_side : Int32) (oS_number : Int32) (move : Int32) (memory : Int32) (k0_100 : Int32) (R_124 : ((Nat → Int32) × (Nat → Int64))) (k0_146 : Int32) (R_158 : ((Nat → Int32) × (Nat → Int64))) : f_Po_unmake_r158 oS_board oS_side oS_number move memory k0_100 R_124 k0_146 R_158 =
  f_Po_unmake_161 oS_board oS_side oS_number move memory k0_100 R_158 := rfl

def f_Po_unmake_146 (oS_board : St_Bo) (oS_side : Int32) (oS_number : Int32) (move : Int32) (memory : Int32) (k0_100 : Int32) (R_124 : ((Nat → Int32) × (Nat → Int64))) (k0_146 : Int32) : St_Bo × Int32 × Int32 × Int32 × Int32 × Int32 :=
  f_Po_unmake_r158 oS_board oS_side oS_number move memory k0_100 R_124 k0_146 (f_Bo_put R_124.1 R_124.2 (f_Po_rookHome (1 - oS_side) k0_146) (4 + (8 * (1 - oS_side))))
theorem f_Po_unmake_146_eq (oS_board : St_Bo) (oS_side : Int32) (oS_number : Int32) (move : Int32) (memory : Int32) (k0_100 : Int32) (R_124 : ((Nat → Int32) × (Nat → Int64))) (k0_146 : Int32) : f_Po_unmake_146 oS_board oS_side oS_number move memory k0_100 R_124 k0_146 =
  f_Po_unmake_r158 oS_board oS_side oS_number move memory k0_100 R_124 k0_146 (f_Bo_put R_124.1 R_124.2 (f_Po_rookHome (1 - oS_side) k0_146) (4 + (8 * (1 - oS_side)))) := rfl

def f_Po_unmake_r124 (oS_board : St_Bo) (oS_side : Int32) (oS_number : Int32) (move : Int32) (memory : Int32) (k0_100 : Int32) (R_124 : ((Nat → Int32) × (Nat → Int64))) : St_Bo × Int32 × Int32 × Int32 × Int32 × Int32 :=
  (if ((move >>> ((6 : Int32) &&& 31)) &&& 63) ≤ (move &&& 63) then f_Po_unmake_146 oS_board oS_side oS_number move memory k0_100 R_124 1 else f_Po_unmake_146 oS_board oS_side oS_number move memory k0_100 R_124 0)
theorem f_Po_unmake_r124_eq (oS_board : St_Bo) (oS_side : Int32) (oS_number : Int32) (move : Int32) (memory : Int32) (k0_100 : Int32) (R_124 : ((Nat → Int32) × (Nat → Int64))) : f_Po_unmake_r124 oS_board oS_side oS_number move memory k0_100 R_124 =
  (if ((move >>> ((6 : Int32) &&& 31)) &&& 63) ≤ (move &&& 63) then f_Po_unmake_146 oS_board oS_side oS_number move memory k0_100 R_124 1 else f_Po_unmake_146 oS_board oS_side oS_number move memory k0_100 R_124 0) := rfl

def f_Po_unmake_100 (oS_board : St_Bo) (oS_side : Int32) (oS_number : Int32) (move : Int32) (memory : Int32) (k0_100 : Int32) : St_Bo × Int32 × Int32 × Int32 × Int32 × Int32 :=
  (if (f_Po_isCastling k0_100 (move &&& 63) ((move >>> ((6 : Int32) &&& 31)) &&& 63)) = 0 then f_Po_unmake_161 oS_board oS_side oS_number move memory k0_100 oS_board else f_Po_unmake_r124 oS_board oS_side oS_number move memory k0_100 (f_Bo_put oS_board.1 oS_board.2 (((move &&& 63) + ((move >>> ((6 : Int32) &&& 31)) &&& 63)) / 2) 0))
theorem f_Po_unmake_100_eq (oS_board : St_Bo) (oS_side : Int32) (oS_number : Int32) (move : Int32) (memory : Int32) (k0_100 : Int32) : f_Po_unmake_100 oS_board oS_side oS_number move memory k0_100 =
  (if (f_Po_isCastling k0_100 (move &&& 63) ((move >>> ((6 : Int32) &&& 31)) &&& 63)) = 0 then f_Po_unmake_161 oS_board oS_side oS_number move memory k0_100 oS_board else f_Po_unmake_r124 oS_board oS_side oS_number move memory k0_100 (f_Bo_put oS_board.1 oS_board.2 (((move &&& 63) + ((move >>> ((6 : Int32) &&& 31)) &&& 63)) / 2) 0)) := rfl

def f_Po_unmake (oS_board : St_Bo) (oS_side : Int32) (oS_number : Int32) (move : Int32) (memory : Int32) : St_Bo × Int32 × Int32 × Int32 × Int32 × Int32 :=
  (if (move >>> ((12 : Int32) &&& 31)) = 0 then f_Po_unmake_100 oS_board oS_side oS_number move memory (f_Bo_manAt oS_board.1 ((move >>> ((6 : Int32) &&& 31)) &&& 63)) else f_Po_unmake_100 oS_board oS_side oS_number move memory (1 + (8 * (1 - oS_side))))
theorem f_Po_unmake_eq (oS_board : St_Bo) (oS_side : Int32) (oS_number : Int32) (move : Int32) (memory : Int32) : f_Po_unmake oS_board oS_side oS_number move memory =
  (if (move >>> ((12 : Int32) &&& 31)) = 0 then f_Po_unmake_100 oS_board oS_side oS_number move memory (f_Bo_manAt oS_board.1 ((move >>> ((6 : Int32) &&& 31)) &&& 63)) else f_Po_unmake_100 oS_board oS_side oS_number move memory (1 + (8 * (1 - oS_side)))) := rfl

set_option maxHeartbeats 4000000 in
set_option maxRecDepth 100000 in
theorem c_Po_unmake (l : Launch) (dC : Nat → ClassId) (dI : Nat → Nat → Nat) (cI cJ cC : ClassId) (ad : Nat → Nat) (o o_board o_board_men o_board_sets : Nat) (sz : Nat) (oS_board : St_Bo) (oS_side : Int32) (oS_rights : Int32) (oS_passed : Int32) (oS_clock : Int32) (oS_number : Int32) (move : Int32) (memory : Int32) : Met l yPo_unmake wsPo_unmake { frames := 2, cells := 0, slots := 0, locals := 44 } (rwP dC dI (TYS cI cJ cC) [.ref o, .int move, .int memory] [(o, .inr (3, [.ref o_board, .int oS_side, .int oS_rights, .int oS_passed, .int oS_clock, .int oS_number])), (o_board, .inr (0, [.ref o_board_men, .ref o_board_sets])), (o_board_men, .inl (cI, 64, .inl oS_board.1)), (o_board_sets, .inl (cJ, 16, .inr (.inl oS_board.2)))] sz (GS ad)) (va_Qv (fun _ : Unit => True) (rwB dC dI (TYS cI cJ cC) [(o, .inr (3, [.ref o_board, .int ((f_Po_unmake oS_board oS_side oS_number move memory).2.1), .int ((f_Po_unmake oS_board oS_side oS_number move memory).2.2.1), .int ((f_Po_unmake oS_board oS_side oS_number move memory).2.2.2.1), .int ((f_Po_unmake oS_board oS_side oS_number move memory).2.2.2.2.1), .int ((f_Po_unmake oS_board oS_side oS_number move memory).2.2.2.2.2)])), (o_board, .inr (0, [.ref o_board_men, .ref o_board_sets])), (o_board_men, .inl (cI, 64, .inl (((f_Po_unmake oS_board oS_side oS_number move memory).1).1))), (o_board_sets, .inl (cJ, 16, .inr (.inl (((f_Po_unmake oS_board oS_side oS_number move memory).1).2))))] (va_A [(o, .inr (3, [.ref o_board, .int oS_side, .int oS_rights, .int oS_passed, .int oS_clock, .int oS_number])), (o_board, .inr (0, [.ref o_board_men, .ref o_board_sets])), (o_board_men, .inl (cI, 64, .inl oS_board.1)), (o_board_sets, .inl (cJ, 16, .inr (.inl oS_board.2)))] sz)) (va_A [(o, .inr (3, [.ref o_board, .int oS_side, .int oS_rights, .int oS_passed, .int oS_clock, .int oS_number])), (o_board, .inr (0, [.ref o_board_men, .ref o_board_sets])), (o_board_men, .inl (cI, 64, .inl oS_board.1)), (o_board_sets, .inl (cJ, 16, .inr (.inl oS_board.2)))] sz)) 0 0 (va_A [(o, .inr (3, [.ref o_board, .int oS_side, .int oS_rights, .int oS_passed, .int oS_clock, .int oS_number])), (o_board, .inr (0, [.ref o_board_men, .ref o_board_sets])), (o_board_men, .inl (cI, 64, .inl oS_board.1)), (o_board_sets, .inl (cJ, 16, .inr (.inl oS_board.2)))] sz) := by
  refine Met.ofW (cc := cPo_unmake) (maxL := 7) (ret := none) (by decide) rfl ?_
  intro p e s m args below meth c s₁ B hml hv
  obtain ⟨rfl, hsz, hP, hK, hD0, hG⟩ := hv
  have hx := B.exec
  have hb := B.bytes
  have hr := B.returns
  have hB : ∀ w9 ∈ BIG, w9.before ([.ref o, .int move, .int memory]).toArray s = true := fun w9 h => atoms_spec (ws := wsPo_unmake) B.pre w9 (List.mem_cons_of_mem _ h)
  have hown : s.vm.findClass "ChessRules$Position" = some m.cls := findClass_of_methodNamed B.named
  have hlocks := B.notSynchronized
  subst hsz
  have hD := hD0.self (sz := s.heap.size)
  generalize hAe : va_A [(o, .inr (3, [.ref o_board, .int oS_side, .int oS_rights, .int oS_passed, .int oS_clock, .int oS_number])), (o_board, .inr (0, [.ref o_board_men, .ref o_board_sets])), (o_board_men, .inl (cI, 64, .inl oS_board.1)), (o_board_sets, .inl (cJ, 16, .inr (.inl oS_board.2)))] s.heap.size = A at hD hG ⊢
  have hA : ∀ q : Nat, s.heap.size ≤ q → A q := fun q h => by rw [← hAe]; exact Or.inr h
  have hS : va_S A s.heap s.heap [] := va_S.rf
  have hP : va_P (dC, dI) vwCl [(o, .inr (3, [.ref o_board, .int oS_side, .int oS_rights, .int oS_passed, .int oS_clock, .int oS_number])), (o_board, .inr (0, [.ref o_board_men, .ref o_board_sets])), (o_board_men, .inl (cI, 64, .inl oS_board.1)), (o_board_sets, .inl (cJ, 16, .inr (.inl oS_board.2)))] s.heap := hP
  have hl := lv_entry ([.ref o, .int move, .int memory]) (n := 7) (Nat.le_of_ble_eq_true rfl)
  rw [lg_entry_eq]
  generalize (lg_sl ([.ref o, .int move, .int memory]) ++ List.replicate (7 - (lg_sl ([.ref o, .int move, .int memory])).length) Slot.unset).toArray = ls at hl ⊢
  have hl : lv_has ls 7 [(0, .ref o), (1, .int move), (2, .int memory)] := hl
  refine lv_iload_n hx hb dPo_unmake_0 rfl (lv_at hl 1 rfl) ?_
  refine lv_bipush (v := 63) hx hb dPo_unmake_1 (by decide) ?_
  refine lv_iand hx hb dPo_unmake_3 ?_
  refine lv_istore_n (lv' := [(3, .int (move &&& 63)), (0, .ref o), (1, .int move), (2, .int memory)]) hx hb dPo_unmake_4 rfl hl (by decide) rfl (fun ls hl => ?_)
  refine lv_iload_n hx hb dPo_unmake_5 rfl (lv_at hl 2 rfl) ?_
  refine lv_bipush (v := 6) hx hb dPo_unmake_6 (by decide) ?_
  refine lv_ishr hx hb dPo_unmake_8 ?_
  refine lv_bipush (v := 63) hx hb dPo_unmake_9 (by decide) ?_
  refine lv_iand hx hb dPo_unmake_11 ?_
  refine lv_istore (lv' := [(4, .int ((move >>> ((6 : Int32) &&& 31)) &&& 63)), (3, .int (move &&& 63)), (0, .ref o), (1, .int move), (2, .int memory)]) hx hb dPo_unmake_12 hl (by decide) rfl (fun ls hl => ?_)
  refine lv_iload_n hx hb dPo_unmake_14 rfl (lv_at hl 3 rfl) ?_
  refine lv_bipush (v := 12) hx hb dPo_unmake_15 (by decide) ?_
  refine lv_ishr hx hb dPo_unmake_17 ?_
  refine lv_istore (lv' := [(5, .int (move >>> ((12 : Int32) &&& 31))), (4, .int ((move >>> ((6 : Int32) &&& 31)) &&& 63)), (3, .int (move &&& 63)), (0, .ref o), (1, .int move), (2, .int memory)]) hx hb dPo_unmake_18 hl (by decide) rfl (fun ls hl => ?_)
  refine lv_aload_n hx hb dPo_unmake_20 rfl (lv_at hl 3 rfl) ?_
  refine lv_iconst (v := 1) hx hb dPo_unmake_21 (by decide) ?_
  refine lv_aload_n hx hb dPo_unmake_22 rfl (lv_at hl 3 rfl) ?_
  refine va_get (D := (dC, dI)) (ci := 3) (v := .int oS_side) (C := RPo) (T := TPo) (N := 6) hx hb hB inPo hown hK hP 0 rfl rfl 1 (by decide) (hB _ q1_83) (fun _ h9 => h9) rfl dPo_unmake_23 ?_
  refine lv_isub hx hb dPo_unmake_26 ?_
  refine va_put (D := (dC, dI)) (ci := 3) (v := .int (1 - oS_side)) (ty := .int) (C := RPo) (T := TPo) (N := 6) hx hb hB inPo tyPo tyPo_ok nmPo hown hK hP hD hS 0 rfl rfl 1 (by decide) (hB _ q1_83) (fun _ h9 => h9) rfl (by decide +kernel) rfl rfl (Nat.le_of_ble_eq_true rfl) dPo_unmake_27 (fun H locs hP hD hS => ?_)
  have hP : va_P (dC, dI) vwCl [(o, .inr (3, [.ref o_board, .int (1 - oS_side), .int oS_rights, .int oS_passed, .int oS_clock, .int oS_number])), (o_board, .inr (0, [.ref o_board_men, .ref o_board_sets])), (o_board_men, .inl (cI, 64, .inl oS_board.1)), (o_board_sets, .inl (cJ, 16, .inr (.inl oS_board.2)))] H := hP
  have hD : va_D A [(o, .inr (3, [.ref o_board, .int (1 - oS_side), .int oS_rights, .int oS_passed, .int oS_clock, .int oS_number])), (o_board, .inr (0, [.ref o_board_men, .ref o_board_sets])), (o_board_men, .inl (cI, 64, .inl oS_board.1)), (o_board_sets, .inl (cJ, 16, .inr (.inl oS_board.2)))] := hD
  refine lv_aload_n hx hb dPo_unmake_30 rfl (lv_at hl 3 rfl) ?_
  refine lv_dup hx hb dPo_unmake_31 rfl ?_
  refine va_get (D := (dC, dI)) (ci := 3) (v := .int oS_number) (C := RPo) (T := TPo) (N := 6) hx hb hB inPo hown hK hP 0 rfl rfl 5 (by decide) (hB _ q1_103) (fun _ h9 => h9) rfl dPo_unmake_32 ?_
  refine lv_aload_n hx hb dPo_unmake_35 rfl (lv_at hl 3 rfl) ?_
  refine va_get (D := (dC, dI)) (ci := 3) (v := .int (1 - oS_side)) (C := RPo) (T := TPo) (N := 6) hx hb hB inPo hown hK hP 0 rfl rfl 1 (by decide) (hB _ q1_83) (fun _ h9 => h9) rfl dPo_unmake_36 ?_
  refine lv_isub hx hb dPo_unmake_39 ?_
  refine va_put (D := (dC, dI)) (ci := 3) (v := .int (oS_number - (1 - oS_side))) (ty := .int) (C := RPo) (T := TPo) (N := 6) hx hb hB inPo tyPo tyPo_ok nmPo hown hK hP hD hS 0 rfl rfl 5 (by decide) (hB _ q1_103) (fun _ h9 => h9) rfl (by decide +kernel) rfl rfl (Nat.le_of_ble_eq_true rfl) dPo_unmake_40 (fun H locs hP hD hS => ?_)
  have hP : va_P (dC, dI) vwCl [(o, .inr (3, [.ref o_board, .int (1 - oS_side), .int oS_rights, .int oS_passed, .int oS_clock, .int (oS_number - (1 - oS_side))])), (o_board, .inr (0, [.ref o_board_men, .ref o_board_sets])), (o_board_men, .inl (cI, 64, .inl oS_board.1)), (o_board_sets, .inl (cJ, 16, .inr (.inl oS_board.2)))] H := hP
  have hD : va_D A [(o, .inr (3, [.ref o_board, .int (1 - oS_side), .int oS_rights, .int oS_passed, .int oS_clock, .int (oS_number - (1 - oS_side))])), (o_board, .inr (0, [.ref o_board_men, .ref o_board_sets])), (o_board_men, .inl (cI, 64, .inl oS_board.1)), (o_board_sets, .inl (cJ, 16, .inr (.inl oS_board.2)))] := hD
  refine lv_aload_n hx hb dPo_unmake_43 rfl (lv_at hl 3 rfl) ?_
  refine lv_iload_n hx hb dPo_unmake_44 rfl (lv_at hl 5 rfl) ?_
  refine lv_bipush (v := 15) hx hb dPo_unmake_45 (by decide) ?_
  refine lv_ishr hx hb dPo_unmake_47 ?_
  refine va_put (D := (dC, dI)) (ci := 3) (v := .int (memory >>> ((15 : Int32) &&& 31))) (ty := .int) (C := RPo) (T := TPo) (N := 6) hx hb hB inPo tyPo tyPo_ok nmPo hown hK hP hD hS 0 rfl rfl 4 (by decide) (hB _ q1_98) (fun _ h9 => h9) rfl (by decide +kernel) rfl rfl (Nat.le_of_ble_eq_true rfl) dPo_unmake_48 (fun H locs hP hD hS => ?_)
  have hP : va_P (dC, dI) vwCl [(o, .inr (3, [.ref o_board, .int (1 - oS_side), .int oS_rights, .int oS_passed, .int (memory >>> ((15 : Int32) &&& 31)), .int (oS_number - (1 - oS_side))])), (o_board, .inr (0, [.ref o_board_men, .ref o_board_sets])), (o_board_men, .inl (cI, 64, .inl oS_board.1)), (o_board_sets, .inl (cJ, 16, .inr (.inl oS_board.2)))] H := hP
  have hD : va_D A [(o, .inr (3, [.ref o_board, .int (1 - oS_side), .int oS_rights, .int oS_passed, .int (memory >>> ((15 : Int32) &&& 31)), .int (oS_number - (1 - oS_side))])), (o_board, .inr (0, [.ref o_board_men, .ref o_board_sets])), (o_board_men, .inl (cI, 64, .inl oS_board.1)), (o_board_sets, .inl (cJ, 16, .inr (.inl oS_board.2)))] := hD
  refine lv_aload_n hx hb dPo_unmake_51 rfl (lv_at hl 3 rfl) ?_
  refine lv_iload_n hx hb dPo_unmake_52 rfl (lv_at hl 5 rfl) ?_
  refine lv_bipush (v := 8) hx hb dPo_unmake_53 (by decide) ?_
  refine lv_ishr hx hb dPo_unmake_55 ?_
  refine lv_bipush (v := 127) hx hb dPo_unmake_56 (by decide) ?_
  refine lv_iand hx hb dPo_unmake_58 ?_
  refine lv_iconst (v := 1) hx hb dPo_unmake_59 (by decide) ?_
  refine lv_isub hx hb dPo_unmake_60 ?_
  refine va_put (D := (dC, dI)) (ci := 3) (v := .int (((memory >>> ((8 : Int32) &&& 31)) &&& 127) - 1)) (ty := .int) (C := RPo) (T := TPo) (N := 6) hx hb hB inPo tyPo tyPo_ok nmPo hown hK hP hD hS 0 rfl rfl 3 (by decide) (hB _ q1_94) (fun _ h9 => h9) rfl (by decide +kernel) rfl rfl (Nat.le_of_ble_eq_true rfl) dPo_unmake_61 (fun H locs hP hD hS => ?_)
  have hP : va_P (dC, dI) vwCl [(o, .inr (3, [.ref o_board, .int (1 - oS_side), .int oS_rights, .int (((memory >>> ((8 : Int32) &&& 31)) &&& 127) - 1), .int (memory >>> ((15 : Int32) &&& 31)), .int (oS_number - (1 - oS_side))])), (o_board, .inr (0, [.ref o_board_men, .ref o_board_sets])), (o_board_men, .inl (cI, 64, .inl oS_board.1)), (o_board_sets, .inl (cJ, 16, .inr (.inl oS_board.2)))] H := hP
  have hD : va_D A [(o, .inr (3, [.ref o_board, .int (1 - oS_side), .int oS_rights, .int (((memory >>> ((8 : Int32) &&& 31)) &&& 127) - 1), .int (memory >>> ((15 : Int32) &&& 31)), .int (oS_number - (1 - oS_side))])), (o_board, .inr (0, [.ref o_board_men, .ref o_board_sets])), (o_board_men, .inl (cI, 64, .inl oS_board.1)), (o_board_sets, .inl (cJ, 16, .inr (.inl oS_board.2)))] := hD
  refine lv_aload_n hx hb dPo_unmake_64 rfl (lv_at hl 3 rfl) ?_
  refine lv_iload_n hx hb dPo_unmake_65 rfl (lv_at hl 5 rfl) ?_
  refine lv_iconst (v := 4) hx hb dPo_unmake_66 (by decide) ?_
  refine lv_ishr hx hb dPo_unmake_67 ?_
  refine lv_bipush (v := 15) hx hb dPo_unmake_68 (by decide) ?_
  refine lv_iand hx hb dPo_unmake_70 ?_
  refine va_put (D := (dC, dI)) (ci := 3) (v := .int ((memory >>> ((4 : Int32) &&& 31)) &&& 15)) (ty := .int) (C := RPo) (T := TPo) (N := 6) hx hb hB inPo tyPo tyPo_ok nmPo hown hK hP hD hS 0 rfl rfl 2 (by decide) (hB _ q1_89) (fun _ h9 => h9) rfl (by decide +kernel) rfl rfl (Nat.le_of_ble_eq_true rfl) dPo_unmake_71 (fun H locs hP hD hS => ?_)
  have hP : va_P (dC, dI) vwCl [(o, .inr (3, [.ref o_board, .int (1 - oS_side), .int ((memory >>> ((4 : Int32) &&& 31)) &&& 15), .int (((memory >>> ((8 : Int32) &&& 31)) &&& 127) - 1), .int (memory >>> ((15 : Int32) &&& 31)), .int (oS_number - (1 - oS_side))])), (o_board, .inr (0, [.ref o_board_men, .ref o_board_sets])), (o_board_men, .inl (cI, 64, .inl oS_board.1)), (o_board_sets, .inl (cJ, 16, .inr (.inl oS_board.2)))] H := hP
  have hD : va_D A [(o, .inr (3, [.ref o_board, .int (1 - oS_side), .int ((memory >>> ((4 : Int32) &&& 31)) &&& 15), .int (((memory >>> ((8 : Int32) &&& 31)) &&& 127) - 1), .int (memory >>> ((15 : Int32) &&& 31)), .int (oS_number - (1 - oS_side))])), (o_board, .inr (0, [.ref o_board_men, .ref o_board_sets])), (o_board_men, .inl (cI, 64, .inl oS_board.1)), (o_board_sets, .inl (cJ, 16, .inr (.inl oS_board.2)))] := hD
  refine lv_iload hx hb dPo_unmake_74 (lv_at hl 0 rfl) ?_
  have J_100 : ∀ (k0_100 : Int32), f_Po_unmake oS_board oS_side oS_number move memory = f_Po_unmake_100 oS_board oS_side oS_number move memory k0_100 → ∀ (H : Heap) (locs : List Loc), va_P (dC, dI) vwCl [(o, .inr (3, [.ref o_board, .int (1 - oS_side), .int ((memory >>> ((4 : Int32) &&& 31)) &&& 15), .int (((memory >>> ((8 : Int32) &&& 31)) &&& 127) - 1), .int (memory >>> ((15 : Int32) &&& 31)), .int (oS_number - (1 - oS_side))])), (o_board, .inr (0, [.ref o_board_men, .ref o_board_sets])), (o_board_men, .inl (cI, 64, .inl oS_board.1)), (o_board_sets, .inl (cJ, 16, .inr (.inl oS_board.2)))] H → va_D A [(o, .inr (3, [.ref o_board, .int (1 - oS_side), .int ((memory >>> ((4 : Int32) &&& 31)) &&& 15), .int (((memory >>> ((8 : Int32) &&& 31)) &&& 127) - 1), .int (memory >>> ((15 : Int32) &&& 31)), .int (oS_number - (1 - oS_side))])), (o_board, .inr (0, [.ref o_board_men, .ref o_board_sets])), (o_board_men, .inl (cI, 64, .inl oS_board.1)), (o_board_sets, .inl (cJ, 16, .inr (.inl oS_board.2)))] → va_S A s.heap H locs → ∀ ls : Array Slot, lv_has ls 7 [(0, .ref o), (2, .int memory), (3, .int (move &&& 63)), (4, .int ((move >>> ((6 : Int32) &&& 31)) &&& 63))] → W p l e (headSpec wsPo_unmake { frames := 2, cells := 0, slots := 0, locals := 44 }).room s m ([.ref o, .int move, .int memory]).toArray below meth c H locs 0 0 (MQ below (va_Qv (fun _ : Unit => True) (rwB dC dI (TYS cI cJ cC) [(o, .inr (3, [.ref o_board, .int ((f_Po_unmake oS_board oS_side oS_number move memory).2.1), .int ((f_Po_unmake oS_board oS_side oS_number move memory).2.2.1), .int ((f_Po_unmake oS_board oS_side oS_number move memory).2.2.2.1), .int ((f_Po_unmake oS_board oS_side oS_number move memory).2.2.2.2.1), .int ((f_Po_unmake oS_board oS_side oS_number move memory).2.2.2.2.2)])), (o_board, .inr (0, [.ref o_board_men, .ref o_board_sets])), (o_board_men, .inl (cI, 64, .inl (((f_Po_unmake oS_board oS_side oS_number move memory).1).1))), (o_board_sets, .inl (cJ, 16, .inr (.inl (((f_Po_unmake oS_board oS_side oS_number move memory).1).2))))] A) A) ([.ref o, .int move, .int memory]).toArray s 0 0 A) (F0 m 100 ls [.int k0_100]) := by
    intro k0_100 he_100 H locs hP hD hS ls hl
    refine lv_istore (lv' := [(6, .int k0_100), (0, .ref o), (2, .int memory), (3, .int (move &&& 63)), (4, .int ((move >>> ((6 : Int32) &&& 31)) &&& 63))]) hx hb dPo_unmake_100 hl (by decide) rfl (fun ls hl => ?_)
    refine lv_iload hx hb dPo_unmake_102 (lv_at hl 0 rfl) ?_
    refine lv_iload_n hx hb dPo_unmake_104 rfl (lv_at hl 3 rfl) ?_
    refine lv_iload hx hb dPo_unmake_105 (lv_at hl 4 rfl) ?_
    refine ro_goi (va_runS (As := [.int k0_100, .int (move &&& 63), .int ((move >>> ((6 : Int32) &&& 31)) &&& 63)]) (rest := []) ⟨hx, hb, hml, hown, hB⟩ (c_Po_isCastling l dC dI cI cJ cC ad k0_100 (move &&& 63) ((move >>> ((6 : Int32) &&& 31)) &&& 63)) ⟨callB_of 3 hB (big_self q4_121) rfl rfl rfl (hB _ q1_4) (hB _ q4_119) (by decide +kernel) ⟨Nat.le_of_ble_eq_true rfl, Nat.le_of_ble_eq_true rfl⟩, (hB _ q4_120)⟩ (ro_preS (GS_ok ad) hK hP hG hS [] rfl) rfl rfl hl.1 rfl (lv_room (Nat.le_of_ble_eq_true rfl)) dPo_unmake_107 ⟨Nat.le_of_ble_eq_true rfl, Nat.le_of_ble_eq_true rfl⟩) ?_
    have J_161 : ∀ (W_o_board_161 : St_Bo), f_Po_unmake oS_board oS_side oS_number move memory = f_Po_unmake_161 oS_board oS_side oS_number move memory k0_100 W_o_board_161 → ∀ (H : Heap) (locs : List Loc), va_P (dC, dI) vwCl [(o, .inr (3, [.ref o_board, .int (1 - oS_side), .int ((memory >>> ((4 : Int32) &&& 31)) &&& 15), .int (((memory >>> ((8 : Int32) &&& 31)) &&& 127) - 1), .int (memory >>> ((15 : Int32) &&& 31)), .int (oS_number - (1 - oS_side))])), (o_board, .inr (0, [.ref o_board_men, .ref o_board_sets])), (o_board_men, .inl (cI, 64, .inl W_o_board_161.1)), (o_board_sets, .inl (cJ, 16, .inr (.inl W_o_board_161.2)))] H → va_D A [(o, .inr (3, [.ref o_board, .int (1 - oS_side), .int ((memory >>> ((4 : Int32) &&& 31)) &&& 15), .int (((memory >>> ((8 : Int32) &&& 31)) &&& 127) - 1), .int (memory >>> ((15 : Int32) &&& 31)), .int (oS_number - (1 - oS_side))])), (o_board, .inr (0, [.ref o_board_men, .ref o_board_sets])), (o_board_men, .inl (cI, 64, .inl W_o_board_161.1)), (o_board_sets, .inl (cJ, 16, .inr (.inl W_o_board_161.2)))] → va_S A s.heap H locs → ∀ ls : Array Slot, lv_has ls 7 [(0, .ref o), (2, .int memory), (3, .int (move &&& 63)), (4, .int ((move >>> ((6 : Int32) &&& 31)) &&& 63)), (6, .int k0_100)] → W p l e (headSpec wsPo_unmake { frames := 2, cells := 0, slots := 0, locals := 44 }).room s m ([.ref o, .int move, .int memory]).toArray below meth c H locs 0 0 (MQ below (va_Qv (fun _ : Unit => True) (rwB dC dI (TYS cI cJ cC) [(o, .inr (3, [.ref o_board, .int ((f_Po_unmake oS_board oS_side oS_number move memory).2.1), .int ((f_Po_unmake oS_board oS_side oS_number move memory).2.2.1), .int ((f_Po_unmake oS_board oS_side oS_number move memory).2.2.2.1), .int ((f_Po_unmake oS_board oS_side oS_number move memory).2.2.2.2.1), .int ((f_Po_unmake oS_board oS_side oS_number move memory).2.2.2.2.2)])), (o_board, .inr (0, [.ref o_board_men, .ref o_board_sets])), (o_board_men, .inl (cI, 64, .inl (((f_Po_unmake oS_board oS_side oS_number move memory).1).1))), (o_board_sets, .inl (cJ, 16, .inr (.inl (((f_Po_unmake oS_board oS_side oS_number move memory).1).2))))] A) A) ([.ref o, .int move, .int memory]).toArray s 0 0 A) (F0 m 161 ls []) := by
      intro W_o_board_161 he_161 H locs hP hD hS ls hl
      refine lv_aload_n hx hb dPo_unmake_161 rfl (lv_at hl 0 rfl) ?_
      refine va_get (D := (dC, dI)) (ci := 3) (v := .ref o_board) (C := RPo) (T := TPo) (N := 6) hx hb hB inPo hown hK hP 0 rfl rfl 0 (by decide) (hB _ q1_77) (fun _ h9 => h9) rfl dPo_unmake_162 ?_
      refine lv_iload hx hb dPo_unmake_165 (lv_at hl 3 rfl) ?_
      refine lv_iconst (v := 0) hx hb dPo_unmake_167 (by decide) ?_
      obtain ⟨R_168, hR_168⟩ : ∃ R9, R9 = f_Bo_put W_o_board_161.1 W_o_board_161.2 ((move >>> ((6 : Int32) &&& 31)) &&& 63) 0 := ⟨_, rfl⟩
      have hM_168 := (c_Bo_put l dC dI cI cJ cC ad o_board o_board_men o_board_sets H.size W_o_board_161.1 W_o_board_161.2 ((move >>> ((6 : Int32) &&& 31)) &&& 63) 0)
      rw [← hR_168] at hM_168
      refine rw_gov (wr := [(o, .inr (3, [.ref o_board, .int (1 - oS_side), .int ((memory >>> ((4 : Int32) &&& 31)) &&& 15), .int (((memory >>> ((8 : Int32) &&& 31)) &&& 127) - 1), .int (memory >>> ((15 : Int32) &&& 31)), .int (oS_number - (1 - oS_side))]))]) (va_runVN (C := "ChessRules$Board") (As := [.int ((move >>> ((6 : Int32) &&& 31)) &&& 63), .int 0]) (rest := []) ⟨hx, hb, hml, hown, hB⟩ hM_168 ⟨va_cnB 2 hB (big_self q1_228) rfl rfl rfl (hG.1 _ q1_225) (hB _ q1_5) (by decide +kernel) ⟨Nat.le_of_ble_eq_true rfl, Nat.le_of_ble_eq_true rfl⟩, (hB _ q1_227), (hB _ qs1_3)⟩ (rw_preV (GS_ok ad) hK hP hD hA hG hS [1, 2, 3] (by decide) rfl rfl (va_recv hK hP (ci := 0) (q0 := 1) rfl rfl)) rfl rfl hl.1 rfl (lv_room (Nat.le_of_ble_eq_true rfl)) dPo_unmake_168 ⟨Nat.le_of_ble_eq_true rfl, Nat.le_of_ble_eq_true rfl⟩) hP hD hS hA [1, 2, 3] [0] rfl rfl (by decide) (by decide) (fun H locs hP hD hS => ?_)
      have hP : va_P (dC, dI) vwCl [(o, .inr (3, [.ref o_board, .int (1 - oS_side), .int ((memory >>> ((4 : Int32) &&& 31)) &&& 15), .int (((memory >>> ((8 : Int32) &&& 31)) &&& 127) - 1), .int (memory >>> ((15 : Int32) &&& 31)), .int (oS_number - (1 - oS_side))])), (o_board, .inr (0, [.ref o_board_men, .ref o_board_sets])), (o_board_men, .inl (cI, 64, .inl R_168.1)), (o_board_sets, .inl (cJ, 16, .inr (.inl R_168.2)))] H := hP
      have hD : va_D A [(o, .inr (3, [.ref o_board, .int (1 - oS_side), .int ((memory >>> ((4 : Int32) &&& 31)) &&& 15), .int (((memory >>> ((8 : Int32) &&& 31)) &&& 127) - 1), .int (memory >>> ((15 : Int32) &&& 31)), .int (oS_number - (1 - oS_side))])), (o_board, .inr (0, [.ref o_board_men, .ref o_board_sets])), (o_board_men, .inl (cI, 64, .inl R_168.1)), (o_board_sets, .inl (cJ, 16, .inr (.inl R_168.2)))] := hD
      have he_r168 : f_Po_unmake oS_board oS_side oS_number move memory = f_Po_unmake_r168 oS_board oS_side oS_number move memory k0_100 W_o_board_161 R_168 := (he_161.trans (by rw [f_Po_unmake_161_eq, ← hR_168] <;> rfl))
      refine lv_aload_n hx hb dPo_unmake_171 rfl (lv_at hl 0 rfl) ?_
      refine va_get (D := (dC, dI)) (ci := 3) (v := .ref o_board) (C := RPo) (T := TPo) (N := 6) hx hb hB inPo hown hK hP 0 rfl rfl 0 (by decide) (hB _ q1_77) (fun _ h9 => h9) rfl dPo_unmake_172 ?_
      refine lv_iload_n hx hb dPo_unmake_175 rfl (lv_at hl 2 rfl) ?_
      refine lv_iload hx hb dPo_unmake_176 (lv_at hl 4 rfl) ?_
      obtain ⟨R_178, hR_178⟩ : ∃ R9, R9 = f_Bo_put R_168.1 R_168.2 (move &&& 63) k0_100 := ⟨_, rfl⟩
      have hM_178 := (c_Bo_put l dC dI cI cJ cC ad o_board o_board_men o_board_sets H.size R_168.1 R_168.2 (move &&& 63) k0_100)
      rw [← hR_178] at hM_178
      refine rw_gov (wr := [(o, .inr (3, [.ref o_board, .int (1 - oS_side), .int ((memory >>> ((4 : Int32) &&& 31)) &&& 15), .int (((memory >>> ((8 : Int32) &&& 31)) &&& 127) - 1), .int (memory >>> ((15 : Int32) &&& 31)), .int (oS_number - (1 - oS_side))]))]) (va_runVN (C := "ChessRules$Board") (As := [.int (move &&& 63), .int k0_100]) (rest := []) ⟨hx, hb, hml, hown, hB⟩ hM_178 ⟨va_cnB 2 hB (big_self q1_228) rfl rfl rfl (hG.1 _ q1_225) (hB _ q1_5) (by decide +kernel) ⟨Nat.le_of_ble_eq_true rfl, Nat.le_of_ble_eq_true rfl⟩, (hB _ q1_227), (hB _ qs1_3)⟩ (rw_preV (GS_ok ad) hK hP hD hA hG hS [1, 2, 3] (by decide) rfl rfl (va_recv hK hP (ci := 0) (q0 := 1) rfl rfl)) rfl rfl hl.1 rfl (lv_room (Nat.le_of_ble_eq_true rfl)) dPo_unmake_178 ⟨Nat.le_of_ble_eq_true rfl, Nat.le_of_ble_eq_true rfl⟩) hP hD hS hA [1, 2, 3] [0] rfl rfl (by decide) (by decide) (fun H locs hP hD hS => ?_)
      have hP : va_P (dC, dI) vwCl [(o, .inr (3, [.ref o_board, .int (1 - oS_side), .int ((memory >>> ((4 : Int32) &&& 31)) &&& 15), .int (((memory >>> ((8 : Int32) &&& 31)) &&& 127) - 1), .int (memory >>> ((15 : Int32) &&& 31)), .int (oS_number - (1 - oS_side))])), (o_board, .inr (0, [.ref o_board_men, .ref o_board_sets])), (o_board_men, .inl (cI, 64, .inl R_178.1)), (o_board_sets, .inl (cJ, 16, .inr (.inl R_178.2)))] H := hP
      have hD : va_D A [(o, .inr (3, [.ref o_board, .int (1 - oS_side), .int ((memory >>> ((4 : Int32) &&& 31)) &&& 15), .int (((memory >>> ((8 : Int32) &&& 31)) &&& 127) - 1), .int (memory >>> ((15 : Int32) &&& 31)), .int (oS_number - (1 - oS_side))])), (o_board, .inr (0, [.ref o_board_men, .ref o_board_sets])), (o_board_men, .inl (cI, 64, .inl R_178.1)), (o_board_sets, .inl (cJ, 16, .inr (.inl R_178.2)))] := hD
      have he_r178 : f_Po_unmake oS_board oS_side oS_number move memory = f_Po_unmake_r178 oS_board oS_side oS_number move memory k0_100 W_o_board_161 R_168 R_178 := (he_r168.trans (by rw [f_Po_unmake_r168_eq, ← hR_178] <;> rfl))
      refine lv_aload_n hx hb dPo_unmake_181 rfl (lv_at hl 0 rfl) ?_
      refine va_get (D := (dC, dI)) (ci := 3) (v := .ref o_board) (C := RPo) (T := TPo) (N := 6) hx hb hB inPo hown hK hP 0 rfl rfl 0 (by decide) (hB _ q1_77) (fun _ h9 => h9) rfl dPo_unmake_182 ?_
      refine lv_aload_n hx hb dPo_unmake_185 rfl (lv_at hl 0 rfl) ?_
      refine lv_iload hx hb dPo_unmake_186 (lv_at hl 4 rfl) ?_
      refine lv_iload hx hb dPo_unmake_188 (lv_at hl 3 rfl) ?_
      refine ro_goi (va_runV (C := "ChessRules$Position") (As := [.int k0_100, .int ((move >>> ((6 : Int32) &&& 31)) &&& 63)]) (rest := [.ref o_board]) ⟨hx, hb, hml, hown, hB⟩ (c_Po_squareOfTaken l dC dI cI cJ cC ad o o_board o_board_men o_board_sets R_178 (1 - oS_side) ((memory >>> ((4 : Int32) &&& 31)) &&& 15) (((memory >>> ((8 : Int32) &&& 31)) &&& 127) - 1) (memory >>> ((15 : Int32) &&& 31)) (oS_number - (1 - oS_side)) k0_100 ((move >>> ((6 : Int32) &&& 31)) &&& 63)) ⟨callB_of 2 hB (big_self q2_227) rfl rfl rfl (hB _ q1_4) (hB _ q2_224) (by decide +kernel) ⟨Nat.le_of_ble_eq_true rfl, Nat.le_of_ble_eq_true rfl⟩, (hB _ q2_226), (hB _ qs3_2)⟩ (ro_preV (GS_ok ad) hK hP hG hS [0, 1, 2, 3] rfl (va_recv hK hP (ci := 3) (q0 := 0) rfl rfl)) rfl rfl hl.1 rfl (lv_room (Nat.le_of_ble_eq_true rfl)) dPo_unmake_190 ⟨Nat.le_of_ble_eq_true rfl, Nat.le_of_ble_eq_true rfl⟩) ?_
      refine lv_iload_n hx hb dPo_unmake_193 rfl (lv_at hl 1 rfl) ?_
      refine lv_bipush (v := 15) hx hb dPo_unmake_194 (by decide) ?_
      refine lv_iand hx hb dPo_unmake_196 ?_
      obtain ⟨R_197, hR_197⟩ : ∃ R9, R9 = f_Bo_put R_178.1 R_178.2 (f_Po_squareOfTaken (1 - oS_side) (((memory >>> ((8 : Int32) &&& 31)) &&& 127) - 1) k0_100 ((move >>> ((6 : Int32) &&& 31)) &&& 63)) (memory &&& 15) := ⟨_, rfl⟩
      have hM_197 := (c_Bo_put l dC dI cI cJ cC ad o_board o_board_men o_board_sets H.size R_178.1 R_178.2 (f_Po_squareOfTaken (1 - oS_side) (((memory >>> ((8 : Int32) &&& 31)) &&& 127) - 1) k0_100 ((move >>> ((6 : Int32) &&& 31)) &&& 63)) (memory &&& 15))
      rw [← hR_197] at hM_197
      refine rw_gov (wr := [(o, .inr (3, [.ref o_board, .int (1 - oS_side), .int ((memory >>> ((4 : Int32) &&& 31)) &&& 15), .int (((memory >>> ((8 : Int32) &&& 31)) &&& 127) - 1), .int (memory >>> ((15 : Int32) &&& 31)), .int (oS_number - (1 - oS_side))]))]) (va_runVN (C := "ChessRules$Board") (As := [.int (f_Po_squareOfTaken (1 - oS_side) (((memory >>> ((8 : Int32) &&& 31)) &&& 127) - 1) k0_100 ((move >>> ((6 : Int32) &&& 31)) &&& 63)), .int (memory &&& 15)]) (rest := []) ⟨hx, hb, hml, hown, hB⟩ hM_197 ⟨va_cnB 2 hB (big_self q1_228) rfl rfl rfl (hG.1 _ q1_225) (hB _ q1_5) (by decide +kernel) ⟨Nat.le_of_ble_eq_true rfl, Nat.le_of_ble_eq_true rfl⟩, (hB _ q1_227), (hB _ qs1_3)⟩ (rw_preV (GS_ok ad) hK hP hD hA hG hS [1, 2, 3] (by decide) rfl rfl (va_recv hK hP (ci := 0) (q0 := 1) rfl rfl)) rfl rfl hl.1 rfl (lv_room (Nat.le_of_ble_eq_true rfl)) dPo_unmake_197 ⟨Nat.le_of_ble_eq_true rfl, Nat.le_of_ble_eq_true rfl⟩) hP hD hS hA [1, 2, 3] [0] rfl rfl (by decide) (by decide) (fun H locs hP hD hS => ?_)
      have hP : va_P (dC, dI) vwCl [(o, .inr (3, [.ref o_board, .int (1 - oS_side), .int ((memory >>> ((4 : Int32) &&& 31)) &&& 15), .int (((memory >>> ((8 : Int32) &&& 31)) &&& 127) - 1), .int (memory >>> ((15 : Int32) &&& 31)), .int (oS_number - (1 - oS_side))])), (o_board, .inr (0, [.ref o_board_men, .ref o_board_sets])), (o_board_men, .inl (cI, 64, .inl R_197.1)), (o_board_sets, .inl (cJ, 16, .inr (.inl R_197.2)))] H := hP
      have hD : va_D A [(o, .inr (3, [.ref o_board, .int (1 - oS_side), .int ((memory >>> ((4 : Int32) &&& 31)) &&& 15), .int (((memory >>> ((8 : Int32) &&& 31)) &&& 127) - 1), .int (memory >>> ((15 : Int32) &&& 31)), .int (oS_number - (1 - oS_side))])), (o_board, .inr (0, [.ref o_board_men, .ref o_board_sets])), (o_board_men, .inl (cI, 64, .inl R_197.1)), (o_board_sets, .inl (cJ, 16, .inr (.inl R_197.2)))] := hD
      have he_r197 : f_Po_unmake oS_board oS_side oS_number move memory = f_Po_unmake_r197 oS_board oS_side oS_number move memory k0_100 W_o_board_161 R_168 R_178 R_197 := (he_r178.trans (by rw [f_Po_unmake_r178_eq, ← hR_197] <;> rfl))
      have hv : f_Po_unmake oS_board oS_side oS_number move memory = (R_197, 1 - oS_side, (memory >>> ((4 : Int32) &&& 31)) &&& 15, ((memory >>> ((8 : Int32) &&& 31)) &&& 127) - 1, memory >>> ((15 : Int32) &&& 31), oS_number - (1 - oS_side)) := (he_r197.trans (by rw [f_Po_unmake_r197_eq] <;> rfl))
      have hP9 : va_P (dC, dI) vwCl [(o, .inr (3, [.ref o_board, .int ((f_Po_unmake oS_board oS_side oS_number move memory).2.1), .int ((f_Po_unmake oS_board oS_side oS_number move memory).2.2.1), .int ((f_Po_unmake oS_board oS_side oS_number move memory).2.2.2.1), .int ((f_Po_unmake oS_board oS_side oS_number move memory).2.2.2.2.1), .int ((f_Po_unmake oS_board oS_side oS_number move memory).2.2.2.2.2)])), (o_board, .inr (0, [.ref o_board_men, .ref o_board_sets])), (o_board_men, .inl (cI, 64, .inl (((f_Po_unmake oS_board oS_side oS_number move memory).1).1))), (o_board_sets, .inl (cJ, 16, .inr (.inl (((f_Po_unmake oS_board oS_side oS_number move memory).1).2))))] H := by first | (rw [hv]; exact hP.sub [0, 1, 2, 3] rfl) | exact hP.sub [0, 1, 2, 3] rfl
      have hD9 : va_D A [(o, .inr (3, [.ref o_board, .int ((f_Po_unmake oS_board oS_side oS_number move memory).2.1), .int ((f_Po_unmake oS_board oS_side oS_number move memory).2.2.1), .int ((f_Po_unmake oS_board oS_side oS_number move memory).2.2.2.1), .int ((f_Po_unmake oS_board oS_side oS_number move memory).2.2.2.2.1), .int ((f_Po_unmake oS_board oS_side oS_number move memory).2.2.2.2.2)])), (o_board, .inr (0, [.ref o_board_men, .ref o_board_sets])), (o_board_men, .inl (cI, 64, .inl (((f_Po_unmake oS_board oS_side oS_number move memory).1).1))), (o_board_sets, .inl (cJ, 16, .inr (.inl (((f_Po_unmake oS_board oS_side oS_number move memory).1).2))))] := by first | (rw [hv]; exact hD.sub [0, 1, 2, 3] (by decide) rfl) | exact hD.sub [0, 1, 2, 3] (by decide) rfl
      exact rw_retv hx hb hr hlocks hK hP9 hD9 hS dPo_unmake_200
    refine lv_if_eq (tgt := 161) hx hb dPo_unmake_110 (by decide) (fun c_1 => ?_) (fun c_1 => ?_)
    · exact J_161 oS_board (he_100.trans (by rw [f_Po_unmake_100_eq, if_pos c_1] <;> rfl)) _ _ (hP.sub [0, 1, 2, 3] rfl) (hD.sub [0, 1, 2, 3] (by decide) rfl) hS ls (lv_sub hl [1, 2, 3, 4, 0] rfl)
    · refine lv_aload_n hx hb dPo_unmake_113 rfl (lv_at hl 1 rfl) ?_
      refine va_get (D := (dC, dI)) (ci := 3) (v := .ref o_board) (C := RPo) (T := TPo) (N := 6) hx hb hB inPo hown hK hP 0 rfl rfl 0 (by decide) (hB _ q1_77) (fun _ h9 => h9) rfl dPo_unmake_114 ?_
      refine lv_iload_n hx hb dPo_unmake_117 rfl (lv_at hl 3 rfl) ?_
      refine lv_iload hx hb dPo_unmake_118 (lv_at hl 4 rfl) ?_
      refine lv_iadd hx hb dPo_unmake_120 ?_
      refine lv_iconst (v := 2) hx hb dPo_unmake_121 (by decide) ?_
      refine lv_idiv hx hb dPo_unmake_122 (by decide) ?_
      refine lv_iconst (v := 0) hx hb dPo_unmake_123 (by decide) ?_
      obtain ⟨R_124, hR_124⟩ : ∃ R9, R9 = f_Bo_put oS_board.1 oS_board.2 (((move &&& 63) + ((move >>> ((6 : Int32) &&& 31)) &&& 63)) / 2) 0 := ⟨_, rfl⟩
      have hM_124 := (c_Bo_put l dC dI cI cJ cC ad o_board o_board_men o_board_sets H.size oS_board.1 oS_board.2 (((move &&& 63) + ((move >>> ((6 : Int32) &&& 31)) &&& 63)) / 2) 0)
      rw [← hR_124] at hM_124
      refine rw_gov (wr := [(o, .inr (3, [.ref o_board, .int (1 - oS_side), .int ((memory >>> ((4 : Int32) &&& 31)) &&& 15), .int (((memory >>> ((8 : Int32) &&& 31)) &&& 127) - 1), .int (memory >>> ((15 : Int32) &&& 31)), .int (oS_number - (1 - oS_side))]))]) (va_runVN (C := "ChessRules$Board") (As := [.int (((move &&& 63) + ((move >>> ((6 : Int32) &&& 31)) &&& 63)) / 2), .int 0]) (rest := []) ⟨hx, hb, hml, hown, hB⟩ hM_124 ⟨va_cnB 2 hB (big_self q1_228) rfl rfl rfl (hG.1 _ q1_225) (hB _ q1_5) (by decide +kernel) ⟨Nat.le_of_ble_eq_true rfl, Nat.le_of_ble_eq_true rfl⟩, (hB _ q1_227), (hB _ qs1_3)⟩ (rw_preV (GS_ok ad) hK hP hD hA hG hS [1, 2, 3] (by decide) rfl rfl (va_recv hK hP (ci := 0) (q0 := 1) rfl rfl)) rfl rfl hl.1 rfl (lv_room (Nat.le_of_ble_eq_true rfl)) dPo_unmake_124 ⟨Nat.le_of_ble_eq_true rfl, Nat.le_of_ble_eq_true rfl⟩) hP hD hS hA [1, 2, 3] [0] rfl rfl (by decide) (by decide) (fun H locs hP hD hS => ?_)
      have hP : va_P (dC, dI) vwCl [(o, .inr (3, [.ref o_board, .int (1 - oS_side), .int ((memory >>> ((4 : Int32) &&& 31)) &&& 15), .int (((memory >>> ((8 : Int32) &&& 31)) &&& 127) - 1), .int (memory >>> ((15 : Int32) &&& 31)), .int (oS_number - (1 - oS_side))])), (o_board, .inr (0, [.ref o_board_men, .ref o_board_sets])), (o_board_men, .inl (cI, 64, .inl R_124.1)), (o_board_sets, .inl (cJ, 16, .inr (.inl R_124.2)))] H := hP
      have hD : va_D A [(o, .inr (3, [.ref o_board, .int (1 - oS_side), .int ((memory >>> ((4 : Int32) &&& 31)) &&& 15), .int (((memory >>> ((8 : Int32) &&& 31)) &&& 127) - 1), .int (memory >>> ((15 : Int32) &&& 31)), .int (oS_number - (1 - oS_side))])), (o_board, .inr (0, [.ref o_board_men, .ref o_board_sets])), (o_board_men, .inl (cI, 64, .inl R_124.1)), (o_board_sets, .inl (cJ, 16, .inr (.inl R_124.2)))] := hD
      have he_r124 : f_Po_unmake oS_board oS_side oS_number move memory = f_Po_unmake_r124 oS_board oS_side oS_number move memory k0_100 R_124 := (he_100.trans (by rw [f_Po_unmake_100_eq, if_neg c_1, ← hR_124] <;> rfl))
      refine lv_aload_n hx hb dPo_unmake_127 rfl (lv_at hl 1 rfl) ?_
      refine va_get (D := (dC, dI)) (ci := 3) (v := .ref o_board) (C := RPo) (T := TPo) (N := 6) hx hb hB inPo hown hK hP 0 rfl rfl 0 (by decide) (hB _ q1_77) (fun _ h9 => h9) rfl dPo_unmake_128 ?_
      refine lv_aload_n hx hb dPo_unmake_131 rfl (lv_at hl 1 rfl) ?_
      refine va_get (D := (dC, dI)) (ci := 3) (v := .int (1 - oS_side)) (C := RPo) (T := TPo) (N := 6) hx hb hB inPo hown hK hP 0 rfl rfl 1 (by decide) (hB _ q1_83) (fun _ h9 => h9) rfl dPo_unmake_132 ?_
      refine lv_iload hx hb dPo_unmake_135 (lv_at hl 4 rfl) ?_
      refine lv_iload_n hx hb dPo_unmake_137 rfl (lv_at hl 3 rfl) ?_
      have J_146 : ∀ (k0_146 : Int32), f_Po_unmake oS_board oS_side oS_number move memory = f_Po_unmake_146 oS_board oS_side oS_number move memory k0_100 R_124 k0_146 → ∀ (H : Heap) (locs : List Loc), va_P (dC, dI) vwCl [(o, .inr (3, [.ref o_board, .int (1 - oS_side), .int ((memory >>> ((4 : Int32) &&& 31)) &&& 15), .int (((memory >>> ((8 : Int32) &&& 31)) &&& 127) - 1), .int (memory >>> ((15 : Int32) &&& 31)), .int (oS_number - (1 - oS_side))])), (o_board, .inr (0, [.ref o_board_men, .ref o_board_sets])), (o_board_men, .inl (cI, 64, .inl R_124.1)), (o_board_sets, .inl (cJ, 16, .inr (.inl R_124.2)))] H → va_D A [(o, .inr (3, [.ref o_board, .int (1 - oS_side), .int ((memory >>> ((4 : Int32) &&& 31)) &&& 15), .int (((memory >>> ((8 : Int32) &&& 31)) &&& 127) - 1), .int (memory >>> ((15 : Int32) &&& 31)), .int (oS_number - (1 - oS_side))])), (o_board, .inr (0, [.ref o_board_men, .ref o_board_sets])), (o_board_men, .inl (cI, 64, .inl R_124.1)), (o_board_sets, .inl (cJ, 16, .inr (.inl R_124.2)))] → va_S A s.heap H locs → ∀ ls : Array Slot, lv_has ls 7 [(0, .ref o), (2, .int memory), (3, .int (move &&& 63)), (4, .int ((move >>> ((6 : Int32) &&& 31)) &&& 63)), (6, .int k0_100)] → W p l e (headSpec wsPo_unmake { frames := 2, cells := 0, slots := 0, locals := 44 }).room s m ([.ref o, .int move, .int memory]).toArray below meth c H locs 0 0 (MQ below (va_Qv (fun _ : Unit => True) (rwB dC dI (TYS cI cJ cC) [(o, .inr (3, [.ref o_board, .int ((f_Po_unmake oS_board oS_side oS_number move memory).2.1), .int ((f_Po_unmake oS_board oS_side oS_number move memory).2.2.1), .int ((f_Po_unmake oS_board oS_side oS_number move memory).2.2.2.1), .int ((f_Po_unmake oS_board oS_side oS_number move memory).2.2.2.2.1), .int ((f_Po_unmake oS_board oS_side oS_number move memory).2.2.2.2.2)])), (o_board, .inr (0, [.ref o_board_men, .ref o_board_sets])), (o_board_men, .inl (cI, 64, .inl (((f_Po_unmake oS_board oS_side oS_number move memory).1).1))), (o_board_sets, .inl (cJ, 16, .inr (.inl (((f_Po_unmake oS_board oS_side oS_number move memory).1).2))))] A) A) ([.ref o, .int move, .int memory]).toArray s 0 0 A) (F0 m 146 ls [.int k0_146, .int (1 - oS_side), .ref o_board]) := by
        intro k0_146 he_146 H locs hP hD hS ls hl
        refine ro_goi (va_runS (As := [.int (1 - oS_side), .int k0_146]) (rest := [.ref o_board]) ⟨hx, hb, hml, hown, hB⟩ (c_Po_rookHome l dC dI cI cJ cC ad (1 - oS_side) k0_146) ⟨callB_of 2 hB (big_self q2_171) rfl rfl rfl (hB _ q1_4) (hB _ q4_125) (by decide +kernel) ⟨Nat.le_of_ble_eq_true rfl, Nat.le_of_ble_eq_true rfl⟩, (hB _ q2_170)⟩ (ro_preS (GS_ok ad) hK hP hG hS [] rfl) rfl rfl hl.1 rfl (lv_room (Nat.le_of_ble_eq_true rfl)) dPo_unmake_146 ⟨Nat.le_of_ble_eq_true rfl, Nat.le_of_ble_eq_true rfl⟩) ?_
        refine lv_iconst (v := 4) hx hb dPo_unmake_149 (by decide) ?_
        refine lv_bipush (v := 8) hx hb dPo_unmake_150 (by decide) ?_
        refine lv_aload_n hx hb dPo_unmake_152 rfl (lv_at hl 0 rfl) ?_
        refine va_get (D := (dC, dI)) (ci := 3) (v := .int (1 - oS_side)) (C := RPo) (T := TPo) (N := 6) hx hb hB inPo hown hK hP 0 rfl rfl 1 (by decide) (hB _ q1_83) (fun _ h9 => h9) rfl dPo_unmake_153 ?_
        refine lv_imul hx hb dPo_unmake_156 ?_
        refine lv_iadd hx hb dPo_unmake_157 ?_
        obtain ⟨R_158, hR_158⟩ : ∃ R9, R9 = f_Bo_put R_124.1 R_124.2 (f_Po_rookHome (1 - oS_side) k0_146) (4 + (8 * (1 - oS_side))) := ⟨_, rfl⟩
        have hM_158 := (c_Bo_put l dC dI cI cJ cC ad o_board o_board_men o_board_sets H.size R_124.1 R_124.2 (f_Po_rookHome (1 - oS_side) k0_146) (4 + (8 * (1 - oS_side))))
        rw [← hR_158] at hM_158
        refine rw_gov (wr := [(o, .inr (3, [.ref o_board, .int (1 - oS_side), .int ((memory >>> ((4 : Int32) &&& 31)) &&& 15), .int (((memory >>> ((8 : Int32) &&& 31)) &&& 127) - 1), .int (memory >>> ((15 : Int32) &&& 31)), .int (oS_number - (1 - oS_side))]))]) (va_runVN (C := "ChessRules$Board") (As := [.int (f_Po_rookHome (1 - oS_side) k0_146), .int (4 + (8 * (1 - oS_side)))]) (rest := []) ⟨hx, hb, hml, hown, hB⟩ hM_158 ⟨va_cnB 2 hB (big_self q1_228) rfl rfl rfl (hG.1 _ q1_225) (hB _ q1_5) (by decide +kernel) ⟨Nat.le_of_ble_eq_true rfl, Nat.le_of_ble_eq_true rfl⟩, (hB _ q1_227), (hB _ qs1_3)⟩ (rw_preV (GS_ok ad) hK hP hD hA hG hS [1, 2, 3] (by decide) rfl rfl (va_recv hK hP (ci := 0) (q0 := 1) rfl rfl)) rfl rfl hl.1 rfl (lv_room (Nat.le_of_ble_eq_true rfl)) dPo_unmake_158 ⟨Nat.le_of_ble_eq_true rfl, Nat.le_of_ble_eq_true rfl⟩) hP hD hS hA [1, 2, 3] [0] rfl rfl (by decide) (by decide) (fun H locs hP hD hS => ?_)
        have hP : va_P (dC, dI) vwCl [(o, .inr (3, [.ref o_board, .int (1 - oS_side), .int ((memory >>> ((4 : Int32) &&& 31)) &&& 15), .int (((memory >>> ((8 : Int32) &&& 31)) &&& 127) - 1), .int (memory >>> ((15 : Int32) &&& 31)), .int (oS_number - (1 - oS_side))])), (o_board, .inr (0, [.ref o_board_men, .ref o_board_sets])), (o_board_men, .inl (cI, 64, .inl R_158.1)), (o_board_sets, .inl (cJ, 16, .inr (.inl R_158.2)))] H := hP
        have hD : va_D A [(o, .inr (3, [.ref o_board, .int (1 - oS_side), .int ((memory >>> ((4 : Int32) &&& 31)) &&& 15), .int (((memory >>> ((8 : Int32) &&& 31)) &&& 127) - 1), .int (memory >>> ((15 : Int32) &&& 31)), .int (oS_number - (1 - oS_side))])), (o_board, .inr (0, [.ref o_board_men, .ref o_board_sets])), (o_board_men, .inl (cI, 64, .inl R_158.1)), (o_board_sets, .inl (cJ, 16, .inr (.inl R_158.2)))] := hD
        have he_r158 : f_Po_unmake oS_board oS_side oS_number move memory = f_Po_unmake_r158 oS_board oS_side oS_number move memory k0_100 R_124 k0_146 R_158 := (he_146.trans (by rw [f_Po_unmake_146_eq, ← hR_158] <;> rfl))
        exact J_161 R_158 (he_r158.trans (by rw [f_Po_unmake_r158_eq] <;> rfl)) _ _ (hP.sub [0, 1, 2, 3] rfl) (hD.sub [0, 1, 2, 3] (by decide) rfl) hS ls (lv_sub hl [0, 1, 2, 3, 4] rfl)
      refine lv_icmp_le (tgt := 145) hx hb dPo_unmake_138 (by decide) (fun c_2 => ?_) (fun c_2 => ?_)
      · refine lv_iconst (v := 1) hx hb dPo_unmake_145 (by decide) ?_
        exact J_146 1 (he_r124.trans (by rw [f_Po_unmake_r124_eq, if_pos c_2] <;> rfl)) _ _ (hP.sub [0, 1, 2, 3] rfl) (hD.sub [0, 1, 2, 3] (by decide) rfl) hS ls (lv_sub hl [1, 2, 3, 4, 0] rfl)
      · refine lv_iconst (v := 0) hx hb dPo_unmake_141 (by decide) ?_
        refine lv_goto (tgt := 146) hx hb dPo_unmake_142 (by decide) ?_
        exact J_146 0 (he_r124.trans (by rw [f_Po_unmake_r124_eq, if_neg c_2] <;> rfl)) _ _ (hP.sub [0, 1, 2, 3] rfl) (hD.sub [0, 1, 2, 3] (by decide) rfl) hS ls (lv_sub hl [1, 2, 3, 4, 0] rfl)
  refine lv_if_ne (tgt := 91) hx hb dPo_unmake_76 (by decide) (fun c_3 => ?_) (fun c_3 => ?_)
  · refine lv_iconst (v := 1) hx hb dPo_unmake_91 (by decide) ?_
    refine lv_bipush (v := 8) hx hb dPo_unmake_92 (by decide) ?_
    refine lv_aload_n hx hb dPo_unmake_94 rfl (lv_at hl 3 rfl) ?_
    refine va_get (D := (dC, dI)) (ci := 3) (v := .int (1 - oS_side)) (C := RPo) (T := TPo) (N := 6) hx hb hB inPo hown hK hP 0 rfl rfl 1 (by decide) (hB _ q1_83) (fun _ h9 => h9) rfl dPo_unmake_95 ?_
    refine lv_imul hx hb dPo_unmake_98 ?_
    refine lv_iadd hx hb dPo_unmake_99 ?_
    exact J_100 (1 + (8 * (1 - oS_side))) (by rw [f_Po_unmake_eq, if_neg c_3] <;> rfl) _ _ (hP.sub [0, 1, 2, 3] rfl) (hD.sub [0, 1, 2, 3] (by decide) rfl) hS ls (lv_sub hl [3, 5, 2, 1] rfl)
  · refine lv_aload_n hx hb dPo_unmake_79 rfl (lv_at hl 3 rfl) ?_
    refine va_get (D := (dC, dI)) (ci := 3) (v := .ref o_board) (C := RPo) (T := TPo) (N := 6) hx hb hB inPo hown hK hP 0 rfl rfl 0 (by decide) (hB _ q1_77) (fun _ h9 => h9) rfl dPo_unmake_80 ?_
    refine lv_iload hx hb dPo_unmake_83 (lv_at hl 1 rfl) ?_
    refine ro_goi (va_runVN (C := "ChessRules$Board") (As := [.int ((move >>> ((6 : Int32) &&& 31)) &&& 63)]) (rest := []) ⟨hx, hb, hml, hown, hB⟩ (c_Bo_manAt l dC dI cI cJ cC ad o_board o_board_men o_board_sets oS_board.1 oS_board.2 ((move >>> ((6 : Int32) &&& 31)) &&& 63)) ⟨va_cnB 1 hB (big_self q2_168) rfl rfl rfl (hG.1 _ q2_206) (hB _ q1_5) (by decide +kernel) ⟨Nat.le_of_ble_eq_true rfl, Nat.le_of_ble_eq_true rfl⟩, (hB _ q2_167), (hB _ qs2_7)⟩ (ro_preV (GS_ok ad) hK hP hG hS [1, 2, 3] rfl (va_recv hK hP (ci := 0) (q0 := 1) rfl rfl)) rfl rfl hl.1 rfl (lv_room (Nat.le_of_ble_eq_true rfl)) dPo_unmake_85 ⟨Nat.le_of_ble_eq_true rfl, Nat.le_of_ble_eq_true rfl⟩) ?_
    refine lv_goto (tgt := 100) hx hb dPo_unmake_88 (by decide) ?_
    exact J_100 (f_Bo_manAt oS_board.1 ((move >>> ((6 : Int32) &&& 31)) &&& 63)) (by rw [f_Po_unmake_eq, if_pos c_3] <;> rfl) _ _ (hP.sub [0, 1, 2, 3] rfl) (hD.sub [0, 1, 2, 3] (by decide) rfl) hS ls (lv_sub hl [3, 5, 2, 1] rfl)

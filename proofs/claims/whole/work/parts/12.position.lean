theorem nar01 {v : Int32} (h : v = 0 ∨ v = 1) : narrow .boolean (.int v) = .int v := by rcases h with rfl | rfl <;> rfl
theorem f_Bo_isInCheck_01 (S : Nat → Int64) (side : Int32) : f_Bo_isInCheck S side = 0 ∨ f_Bo_isInCheck S side = 1 := by
  unfold f_Bo_isInCheck; split <;> simp

abbrev cPo_clear : ByteArray := prog_5_method_2_code
def yPo_clear : MethodName := ⟨"ChessRules$Position", "clear", "()V"⟩
def wsPo_clear : List Cond := Cond.code yPo_clear cPo_clear 2 none :: BIG
theorem dPo_clear_0 : decode cPo_clear 0 = .ok (.iconst 0, 1) := by decide +kernel
theorem dPo_clear_1 : decode cPo_clear 1 = .ok (.istore_n 1, 1) := by decide +kernel
theorem dPo_clear_2 : decode cPo_clear 2 = .ok (.iload_n 1, 1) := by decide +kernel
theorem dPo_clear_3 : decode cPo_clear 3 = .ok (.bipush 64, 2) := by decide +kernel
theorem dPo_clear_5 : decode cPo_clear 5 = .ok (.if_icmp .ge 18, 3) := by decide +kernel
theorem dPo_clear_8 : decode cPo_clear 8 = .ok (.aload_n 0, 1) := by decide +kernel
theorem dPo_clear_9 : decode cPo_clear 9 = .ok (.getfield 12, 3) := by decide +kernel
theorem dPo_clear_12 : decode cPo_clear 12 = .ok (.iload_n 1, 1) := by decide +kernel
theorem dPo_clear_13 : decode cPo_clear 13 = .ok (.iconst 0, 1) := by decide +kernel
theorem dPo_clear_14 : decode cPo_clear 14 = .ok (.invokevirtual 34, 3) := by decide +kernel
theorem dPo_clear_17 : decode cPo_clear 17 = .ok (.iinc 1 1, 3) := by decide +kernel
theorem dPo_clear_20 : decode cPo_clear 20 = .ok (.goto (-18), 3) := by decide +kernel
theorem dPo_clear_23 : decode cPo_clear 23 = .ok (.aload_n 0, 1) := by decide +kernel
theorem dPo_clear_24 : decode cPo_clear 24 = .ok (.iconst 0, 1) := by decide +kernel
theorem dPo_clear_25 : decode cPo_clear 25 = .ok (.putfield 18, 3) := by decide +kernel
theorem dPo_clear_28 : decode cPo_clear 28 = .ok (.aload_n 0, 1) := by decide +kernel
theorem dPo_clear_29 : decode cPo_clear 29 = .ok (.iconst 0, 1) := by decide +kernel
theorem dPo_clear_30 : decode cPo_clear 30 = .ok (.putfield 22, 3) := by decide +kernel
theorem dPo_clear_33 : decode cPo_clear 33 = .ok (.aload_n 0, 1) := by decide +kernel
theorem dPo_clear_34 : decode cPo_clear 34 = .ok (.iconst (-1), 1) := by decide +kernel
theorem dPo_clear_35 : decode cPo_clear 35 = .ok (.putfield 25, 3) := by decide +kernel
theorem dPo_clear_38 : decode cPo_clear 38 = .ok (.aload_n 0, 1) := by decide +kernel
theorem dPo_clear_39 : decode cPo_clear 39 = .ok (.iconst 0, 1) := by decide +kernel
theorem dPo_clear_40 : decode cPo_clear 40 = .ok (.putfield 28, 3) := by decide +kernel
theorem dPo_clear_43 : decode cPo_clear 43 = .ok (.aload_n 0, 1) := by decide +kernel
theorem dPo_clear_44 : decode cPo_clear 44 = .ok (.iconst 1, 1) := by decide +kernel
theorem dPo_clear_45 : decode cPo_clear 45 = .ok (.putfield 31, 3) := by decide +kernel
theorem dPo_clear_48 : decode cPo_clear 48 = .ok (.return_, 1) := by decide +kernel

def f_Po_clear_r14 (r_2 : Int32 → St_Bo → (St_Bo × Int32 × Int32 × Int32 × Int32 × Int32)) (oS_board : St_Bo) (oS_side : Int32) (oS_rights : Int32) (oS_passed : Int32) (oS_clock : Int32) (oS_number : Int32) (v1_2 : Int32) (W_o_board_2 : St_Bo) (R_14 : ((Nat → Int32) × (Nat → Int64))) : St_Bo × Int32 × Int32 × Int32 × Int32 × Int32 :=
  r_2 (v1_2 + 1) R_14
theorem f_Po_clear_r14_eq (r_2 : Int32 → St_Bo → (St_Bo × Int32 × Int32 × Int32 × Int32 × Int32)) (oS_board : St_Bo) (oS_side : Int32) (oS_rights : Int32) (oS_passed : Int32) (oS_clock : Int32) (oS_number : Int32) (v1_2 : Int32) (W_o_board_2 : St_Bo) (R_14 : ((Nat → Int32) × (Nat → Int64))) : f_Po_clear_r14 r_2 oS_board oS_side oS_rights oS_passed oS_clock oS_number v1_2 W_o_board_2 R_14 =
  r_2 (v1_2 + 1) R_14 := rfl

def f_Po_clear_2 (oS_board : St_Bo) (oS_side : Int32) (oS_rights : Int32) (oS_passed : Int32) (oS_clock : Int32) (oS_number : Int32) : Nat → Int32 → St_Bo → (St_Bo × Int32 × Int32 × Int32 × Int32 × Int32)
  | 0 => fun _ _ => (oS_board, oS_side, oS_rights, oS_passed, oS_clock, oS_number)
  | n_2 + 1 => fun v1_2 W_o_board_2 => (if 64 ≤ v1_2 then (W_o_board_2, 0, 0, (-1), 0, 1) else f_Po_clear_r14 (f_Po_clear_2 oS_board oS_side oS_rights oS_passed oS_clock oS_number n_2) oS_board oS_side oS_rights oS_passed oS_clock oS_number v1_2 W_o_board_2 (f_Bo_put W_o_board_2.1 W_o_board_2.2 v1_2 0))
theorem f_Po_clear_2_eq (oS_board : St_Bo) (oS_side : Int32) (oS_rights : Int32) (oS_passed : Int32) (oS_clock : Int32) (oS_number : Int32) (n_2 : Nat) (v1_2 : Int32) (W_o_board_2 : St_Bo) : f_Po_clear_2 oS_board oS_side oS_rights oS_passed oS_clock oS_number (n_2 + 1) v1_2 W_o_board_2 =
  (if 64 ≤ v1_2 then (W_o_board_2, 0, 0, (-1), 0, 1) else f_Po_clear_r14 (f_Po_clear_2 oS_board oS_side oS_rights oS_passed oS_clock oS_number n_2) oS_board oS_side oS_rights oS_passed oS_clock oS_number v1_2 W_o_board_2 (f_Bo_put W_o_board_2.1 W_o_board_2.2 v1_2 0)) := rfl

def f_Po_clear (oS_board : St_Bo) (oS_side : Int32) (oS_rights : Int32) (oS_passed : Int32) (oS_clock : Int32) (oS_number : Int32) : St_Bo × Int32 × Int32 × Int32 × Int32 × Int32 :=
  f_Po_clear_2 oS_board oS_side oS_rights oS_passed oS_clock oS_number (65) 0 oS_board
theorem f_Po_clear_eq (oS_board : St_Bo) (oS_side : Int32) (oS_rights : Int32) (oS_passed : Int32) (oS_clock : Int32) (oS_number : Int32) : f_Po_clear oS_board oS_side oS_rights oS_passed oS_clock oS_number =
  f_Po_clear_2 oS_board oS_side oS_rights oS_passed oS_clock oS_number (65) 0 oS_board := rfl

set_option maxHeartbeats 4000000 in
set_option maxRecDepth 100000 in
theorem c_Po_clear (l : Launch) (dC : Nat → ClassId) (dI : Nat → Nat → Nat) (cI cJ cC : ClassId) (ad : Nat → Nat) (o o_board o_board_men o_board_sets : Nat) (sz : Nat) (oS_board : St_Bo) (oS_side : Int32) (oS_rights : Int32) (oS_passed : Int32) (oS_clock : Int32) (oS_number : Int32) : Met l yPo_clear wsPo_clear { frames := 2, cells := 0, slots := 0, locals := 44 } (rwP dC dI (TYS cI cJ cC) [.ref o] [(o, .inr (3, [.ref o_board, .int oS_side, .int oS_rights, .int oS_passed, .int oS_clock, .int oS_number])), (o_board, .inr (0, [.ref o_board_men, .ref o_board_sets])), (o_board_men, .inl (cI, 64, .inl oS_board.1)), (o_board_sets, .inl (cJ, 16, .inr (.inl oS_board.2)))] sz (GS ad)) (va_Qv (fun _ : Unit => True) (rwB dC dI (TYS cI cJ cC) [(o, .inr (3, [.ref o_board, .int ((f_Po_clear oS_board oS_side oS_rights oS_passed oS_clock oS_number).2.1), .int ((f_Po_clear oS_board oS_side oS_rights oS_passed oS_clock oS_number).2.2.1), .int ((f_Po_clear oS_board oS_side oS_rights oS_passed oS_clock oS_number).2.2.2.1), .int ((f_Po_clear oS_board oS_side oS_rights oS_passed oS_clock oS_number).2.2.2.2.1), .int ((f_Po_clear oS_board oS_side oS_rights oS_passed oS_clock oS_number).2.2.2.2.2)])), (o_board, .inr (0, [.ref o_board_men, .ref o_board_sets])), (o_board_men, .inl (cI, 64, .inl (((f_Po_clear oS_board oS_side oS_rights oS_passed oS_clock oS_number).1).1))), (o_board_sets, .inl (cJ, 16, .inr (.inl (((f_Po_clear oS_board oS_side oS_rights oS_passed oS_clock oS_number).1).2))))] (va_A [(o, .inr (3, [.ref o_board, .int oS_side, .int oS_rights, .int oS_passed, .int oS_clock, .int oS_number])), (o_board, .inr (0, [.ref o_board_men, .ref o_board_sets])), (o_board_men, .inl (cI, 64, .inl oS_board.1)), (o_board_sets, .inl (cJ, 16, .inr (.inl oS_board.2)))] sz)) (va_A [(o, .inr (3, [.ref o_board, .int oS_side, .int oS_rights, .int oS_passed, .int oS_clock, .int oS_number])), (o_board, .inr (0, [.ref o_board_men, .ref o_board_sets])), (o_board_men, .inl (cI, 64, .inl oS_board.1)), (o_board_sets, .inl (cJ, 16, .inr (.inl oS_board.2)))] sz)) 0 0 (va_A [(o, .inr (3, [.ref o_board, .int oS_side, .int oS_rights, .int oS_passed, .int oS_clock, .int oS_number])), (o_board, .inr (0, [.ref o_board_men, .ref o_board_sets])), (o_board_men, .inl (cI, 64, .inl oS_board.1)), (o_board_sets, .inl (cJ, 16, .inr (.inl oS_board.2)))] sz) := by
  refine Met.ofW (cc := cPo_clear) (maxL := 2) (ret := none) (by decide) rfl ?_
  intro p e s m args below meth c s₁ B hml hv
  obtain ⟨rfl, hsz, hP, hK, hD0, hG⟩ := hv
  have hx := B.exec
  have hb := B.bytes
  have hr := B.returns
  have hB : ∀ w9 ∈ BIG, w9.before ([.ref o]).toArray s = true := fun w9 h => atoms_spec (ws := wsPo_clear) B.pre w9 (List.mem_cons_of_mem _ h)
  have hown : s.vm.findClass "ChessRules$Position" = some m.cls := findClass_of_methodNamed B.named
  have hlocks := B.notSynchronized
  subst hsz
  have hD := hD0.self (sz := s.heap.size)
  generalize hAe : va_A [(o, .inr (3, [.ref o_board, .int oS_side, .int oS_rights, .int oS_passed, .int oS_clock, .int oS_number])), (o_board, .inr (0, [.ref o_board_men, .ref o_board_sets])), (o_board_men, .inl (cI, 64, .inl oS_board.1)), (o_board_sets, .inl (cJ, 16, .inr (.inl oS_board.2)))] s.heap.size = A at hD hG ⊢
  have hA : ∀ q : Nat, s.heap.size ≤ q → A q := fun q h => by rw [← hAe]; exact Or.inr h
  have hS : va_S A s.heap s.heap [] := va_S.rf
  have hP : va_P (dC, dI) vwCl [(o, .inr (3, [.ref o_board, .int oS_side, .int oS_rights, .int oS_passed, .int oS_clock, .int oS_number])), (o_board, .inr (0, [.ref o_board_men, .ref o_board_sets])), (o_board_men, .inl (cI, 64, .inl oS_board.1)), (o_board_sets, .inl (cJ, 16, .inr (.inl oS_board.2)))] s.heap := hP
  have hl := lv_entry ([.ref o]) (n := 2) (Nat.le_of_ble_eq_true rfl)
  rw [lg_entry_eq]
  generalize (lg_sl ([.ref o]) ++ List.replicate (2 - (lg_sl ([.ref o])).length) Slot.unset).toArray = ls at hl ⊢
  have hl : lv_has ls 2 [(0, .ref o)] := hl
  refine lv_iconst (v := 0) hx hb dPo_clear_0 (by decide) ?_
  refine lv_istore_n (lv' := [(1, .int 0), (0, .ref o)]) hx hb dPo_clear_1 rfl hl (by decide) rfl (fun ls hl => ?_)
  have J_2 : ∀ (n_2 : Nat) (v1_2 : Int32) (W_o_board_2 : St_Bo), f_Po_clear oS_board oS_side oS_rights oS_passed oS_clock oS_number = f_Po_clear_2 oS_board oS_side oS_rights oS_passed oS_clock oS_number n_2 v1_2 W_o_board_2 → ((0 : Int) ≤ v1_2.toInt ∧ (64 : Int32).toInt - v1_2.toInt + 1 ≤ (n_2 : Int) ∧ (1 : Int) ≤ (n_2 : Int)) → ∀ (H : Heap) (locs : List Loc), va_P (dC, dI) vwCl [(o, .inr (3, [.ref o_board, .int oS_side, .int oS_rights, .int oS_passed, .int oS_clock, .int oS_number])), (o_board, .inr (0, [.ref o_board_men, .ref o_board_sets])), (o_board_men, .inl (cI, 64, .inl W_o_board_2.1)), (o_board_sets, .inl (cJ, 16, .inr (.inl W_o_board_2.2)))] H → va_D A [(o, .inr (3, [.ref o_board, .int oS_side, .int oS_rights, .int oS_passed, .int oS_clock, .int oS_number])), (o_board, .inr (0, [.ref o_board_men, .ref o_board_sets])), (o_board_men, .inl (cI, 64, .inl W_o_board_2.1)), (o_board_sets, .inl (cJ, 16, .inr (.inl W_o_board_2.2)))] → va_S A s.heap H locs → ∀ ls : Array Slot, lv_has ls 2 [(0, .ref o), (1, .int v1_2)] → W p l e (headSpec wsPo_clear { frames := 2, cells := 0, slots := 0, locals := 44 }).room s m ([.ref o]).toArray below meth c H locs 0 0 (MQ below (va_Qv (fun _ : Unit => True) (rwB dC dI (TYS cI cJ cC) [(o, .inr (3, [.ref o_board, .int ((f_Po_clear oS_board oS_side oS_rights oS_passed oS_clock oS_number).2.1), .int ((f_Po_clear oS_board oS_side oS_rights oS_passed oS_clock oS_number).2.2.1), .int ((f_Po_clear oS_board oS_side oS_rights oS_passed oS_clock oS_number).2.2.2.1), .int ((f_Po_clear oS_board oS_side oS_rights oS_passed oS_clock oS_number).2.2.2.2.1), .int ((f_Po_clear oS_board oS_side oS_rights oS_passed oS_clock oS_number).2.2.2.2.2)])), (o_board, .inr (0, [.ref o_board_men, .ref o_board_sets])), (o_board_men, .inl (cI, 64, .inl (((f_Po_clear oS_board oS_side oS_rights oS_passed oS_clock oS_number).1).1))), (o_board_sets, .inl (cJ, 16, .inr (.inl (((f_Po_clear oS_board oS_side oS_rights oS_passed oS_clock oS_number).1).2))))] A) A) ([.ref o]).toArray s 0 0 A) (F0 m 2 ls []) := by
    intro n_2
    induction n_2 with
    | zero => intro v1_2 W_o_board_2 _ hm_2; exact absurd hm_2 (by omega)
    | succ n_2 ih_2 =>
      intro v1_2 W_o_board_2 he_2 hm_2 H locs hP hD hS ls hl
      refine lv_iload_n hx hb dPo_clear_2 rfl (lv_at hl 1 rfl) ?_
      refine lv_bipush (v := 64) hx hb dPo_clear_3 (by decide) ?_
      refine lv_icmp_ge (tgt := 23) hx hb dPo_clear_5 (by decide) (fun c_1 => ?_) (fun c_1 => ?_)
      · refine lv_aload_n hx hb dPo_clear_23 rfl (lv_at hl 0 rfl) ?_
        refine lv_iconst (v := 0) hx hb dPo_clear_24 (by decide) ?_
        refine va_put (D := (dC, dI)) (ci := 3) (v := .int 0) (ty := .int) (C := RPo) (T := TPo) (N := 6) hx hb hB inPo tyPo tyPo_ok nmPo hown hK hP hD hS 0 rfl rfl 1 (by decide) (hB _ q1_83) (fun _ h9 => h9) rfl (by decide +kernel) rfl rfl (Nat.le_of_ble_eq_true rfl) dPo_clear_25 (fun H locs hP hD hS => ?_)
        have hP : va_P (dC, dI) vwCl [(o, .inr (3, [.ref o_board, .int 0, .int oS_rights, .int oS_passed, .int oS_clock, .int oS_number])), (o_board, .inr (0, [.ref o_board_men, .ref o_board_sets])), (o_board_men, .inl (cI, 64, .inl W_o_board_2.1)), (o_board_sets, .inl (cJ, 16, .inr (.inl W_o_board_2.2)))] H := hP
        have hD : va_D A [(o, .inr (3, [.ref o_board, .int 0, .int oS_rights, .int oS_passed, .int oS_clock, .int oS_number])), (o_board, .inr (0, [.ref o_board_men, .ref o_board_sets])), (o_board_men, .inl (cI, 64, .inl W_o_board_2.1)), (o_board_sets, .inl (cJ, 16, .inr (.inl W_o_board_2.2)))] := hD
        refine lv_aload_n hx hb dPo_clear_28 rfl (lv_at hl 0 rfl) ?_
        refine lv_iconst (v := 0) hx hb dPo_clear_29 (by decide) ?_
        refine va_put (D := (dC, dI)) (ci := 3) (v := .int 0) (ty := .int) (C := RPo) (T := TPo) (N := 6) hx hb hB inPo tyPo tyPo_ok nmPo hown hK hP hD hS 0 rfl rfl 2 (by decide) (hB _ q1_89) (fun _ h9 => h9) rfl (by decide +kernel) rfl rfl (Nat.le_of_ble_eq_true rfl) dPo_clear_30 (fun H locs hP hD hS => ?_)
        have hP : va_P (dC, dI) vwCl [(o, .inr (3, [.ref o_board, .int 0, .int 0, .int oS_passed, .int oS_clock, .int oS_number])), (o_board, .inr (0, [.ref o_board_men, .ref o_board_sets])), (o_board_men, .inl (cI, 64, .inl W_o_board_2.1)), (o_board_sets, .inl (cJ, 16, .inr (.inl W_o_board_2.2)))] H := hP
        have hD : va_D A [(o, .inr (3, [.ref o_board, .int 0, .int 0, .int oS_passed, .int oS_clock, .int oS_number])), (o_board, .inr (0, [.ref o_board_men, .ref o_board_sets])), (o_board_men, .inl (cI, 64, .inl W_o_board_2.1)), (o_board_sets, .inl (cJ, 16, .inr (.inl W_o_board_2.2)))] := hD
        refine lv_aload_n hx hb dPo_clear_33 rfl (lv_at hl 0 rfl) ?_
        refine lv_iconst (v := (-1)) hx hb dPo_clear_34 (by decide) ?_
        refine va_put (D := (dC, dI)) (ci := 3) (v := .int (-1)) (ty := .int) (C := RPo) (T := TPo) (N := 6) hx hb hB inPo tyPo tyPo_ok nmPo hown hK hP hD hS 0 rfl rfl 3 (by decide) (hB _ q1_94) (fun _ h9 => h9) rfl (by decide +kernel) rfl rfl (Nat.le_of_ble_eq_true rfl) dPo_clear_35 (fun H locs hP hD hS => ?_)
        have hP : va_P (dC, dI) vwCl [(o, .inr (3, [.ref o_board, .int 0, .int 0, .int (-1), .int oS_clock, .int oS_number])), (o_board, .inr (0, [.ref o_board_men, .ref o_board_sets])), (o_board_men, .inl (cI, 64, .inl W_o_board_2.1)), (o_board_sets, .inl (cJ, 16, .inr (.inl W_o_board_2.2)))] H := hP
        have hD : va_D A [(o, .inr (3, [.ref o_board, .int 0, .int 0, .int (-1), .int oS_clock, .int oS_number])), (o_board, .inr (0, [.ref o_board_men, .ref o_board_sets])), (o_board_men, .inl (cI, 64, .inl W_o_board_2.1)), (o_board_sets, .inl (cJ, 16, .inr (.inl W_o_board_2.2)))] := hD
        refine lv_aload_n hx hb dPo_clear_38 rfl (lv_at hl 0 rfl) ?_
        refine lv_iconst (v := 0) hx hb dPo_clear_39 (by decide) ?_
        refine va_put (D := (dC, dI)) (ci := 3) (v := .int 0) (ty := .int) (C := RPo) (T := TPo) (N := 6) hx hb hB inPo tyPo tyPo_ok nmPo hown hK hP hD hS 0 rfl rfl 4 (by decide) (hB _ q1_98) (fun _ h9 => h9) rfl (by decide +kernel) rfl rfl (Nat.le_of_ble_eq_true rfl) dPo_clear_40 (fun H locs hP hD hS => ?_)
        have hP : va_P (dC, dI) vwCl [(o, .inr (3, [.ref o_board, .int 0, .int 0, .int (-1), .int 0, .int oS_number])), (o_board, .inr (0, [.ref o_board_men, .ref o_board_sets])), (o_board_men, .inl (cI, 64, .inl W_o_board_2.1)), (o_board_sets, .inl (cJ, 16, .inr (.inl W_o_board_2.2)))] H := hP
        have hD : va_D A [(o, .inr (3, [.ref o_board, .int 0, .int 0, .int (-1), .int 0, .int oS_number])), (o_board, .inr (0, [.ref o_board_men, .ref o_board_sets])), (o_board_men, .inl (cI, 64, .inl W_o_board_2.1)), (o_board_sets, .inl (cJ, 16, .inr (.inl W_o_board_2.2)))] := hD
        refine lv_aload_n hx hb dPo_clear_43 rfl (lv_at hl 0 rfl) ?_
        refine lv_iconst (v := 1) hx hb dPo_clear_44 (by decide) ?_
        refine va_put (D := (dC, dI)) (ci := 3) (v := .int 1) (ty := .int) (C := RPo) (T := TPo) (N := 6) hx hb hB inPo tyPo tyPo_ok nmPo hown hK hP hD hS 0 rfl rfl 5 (by decide) (hB _ q1_103) (fun _ h9 => h9) rfl (by decide +kernel) rfl rfl (Nat.le_of_ble_eq_true rfl) dPo_clear_45 (fun H locs hP hD hS => ?_)
        have hP : va_P (dC, dI) vwCl [(o, .inr (3, [.ref o_board, .int 0, .int 0, .int (-1), .int 0, .int 1])), (o_board, .inr (0, [.ref o_board_men, .ref o_board_sets])), (o_board_men, .inl (cI, 64, .inl W_o_board_2.1)), (o_board_sets, .inl (cJ, 16, .inr (.inl W_o_board_2.2)))] H := hP
        have hD : va_D A [(o, .inr (3, [.ref o_board, .int 0, .int 0, .int (-1), .int 0, .int 1])), (o_board, .inr (0, [.ref o_board_men, .ref o_board_sets])), (o_board_men, .inl (cI, 64, .inl W_o_board_2.1)), (o_board_sets, .inl (cJ, 16, .inr (.inl W_o_board_2.2)))] := hD
        have hv : f_Po_clear oS_board oS_side oS_rights oS_passed oS_clock oS_number = (W_o_board_2, 0, 0, (-1), 0, 1) := (he_2.trans (by rw [f_Po_clear_2_eq, if_pos c_1] <;> rfl))
        have hP9 : va_P (dC, dI) vwCl [(o, .inr (3, [.ref o_board, .int ((f_Po_clear oS_board oS_side oS_rights oS_passed oS_clock oS_number).2.1), .int ((f_Po_clear oS_board oS_side oS_rights oS_passed oS_clock oS_number).2.2.1), .int ((f_Po_clear oS_board oS_side oS_rights oS_passed oS_clock oS_number).2.2.2.1), .int ((f_Po_clear oS_board oS_side oS_rights oS_passed oS_clock oS_number).2.2.2.2.1), .int ((f_Po_clear oS_board oS_side oS_rights oS_passed oS_clock oS_number).2.2.2.2.2)])), (o_board, .inr (0, [.ref o_board_men, .ref o_board_sets])), (o_board_men, .inl (cI, 64, .inl (((f_Po_clear oS_board oS_side oS_rights oS_passed oS_clock oS_number).1).1))), (o_board_sets, .inl (cJ, 16, .inr (.inl (((f_Po_clear oS_board oS_side oS_rights oS_passed oS_clock oS_number).1).2))))] H := by first | (rw [hv]; exact hP.sub [0, 1, 2, 3] rfl) | exact hP.sub [0, 1, 2, 3] rfl
        have hD9 : va_D A [(o, .inr (3, [.ref o_board, .int ((f_Po_clear oS_board oS_side oS_rights oS_passed oS_clock oS_number).2.1), .int ((f_Po_clear oS_board oS_side oS_rights oS_passed oS_clock oS_number).2.2.1), .int ((f_Po_clear oS_board oS_side oS_rights oS_passed oS_clock oS_number).2.2.2.1), .int ((f_Po_clear oS_board oS_side oS_rights oS_passed oS_clock oS_number).2.2.2.2.1), .int ((f_Po_clear oS_board oS_side oS_rights oS_passed oS_clock oS_number).2.2.2.2.2)])), (o_board, .inr (0, [.ref o_board_men, .ref o_board_sets])), (o_board_men, .inl (cI, 64, .inl (((f_Po_clear oS_board oS_side oS_rights oS_passed oS_clock oS_number).1).1))), (o_board_sets, .inl (cJ, 16, .inr (.inl (((f_Po_clear oS_board oS_side oS_rights oS_passed oS_clock oS_number).1).2))))] := by first | (rw [hv]; exact hD.sub [0, 1, 2, 3] (by decide) rfl) | exact hD.sub [0, 1, 2, 3] (by decide) rfl
        exact rw_retv hx hb hr hlocks hK hP9 hD9 hS dPo_clear_48
      · refine lv_aload_n hx hb dPo_clear_8 rfl (lv_at hl 0 rfl) ?_
        refine va_get (D := (dC, dI)) (ci := 3) (v := .ref o_board) (C := RPo) (T := TPo) (N := 6) hx hb hB inPo hown hK hP 0 rfl rfl 0 (by decide) (hB _ q1_77) (fun _ h9 => h9) rfl dPo_clear_9 ?_
        refine lv_iload_n hx hb dPo_clear_12 rfl (lv_at hl 1 rfl) ?_
        refine lv_iconst (v := 0) hx hb dPo_clear_13 (by decide) ?_
        obtain ⟨R_14, hR_14⟩ : ∃ R9, R9 = f_Bo_put W_o_board_2.1 W_o_board_2.2 v1_2 0 := ⟨_, rfl⟩
        have hM_14 := (c_Bo_put l dC dI cI cJ cC ad o_board o_board_men o_board_sets H.size W_o_board_2.1 W_o_board_2.2 v1_2 0)
        rw [← hR_14] at hM_14
        refine rw_gov (wr := [(o, .inr (3, [.ref o_board, .int oS_side, .int oS_rights, .int oS_passed, .int oS_clock, .int oS_number]))]) (va_runVN (C := "ChessRules$Board") (As := [.int v1_2, .int 0]) (rest := []) ⟨hx, hb, hml, hown, hB⟩ hM_14 ⟨va_cnB 2 hB (big_self q1_228) rfl rfl rfl (hG.1 _ q1_225) (hB _ q1_5) (by decide +kernel) ⟨Nat.le_of_ble_eq_true rfl, Nat.le_of_ble_eq_true rfl⟩, (hB _ q1_227), (hB _ qs1_3)⟩ (rw_preV (GS_ok ad) hK hP hD hA hG hS [1, 2, 3] (by decide) rfl rfl (va_recv hK hP (ci := 0) (q0 := 1) rfl rfl)) rfl rfl hl.1 rfl (lv_room (Nat.le_of_ble_eq_true rfl)) dPo_clear_14 ⟨Nat.le_of_ble_eq_true rfl, Nat.le_of_ble_eq_true rfl⟩) hP hD hS hA [1, 2, 3] [0] rfl rfl (by decide) (by decide) (fun H locs hP hD hS => ?_)
        have hP : va_P (dC, dI) vwCl [(o, .inr (3, [.ref o_board, .int oS_side, .int oS_rights, .int oS_passed, .int oS_clock, .int oS_number])), (o_board, .inr (0, [.ref o_board_men, .ref o_board_sets])), (o_board_men, .inl (cI, 64, .inl R_14.1)), (o_board_sets, .inl (cJ, 16, .inr (.inl R_14.2)))] H := hP
        have hD : va_D A [(o, .inr (3, [.ref o_board, .int oS_side, .int oS_rights, .int oS_passed, .int oS_clock, .int oS_number])), (o_board, .inr (0, [.ref o_board_men, .ref o_board_sets])), (o_board_men, .inl (cI, 64, .inl R_14.1)), (o_board_sets, .inl (cJ, 16, .inr (.inl R_14.2)))] := hD
        have he_r14 : f_Po_clear oS_board oS_side oS_rights oS_passed oS_clock oS_number = f_Po_clear_r14 (f_Po_clear_2 oS_board oS_side oS_rights oS_passed oS_clock oS_number n_2) oS_board oS_side oS_rights oS_passed oS_clock oS_number v1_2 W_o_board_2 R_14 := (he_2.trans (by rw [f_Po_clear_2_eq, if_neg c_1, ← hR_14] <;> rfl))
        refine lv_iinc (v := v1_2 + 1) (lv' := [(1, .int (v1_2 + 1)), (0, .ref o)]) hx hb dPo_clear_17 hl (k := 1) rfl rfl (by decide) rfl (fun ls hl => ?_)
        refine lv_goto (tgt := 2) hx hb dPo_clear_20 (by decide) ?_
        exact ih_2 (v1_2 + 1) R_14 (he_r14.trans (by rw [f_Po_clear_r14_eq] <;> rfl)) (by have z1 := tnle c_1; have y64 : (64 : Int32).toInt = 64 := rfl; have zr := i_rng (64 : Int32); have zs := i_succ9 v1_2 (by omega); omega) _ _ (hP.sub [0, 1, 2, 3] rfl) (hD.sub [0, 1, 2, 3] (by decide) rfl) hS ls (lv_sub hl [1, 0] rfl)
  exact J_2 (65) 0 oS_board (by rw [f_Po_clear_eq] <;> rfl) (by decide) _ _ (hP.sub [0, 1, 2, 3] rfl) (hD.sub [0, 1, 2, 3] (by decide) rfl) hS ls (lv_sub hl [1, 0] rfl)

abbrev cPo_copy : ByteArray := prog_5_method_3_code
def yPo_copy : MethodName := ⟨"ChessRules$Position", "copy", "(LChessRules$Position;)V"⟩
def wsPo_copy : List Cond := Cond.code yPo_copy cPo_copy 3 none :: BIG
theorem dPo_copy_0 : decode cPo_copy 0 = .ok (.iconst 0, 1) := by decide +kernel
theorem dPo_copy_1 : decode cPo_copy 1 = .ok (.istore_n 2, 1) := by decide +kernel
theorem dPo_copy_2 : decode cPo_copy 2 = .ok (.iload_n 2, 1) := by decide +kernel
theorem dPo_copy_3 : decode cPo_copy 3 = .ok (.bipush 64, 2) := by decide +kernel
theorem dPo_copy_5 : decode cPo_copy 5 = .ok (.if_icmp .ge 25, 3) := by decide +kernel
theorem dPo_copy_8 : decode cPo_copy 8 = .ok (.aload_n 0, 1) := by decide +kernel
theorem dPo_copy_9 : decode cPo_copy 9 = .ok (.getfield 12, 3) := by decide +kernel
theorem dPo_copy_12 : decode cPo_copy 12 = .ok (.iload_n 2, 1) := by decide +kernel
theorem dPo_copy_13 : decode cPo_copy 13 = .ok (.aload_n 1, 1) := by decide +kernel
theorem dPo_copy_14 : decode cPo_copy 14 = .ok (.getfield 12, 3) := by decide +kernel
theorem dPo_copy_17 : decode cPo_copy 17 = .ok (.iload_n 2, 1) := by decide +kernel
theorem dPo_copy_18 : decode cPo_copy 18 = .ok (.invokevirtual 38, 3) := by decide +kernel
theorem dPo_copy_21 : decode cPo_copy 21 = .ok (.invokevirtual 34, 3) := by decide +kernel
theorem dPo_copy_24 : decode cPo_copy 24 = .ok (.iinc 2 1, 3) := by decide +kernel
theorem dPo_copy_27 : decode cPo_copy 27 = .ok (.goto (-25), 3) := by decide +kernel
theorem dPo_copy_30 : decode cPo_copy 30 = .ok (.aload_n 0, 1) := by decide +kernel
theorem dPo_copy_31 : decode cPo_copy 31 = .ok (.aload_n 1, 1) := by decide +kernel
theorem dPo_copy_32 : decode cPo_copy 32 = .ok (.getfield 18, 3) := by decide +kernel
theorem dPo_copy_35 : decode cPo_copy 35 = .ok (.putfield 18, 3) := by decide +kernel
theorem dPo_copy_38 : decode cPo_copy 38 = .ok (.aload_n 0, 1) := by decide +kernel
theorem dPo_copy_39 : decode cPo_copy 39 = .ok (.aload_n 1, 1) := by decide +kernel
theorem dPo_copy_40 : decode cPo_copy 40 = .ok (.getfield 22, 3) := by decide +kernel
theorem dPo_copy_43 : decode cPo_copy 43 = .ok (.putfield 22, 3) := by decide +kernel
theorem dPo_copy_46 : decode cPo_copy 46 = .ok (.aload_n 0, 1) := by decide +kernel
theorem dPo_copy_47 : decode cPo_copy 47 = .ok (.aload_n 1, 1) := by decide +kernel
theorem dPo_copy_48 : decode cPo_copy 48 = .ok (.getfield 25, 3) := by decide +kernel
theorem dPo_copy_51 : decode cPo_copy 51 = .ok (.putfield 25, 3) := by decide +kernel
theorem dPo_copy_54 : decode cPo_copy 54 = .ok (.aload_n 0, 1) := by decide +kernel
theorem dPo_copy_55 : decode cPo_copy 55 = .ok (.aload_n 1, 1) := by decide +kernel
theorem dPo_copy_56 : decode cPo_copy 56 = .ok (.getfield 28, 3) := by decide +kernel
theorem dPo_copy_59 : decode cPo_copy 59 = .ok (.putfield 28, 3) := by decide +kernel
theorem dPo_copy_62 : decode cPo_copy 62 = .ok (.aload_n 0, 1) := by decide +kernel
theorem dPo_copy_63 : decode cPo_copy 63 = .ok (.aload_n 1, 1) := by decide +kernel
theorem dPo_copy_64 : decode cPo_copy 64 = .ok (.getfield 31, 3) := by decide +kernel
theorem dPo_copy_67 : decode cPo_copy 67 = .ok (.putfield 31, 3) := by decide +kernel
theorem dPo_copy_70 : decode cPo_copy 70 = .ok (.return_, 1) := by decide +kernel

def f_Po_copy_r21 (r_2 : Int32 → St_Bo → (St_Bo × Int32 × Int32 × Int32 × Int32 × Int32)) (oS_board : St_Bo) (oS_side : Int32) (oS_rights : Int32) (oS_passed : Int32) (oS_clock : Int32) (oS_number : Int32) (xS_board : St_Bo) (xS_side : Int32) (xS_rights : Int32) (xS_passed : Int32) (xS_clock : Int32) (xS_number : Int32) (v2_2 : Int32) (W_o_board_2 : St_Bo) (R_21 : ((Nat → Int32) × (Nat → Int64))) : St_Bo × Int32 × Int32 × Int32 × Int32 × Int32 :=
  r_2 (v2_2 + 1) R_21
theorem f_Po_copy_r21_eq (r_2 : Int32 → St_Bo → (St_Bo × Int32 × Int32 × Int32 × Int32 × Int32)) (oS_board : St_Bo) (oS_side : Int32) (oS_rights : Int32) (oS_passed : Int32) (oS_clock : Int32) (oS_number : Int32) (xS_board : St_Bo) (xS_side : Int32) (xS_rights : Int32) (xS_passed : Int32) (xS_clock : Int32) (xS_number : Int32) (v2_2 : Int32) (W_o_board_2 : St_Bo) (R_21 : ((Nat → Int32) × (Nat → Int64))) : f_Po_copy_r21 r_2 oS_board oS_side oS_rights oS_passed oS_clock oS_number xS_board xS_side xS_rights xS_passed xS_clock xS_number v2_2 W_o_board_2 R_21 =
  r_2 (v2_2 + 1) R_21 := rfl

def f_Po_copy_2 (oS_board : St_Bo) (oS_side : Int32) (oS_rights : Int32) (oS_passed : Int32) (oS_clock : Int32) (oS_number : Int32) (xS_board : St_Bo) (xS_side : Int32) (xS_rights : Int32) (xS_passed : Int32) (xS_clock : Int32) (xS_number : Int32) : Nat → Int32 → St_Bo → (St_Bo × Int32 × Int32 × Int32 × Int32 × Int32)
  | 0 => fun _ _ => (oS_board, oS_side, oS_rights, oS_passed, oS_clock, oS_number)
  | n_2 + 1 => fun v2_2 W_o_board_2 => (if 64 ≤ v2_2 then (W_o_board_2, xS_side, xS_rights, xS_passed, xS_clock, xS_number) else f_Po_copy_r21 (f_Po_copy_2 oS_board oS_side oS_rights oS_passed oS_clock oS_number xS_board xS_side xS_rights xS_passed xS_clock xS_number n_2) oS_board oS_side oS_rights oS_passed oS_clock oS_number xS_board xS_side xS_rights xS_passed xS_clock xS_number v2_2 W_o_board_2 (f_Bo_put W_o_board_2.1 W_o_board_2.2 v2_2 (f_Bo_manAt xS_board.1 v2_2)))
theorem f_Po_copy_2_eq (oS_board : St_Bo) (oS_side : Int32) (oS_rights : Int32) (oS_passed : Int32) (oS_clock : Int32) (oS_number : Int32) (xS_board : St_Bo) (xS_side : Int32) (xS_rights : Int32) (xS_passed : Int32) (xS_clock : Int32) (xS_number : Int32) (n_2 : Nat) (v2_2 : Int32) (W_o_board_2 : St_Bo) : f_Po_copy_2 oS_board oS_side oS_rights oS_passed oS_clock oS_number xS_board xS_side xS_rights xS_passed xS_clock xS_number (n_2 + 1) v2_2 W_o_board_2 =
  (if 64 ≤ v2_2 then (W_o_board_2, xS_side, xS_rights, xS_passed, xS_clock, xS_number) else f_Po_copy_r21 (f_Po_copy_2 oS_board oS_side oS_rights oS_passed oS_clock oS_number xS_board xS_side xS_rights xS_passed xS_clock xS_number n_2) oS_board oS_side oS_rights oS_passed oS_clock oS_number xS_board xS_side xS_rights xS_passed xS_clock xS_number v2_2 W_o_board_2 (f_Bo_put W_o_board_2.1 W_o_board_2.2 v2_2 (f_Bo_manAt xS_board.1 v2_2))) := rfl

def f_Po_copy (oS_board : St_Bo) (oS_side : Int32) (oS_rights : Int32) (oS_passed : Int32) (oS_clock : Int32) (oS_number : Int32) (xS_board : St_Bo) (xS_side : Int32) (xS_rights : Int32) (xS_passed : Int32) (xS_clock : Int32) (xS_number : Int32) : St_Bo × Int32 × Int32 × Int32 × Int32 × Int32 :=
  f_Po_copy_2 oS_board oS_side oS_rights oS_passed oS_clock oS_number xS_board xS_side xS_rights xS_passed xS_clock xS_number (65) 0 oS_board
theorem f_Po_copy_eq (oS_board : St_Bo) (oS_side : Int32) (oS_rights : Int32) (oS_passed : Int32) (oS_clock : Int32) (oS_number : Int32) (xS_board : St_Bo) (xS_side : Int32) (xS_rights : Int32) (xS_passed : Int32) (xS_clock : Int32) (xS_number : Int32) : f_Po_copy oS_board oS_side oS_rights oS_passed oS_clock oS_number xS_board xS_side xS_rights xS_passed xS_clock xS_number =
  f_Po_copy_2 oS_board oS_side oS_rights oS_passed oS_clock oS_number xS_board xS_side xS_rights xS_passed xS_clock xS_number (65) 0 oS_board := rfl

set_option maxHeartbeats 4000000 in
set_option maxRecDepth 100000 in
theorem c_Po_copy (l : Launch) (dC : Nat → ClassId) (dI : Nat → Nat → Nat) (cI cJ cC : ClassId) (ad : Nat → Nat) (o o_board o_board_men o_board_sets x x_board x_board_men x_board_sets : Nat) (sz : Nat) (oS_board : St_Bo) (oS_side : Int32) (oS_rights : Int32) (oS_passed : Int32) (oS_clock : Int32) (oS_number : Int32) (xS_board : St_Bo) (xS_side : Int32) (xS_rights : Int32) (xS_passed : Int32) (xS_clock : Int32) (xS_number : Int32) : Met l yPo_copy wsPo_copy { frames := 2, cells := 0, slots := 0, locals := 44 } (rwP dC dI (TYS cI cJ cC) [.ref o, .ref x] [(o, .inr (3, [.ref o_board, .int oS_side, .int oS_rights, .int oS_passed, .int oS_clock, .int oS_number])), (o_board, .inr (0, [.ref o_board_men, .ref o_board_sets])), (o_board_men, .inl (cI, 64, .inl oS_board.1)), (o_board_sets, .inl (cJ, 16, .inr (.inl oS_board.2))), (x, .inr (3, [.ref x_board, .int xS_side, .int xS_rights, .int xS_passed, .int xS_clock, .int xS_number])), (x_board, .inr (0, [.ref x_board_men, .ref x_board_sets])), (x_board_men, .inl (cI, 64, .inl xS_board.1)), (x_board_sets, .inl (cJ, 16, .inr (.inl xS_board.2)))] sz (GS ad)) (va_Qv (fun _ : Unit => True) (rwB dC dI (TYS cI cJ cC) [(o, .inr (3, [.ref o_board, .int ((f_Po_copy oS_board oS_side oS_rights oS_passed oS_clock oS_number xS_board xS_side xS_rights xS_passed xS_clock xS_number).2.1), .int ((f_Po_copy oS_board oS_side oS_rights oS_passed oS_clock oS_number xS_board xS_side xS_rights xS_passed xS_clock xS_number).2.2.1), .int ((f_Po_copy oS_board oS_side oS_rights oS_passed oS_clock oS_number xS_board xS_side xS_rights xS_passed xS_clock xS_number).2.2.2.1), .int ((f_Po_copy oS_board oS_side oS_rights oS_passed oS_clock oS_number xS_board xS_side xS_rights xS_passed xS_clock xS_number).2.2.2.2.1), .int ((f_Po_copy oS_board oS_side oS_rights oS_passed oS_clock oS_number xS_board xS_side xS_rights xS_passed xS_clock xS_number).2.2.2.2.2)])), (o_board, .inr (0, [.ref o_board_men, .ref o_board_sets])), (o_board_men, .inl (cI, 64, .inl (((f_Po_copy oS_board oS_side oS_rights oS_passed oS_clock oS_number xS_board xS_side xS_rights xS_passed xS_clock xS_number).1).1))), (o_board_sets, .inl (cJ, 16, .inr (.inl (((f_Po_copy oS_board oS_side oS_rights oS_passed oS_clock oS_number xS_board xS_side xS_rights xS_passed xS_clock xS_number).1).2)))), (x, .inr (3, [.ref x_board, .int xS_side, .int xS_rights, .int xS_passed, .int xS_clock, .int xS_number])), (x_board, .inr (0, [.ref x_board_men, .ref x_board_sets])), (x_board_men, .inl (cI, 64, .inl xS_board.1)), (x_board_sets, .inl (cJ, 16, .inr (.inl xS_board.2)))] (va_A [(o, .inr (3, [.ref o_board, .int oS_side, .int oS_rights, .int oS_passed, .int oS_clock, .int oS_number])), (o_board, .inr (0, [.ref o_board_men, .ref o_board_sets])), (o_board_men, .inl (cI, 64, .inl oS_board.1)), (o_board_sets, .inl (cJ, 16, .inr (.inl oS_board.2))), (x, .inr (3, [.ref x_board, .int xS_side, .int xS_rights, .int xS_passed, .int xS_clock, .int xS_number])), (x_board, .inr (0, [.ref x_board_men, .ref x_board_sets])), (x_board_men, .inl (cI, 64, .inl xS_board.1)), (x_board_sets, .inl (cJ, 16, .inr (.inl xS_board.2)))] sz)) (va_A [(o, .inr (3, [.ref o_board, .int oS_side, .int oS_rights, .int oS_passed, .int oS_clock, .int oS_number])), (o_board, .inr (0, [.ref o_board_men, .ref o_board_sets])), (o_board_men, .inl (cI, 64, .inl oS_board.1)), (o_board_sets, .inl (cJ, 16, .inr (.inl oS_board.2))), (x, .inr (3, [.ref x_board, .int xS_side, .int xS_rights, .int xS_passed, .int xS_clock, .int xS_number])), (x_board, .inr (0, [.ref x_board_men, .ref x_board_sets])), (x_board_men, .inl (cI, 64, .inl xS_board.1)), (x_board_sets, .inl (cJ, 16, .inr (.inl xS_board.2)))] sz)) 0 0 (va_A [(o, .inr (3, [.ref o_board, .int oS_side, .int oS_rights, .int oS_passed, .int oS_clock, .int oS_number])), (o_board, .inr (0, [.ref o_board_men, .ref o_board_sets])), (o_board_men, .inl (cI, 64, .inl oS_board.1)), (o_board_sets, .inl (cJ, 16, .inr (.inl oS_board.2))), (x, .inr (3, [.ref x_board, .int xS_side, .int xS_rights, .int xS_passed, .int xS_clock, .int xS_number])), (x_board, .inr (0, [.ref x_board_men, .ref x_board_sets])), (x_board_men, .inl (cI, 64, .inl xS_board.1)), (x_board_sets, .inl (cJ, 16, .inr (.inl xS_board.2)))] sz) := by
  refine Met.ofW (cc := cPo_copy) (maxL := 3) (ret := none) (by decide) rfl ?_
  intro p e s m args below meth c s₁ B hml hv
  obtain ⟨rfl, hsz, hP, hK, hD0, hG⟩ := hv
  have hx := B.exec
  have hb := B.bytes
  have hr := B.returns
  have hB : ∀ w9 ∈ BIG, w9.before ([.ref o, .ref x]).toArray s = true := fun w9 h => atoms_spec (ws := wsPo_copy) B.pre w9 (List.mem_cons_of_mem _ h)
  have hown : s.vm.findClass "ChessRules$Position" = some m.cls := findClass_of_methodNamed B.named
  have hlocks := B.notSynchronized
  subst hsz
  have hD := hD0.self (sz := s.heap.size)
  generalize hAe : va_A [(o, .inr (3, [.ref o_board, .int oS_side, .int oS_rights, .int oS_passed, .int oS_clock, .int oS_number])), (o_board, .inr (0, [.ref o_board_men, .ref o_board_sets])), (o_board_men, .inl (cI, 64, .inl oS_board.1)), (o_board_sets, .inl (cJ, 16, .inr (.inl oS_board.2))), (x, .inr (3, [.ref x_board, .int xS_side, .int xS_rights, .int xS_passed, .int xS_clock, .int xS_number])), (x_board, .inr (0, [.ref x_board_men, .ref x_board_sets])), (x_board_men, .inl (cI, 64, .inl xS_board.1)), (x_board_sets, .inl (cJ, 16, .inr (.inl xS_board.2)))] s.heap.size = A at hD hG ⊢
  have hA : ∀ q : Nat, s.heap.size ≤ q → A q := fun q h => by rw [← hAe]; exact Or.inr h
  have hS : va_S A s.heap s.heap [] := va_S.rf
  have hP : va_P (dC, dI) vwCl [(o, .inr (3, [.ref o_board, .int oS_side, .int oS_rights, .int oS_passed, .int oS_clock, .int oS_number])), (o_board, .inr (0, [.ref o_board_men, .ref o_board_sets])), (o_board_men, .inl (cI, 64, .inl oS_board.1)), (o_board_sets, .inl (cJ, 16, .inr (.inl oS_board.2))), (x, .inr (3, [.ref x_board, .int xS_side, .int xS_rights, .int xS_passed, .int xS_clock, .int xS_number])), (x_board, .inr (0, [.ref x_board_men, .ref x_board_sets])), (x_board_men, .inl (cI, 64, .inl xS_board.1)), (x_board_sets, .inl (cJ, 16, .inr (.inl xS_board.2)))] s.heap := hP
  have hl := lv_entry ([.ref o, .ref x]) (n := 3) (Nat.le_of_ble_eq_true rfl)
  rw [lg_entry_eq]
  generalize (lg_sl ([.ref o, .ref x]) ++ List.replicate (3 - (lg_sl ([.ref o, .ref x])).length) Slot.unset).toArray = ls at hl ⊢
  have hl : lv_has ls 3 [(0, .ref o), (1, .ref x)] := hl
  refine lv_iconst (v := 0) hx hb dPo_copy_0 (by decide) ?_
  refine lv_istore_n (lv' := [(2, .int 0), (0, .ref o), (1, .ref x)]) hx hb dPo_copy_1 rfl hl (by decide) rfl (fun ls hl => ?_)
  have J_2 : ∀ (n_2 : Nat) (v2_2 : Int32) (W_o_board_2 : St_Bo), f_Po_copy oS_board oS_side oS_rights oS_passed oS_clock oS_number xS_board xS_side xS_rights xS_passed xS_clock xS_number = f_Po_copy_2 oS_board oS_side oS_rights oS_passed oS_clock oS_number xS_board xS_side xS_rights xS_passed xS_clock xS_number n_2 v2_2 W_o_board_2 → ((0 : Int) ≤ v2_2.toInt ∧ (64 : Int32).toInt - v2_2.toInt + 1 ≤ (n_2 : Int) ∧ (1 : Int) ≤ (n_2 : Int)) → ∀ (H : Heap) (locs : List Loc), va_P (dC, dI) vwCl [(o, .inr (3, [.ref o_board, .int oS_side, .int oS_rights, .int oS_passed, .int oS_clock, .int oS_number])), (o_board, .inr (0, [.ref o_board_men, .ref o_board_sets])), (o_board_men, .inl (cI, 64, .inl W_o_board_2.1)), (o_board_sets, .inl (cJ, 16, .inr (.inl W_o_board_2.2))), (x, .inr (3, [.ref x_board, .int xS_side, .int xS_rights, .int xS_passed, .int xS_clock, .int xS_number])), (x_board, .inr (0, [.ref x_board_men, .ref x_board_sets])), (x_board_men, .inl (cI, 64, .inl xS_board.1)), (x_board_sets, .inl (cJ, 16, .inr (.inl xS_board.2)))] H → va_D A [(o, .inr (3, [.ref o_board, .int oS_side, .int oS_rights, .int oS_passed, .int oS_clock, .int oS_number])), (o_board, .inr (0, [.ref o_board_men, .ref o_board_sets])), (o_board_men, .inl (cI, 64, .inl W_o_board_2.1)), (o_board_sets, .inl (cJ, 16, .inr (.inl W_o_board_2.2))), (x, .inr (3, [.ref x_board, .int xS_side, .int xS_rights, .int xS_passed, .int xS_clock, .int xS_number])), (x_board, .inr (0, [.ref x_board_men, .ref x_board_sets])), (x_board_men, .inl (cI, 64, .inl xS_board.1)), (x_board_sets, .inl (cJ, 16, .inr (.inl xS_board.2)))] → va_S A s.heap H locs → ∀ ls : Array Slot, lv_has ls 3 [(0, .ref o), (1, .ref x), (2, .int v2_2)] → W p l e (headSpec wsPo_copy { frames := 2, cells := 0, slots := 0, locals := 44 }).room s m ([.ref o, .ref x]).toArray below meth c H locs 0 0 (MQ below (va_Qv (fun _ : Unit => True) (rwB dC dI (TYS cI cJ cC) [(o, .inr (3, [.ref o_board, .int ((f_Po_copy oS_board oS_side oS_rights oS_passed oS_clock oS_number xS_board xS_side xS_rights xS_passed xS_clock xS_number).2.1), .int ((f_Po_copy oS_board oS_side oS_rights oS_passed oS_clock oS_number xS_board xS_side xS_rights xS_passed xS_clock xS_number).2.2.1), .int ((f_Po_copy oS_board oS_side oS_rights oS_passed oS_clock oS_number xS_board xS_side xS_rights xS_passed xS_clock xS_number).2.2.2.1), .int ((f_Po_copy oS_board oS_side oS_rights oS_passed oS_clock oS_number xS_board xS_side xS_rights xS_passed xS_clock xS_number).2.2.2.2.1), .int ((f_Po_copy oS_board oS_side oS_rights oS_passed oS_clock oS_number xS_board xS_side xS_rights xS_passed xS_clock xS_number).2.2.2.2.2)])), (o_board, .inr (0, [.ref o_board_men, .ref o_board_sets])), (o_board_men, .inl (cI, 64, .inl (((f_Po_copy oS_board oS_side oS_rights oS_passed oS_clock oS_number xS_board xS_side xS_rights xS_passed xS_clock xS_number).1).1))), (o_board_sets, .inl (cJ, 16, .inr (.inl (((f_Po_copy oS_board oS_side oS_rights oS_passed oS_clock oS_number xS_board xS_side xS_rights xS_passed xS_clock xS_number).1).2)))), (x, .inr (3, [.ref x_board, .int xS_side, .int xS_rights, .int xS_passed, .int xS_clock, .int xS_number])), (x_board, .inr (0, [.ref x_board_men, .ref x_board_sets])), (x_board_men, .inl (cI, 64, .inl xS_board.1)), (x_board_sets, .inl (cJ, 16, .inr (.inl xS_board.2)))] A) A) ([.ref o, .ref x]).toArray s 0 0 A) (F0 m 2 ls []) := by
    intro n_2
    induction n_2 with
    | zero => intro v2_2 W_o_board_2 _ hm_2; exact absurd hm_2 (by omega)
    | succ n_2 ih_2 =>
      intro v2_2 W_o_board_2 he_2 hm_2 H locs hP hD hS ls hl
      refine lv_iload_n hx hb dPo_copy_2 rfl (lv_at hl 2 rfl) ?_
      refine lv_bipush (v := 64) hx hb dPo_copy_3 (by decide) ?_
      refine lv_icmp_ge (tgt := 30) hx hb dPo_copy_5 (by decide) (fun c_1 => ?_) (fun c_1 => ?_)
      · refine lv_aload_n hx hb dPo_copy_30 rfl (lv_at hl 0 rfl) ?_
        refine lv_aload_n hx hb dPo_copy_31 rfl (lv_at hl 1 rfl) ?_
        refine va_get (D := (dC, dI)) (ci := 3) (v := .int xS_side) (C := RPo) (T := TPo) (N := 6) hx hb hB inPo hown hK hP 4 rfl rfl 1 (by decide) (hB _ q1_83) (fun _ h9 => h9) rfl dPo_copy_32 ?_
        refine va_put (D := (dC, dI)) (ci := 3) (v := .int xS_side) (ty := .int) (C := RPo) (T := TPo) (N := 6) hx hb hB inPo tyPo tyPo_ok nmPo hown hK hP hD hS 0 rfl rfl 1 (by decide) (hB _ q1_83) (fun _ h9 => h9) rfl (by decide +kernel) rfl rfl (Nat.le_of_ble_eq_true rfl) dPo_copy_35 (fun H locs hP hD hS => ?_)
        have hP : va_P (dC, dI) vwCl [(o, .inr (3, [.ref o_board, .int xS_side, .int oS_rights, .int oS_passed, .int oS_clock, .int oS_number])), (o_board, .inr (0, [.ref o_board_men, .ref o_board_sets])), (o_board_men, .inl (cI, 64, .inl W_o_board_2.1)), (o_board_sets, .inl (cJ, 16, .inr (.inl W_o_board_2.2))), (x, .inr (3, [.ref x_board, .int xS_side, .int xS_rights, .int xS_passed, .int xS_clock, .int xS_number])), (x_board, .inr (0, [.ref x_board_men, .ref x_board_sets])), (x_board_men, .inl (cI, 64, .inl xS_board.1)), (x_board_sets, .inl (cJ, 16, .inr (.inl xS_board.2)))] H := hP
        have hD : va_D A [(o, .inr (3, [.ref o_board, .int xS_side, .int oS_rights, .int oS_passed, .int oS_clock, .int oS_number])), (o_board, .inr (0, [.ref o_board_men, .ref o_board_sets])), (o_board_men, .inl (cI, 64, .inl W_o_board_2.1)), (o_board_sets, .inl (cJ, 16, .inr (.inl W_o_board_2.2))), (x, .inr (3, [.ref x_board, .int xS_side, .int xS_rights, .int xS_passed, .int xS_clock, .int xS_number])), (x_board, .inr (0, [.ref x_board_men, .ref x_board_sets])), (x_board_men, .inl (cI, 64, .inl xS_board.1)), (x_board_sets, .inl (cJ, 16, .inr (.inl xS_board.2)))] := hD
        refine lv_aload_n hx hb dPo_copy_38 rfl (lv_at hl 0 rfl) ?_
        refine lv_aload_n hx hb dPo_copy_39 rfl (lv_at hl 1 rfl) ?_
        refine va_get (D := (dC, dI)) (ci := 3) (v := .int xS_rights) (C := RPo) (T := TPo) (N := 6) hx hb hB inPo hown hK hP 4 rfl rfl 2 (by decide) (hB _ q1_89) (fun _ h9 => h9) rfl dPo_copy_40 ?_
        refine va_put (D := (dC, dI)) (ci := 3) (v := .int xS_rights) (ty := .int) (C := RPo) (T := TPo) (N := 6) hx hb hB inPo tyPo tyPo_ok nmPo hown hK hP hD hS 0 rfl rfl 2 (by decide) (hB _ q1_89) (fun _ h9 => h9) rfl (by decide +kernel) rfl rfl (Nat.le_of_ble_eq_true rfl) dPo_copy_43 (fun H locs hP hD hS => ?_)
        have hP : va_P (dC, dI) vwCl [(o, .inr (3, [.ref o_board, .int xS_side, .int xS_rights, .int oS_passed, .int oS_clock, .int oS_number])), (o_board, .inr (0, [.ref o_board_men, .ref o_board_sets])), (o_board_men, .inl (cI, 64, .inl W_o_board_2.1)), (o_board_sets, .inl (cJ, 16, .inr (.inl W_o_board_2.2))), (x, .inr (3, [.ref x_board, .int xS_side, .int xS_rights, .int xS_passed, .int xS_clock, .int xS_number])), (x_board, .inr (0, [.ref x_board_men, .ref x_board_sets])), (x_board_men, .inl (cI, 64, .inl xS_board.1)), (x_board_sets, .inl (cJ, 16, .inr (.inl xS_board.2)))] H := hP
        have hD : va_D A [(o, .inr (3, [.ref o_board, .int xS_side, .int xS_rights, .int oS_passed, .int oS_clock, .int oS_number])), (o_board, .inr (0, [.ref o_board_men, .ref o_board_sets])), (o_board_men, .inl (cI, 64, .inl W_o_board_2.1)), (o_board_sets, .inl (cJ, 16, .inr (.inl W_o_board_2.2))), (x, .inr (3, [.ref x_board, .int xS_side, .int xS_rights, .int xS_passed, .int xS_clock, .int xS_number])), (x_board, .inr (0, [.ref x_board_men, .ref x_board_sets])), (x_board_men, .inl (cI, 64, .inl xS_board.1)), (x_board_sets, .inl (cJ, 16, .inr (.inl xS_board.2)))] := hD
        refine lv_aload_n hx hb dPo_copy_46 rfl (lv_at hl 0 rfl) ?_
        refine lv_aload_n hx hb dPo_copy_47 rfl (lv_at hl 1 rfl) ?_
        refine va_get (D := (dC, dI)) (ci := 3) (v := .int xS_passed) (C := RPo) (T := TPo) (N := 6) hx hb hB inPo hown hK hP 4 rfl rfl 3 (by decide) (hB _ q1_94) (fun _ h9 => h9) rfl dPo_copy_48 ?_
        refine va_put (D := (dC, dI)) (ci := 3) (v := .int xS_passed) (ty := .int) (C := RPo) (T := TPo) (N := 6) hx hb hB inPo tyPo tyPo_ok nmPo hown hK hP hD hS 0 rfl rfl 3 (by decide) (hB _ q1_94) (fun _ h9 => h9) rfl (by decide +kernel) rfl rfl (Nat.le_of_ble_eq_true rfl) dPo_copy_51 (fun H locs hP hD hS => ?_)
        have hP : va_P (dC, dI) vwCl [(o, .inr (3, [.ref o_board, .int xS_side, .int xS_rights, .int xS_passed, .int oS_clock, .int oS_number])), (o_board, .inr (0, [.ref o_board_men, .ref o_board_sets])), (o_board_men, .inl (cI, 64, .inl W_o_board_2.1)), (o_board_sets, .inl (cJ, 16, .inr (.inl W_o_board_2.2))), (x, .inr (3, [.ref x_board, .int xS_side, .int xS_rights, .int xS_passed, .int xS_clock, .int xS_number])), (x_board, .inr (0, [.ref x_board_men, .ref x_board_sets])), (x_board_men, .inl (cI, 64, .inl xS_board.1)), (x_board_sets, .inl (cJ, 16, .inr (.inl xS_board.2)))] H := hP
        have hD : va_D A [(o, .inr (3, [.ref o_board, .int xS_side, .int xS_rights, .int xS_passed, .int oS_clock, .int oS_number])), (o_board, .inr (0, [.ref o_board_men, .ref o_board_sets])), (o_board_men, .inl (cI, 64, .inl W_o_board_2.1)), (o_board_sets, .inl (cJ, 16, .inr (.inl W_o_board_2.2))), (x, .inr (3, [.ref x_board, .int xS_side, .int xS_rights, .int xS_passed, .int xS_clock, .int xS_number])), (x_board, .inr (0, [.ref x_board_men, .ref x_board_sets])), (x_board_men, .inl (cI, 64, .inl xS_board.1)), (x_board_sets, .inl (cJ, 16, .inr (.inl xS_board.2)))] := hD
        refine lv_aload_n hx hb dPo_copy_54 rfl (lv_at hl 0 rfl) ?_
        refine lv_aload_n hx hb dPo_copy_55 rfl (lv_at hl 1 rfl) ?_
        refine va_get (D := (dC, dI)) (ci := 3) (v := .int xS_clock) (C := RPo) (T := TPo) (N := 6) hx hb hB inPo hown hK hP 4 rfl rfl 4 (by decide) (hB _ q1_98) (fun _ h9 => h9) rfl dPo_copy_56 ?_
        refine va_put (D := (dC, dI)) (ci := 3) (v := .int xS_clock) (ty := .int) (C := RPo) (T := TPo) (N := 6) hx hb hB inPo tyPo tyPo_ok nmPo hown hK hP hD hS 0 rfl rfl 4 (by decide) (hB _ q1_98) (fun _ h9 => h9) rfl (by decide +kernel) rfl rfl (Nat.le_of_ble_eq_true rfl) dPo_copy_59 (fun H locs hP hD hS => ?_)
        have hP : va_P (dC, dI) vwCl [(o, .inr (3, [.ref o_board, .int xS_side, .int xS_rights, .int xS_passed, .int xS_clock, .int oS_number])), (o_board, .inr (0, [.ref o_board_men, .ref o_board_sets])), (o_board_men, .inl (cI, 64, .inl W_o_board_2.1)), (o_board_sets, .inl (cJ, 16, .inr (.inl W_o_board_2.2))), (x, .inr (3, [.ref x_board, .int xS_side, .int xS_rights, .int xS_passed, .int xS_clock, .int xS_number])), (x_board, .inr (0, [.ref x_board_men, .ref x_board_sets])), (x_board_men, .inl (cI, 64, .inl xS_board.1)), (x_board_sets, .inl (cJ, 16, .inr (.inl xS_board.2)))] H := hP
        have hD : va_D A [(o, .inr (3, [.ref o_board, .int xS_side, .int xS_rights, .int xS_passed, .int xS_clock, .int oS_number])), (o_board, .inr (0, [.ref o_board_men, .ref o_board_sets])), (o_board_men, .inl (cI, 64, .inl W_o_board_2.1)), (o_board_sets, .inl (cJ, 16, .inr (.inl W_o_board_2.2))), (x, .inr (3, [.ref x_board, .int xS_side, .int xS_rights, .int xS_passed, .int xS_clock, .int xS_number])), (x_board, .inr (0, [.ref x_board_men, .ref x_board_sets])), (x_board_men, .inl (cI, 64, .inl xS_board.1)), (x_board_sets, .inl (cJ, 16, .inr (.inl xS_board.2)))] := hD
        refine lv_aload_n hx hb dPo_copy_62 rfl (lv_at hl 0 rfl) ?_
        refine lv_aload_n hx hb dPo_copy_63 rfl (lv_at hl 1 rfl) ?_
        refine va_get (D := (dC, dI)) (ci := 3) (v := .int xS_number) (C := RPo) (T := TPo) (N := 6) hx hb hB inPo hown hK hP 4 rfl rfl 5 (by decide) (hB _ q1_103) (fun _ h9 => h9) rfl dPo_copy_64 ?_
        refine va_put (D := (dC, dI)) (ci := 3) (v := .int xS_number) (ty := .int) (C := RPo) (T := TPo) (N := 6) hx hb hB inPo tyPo tyPo_ok nmPo hown hK hP hD hS 0 rfl rfl 5 (by decide) (hB _ q1_103) (fun _ h9 => h9) rfl (by decide +kernel) rfl rfl (Nat.le_of_ble_eq_true rfl) dPo_copy_67 (fun H locs hP hD hS => ?_)
        have hP : va_P (dC, dI) vwCl [(o, .inr (3, [.ref o_board, .int xS_side, .int xS_rights, .int xS_passed, .int xS_clock, .int xS_number])), (o_board, .inr (0, [.ref o_board_men, .ref o_board_sets])), (o_board_men, .inl (cI, 64, .inl W_o_board_2.1)), (o_board_sets, .inl (cJ, 16, .inr (.inl W_o_board_2.2))), (x, .inr (3, [.ref x_board, .int xS_side, .int xS_rights, .int xS_passed, .int xS_clock, .int xS_number])), (x_board, .inr (0, [.ref x_board_men, .ref x_board_sets])), (x_board_men, .inl (cI, 64, .inl xS_board.1)), (x_board_sets, .inl (cJ, 16, .inr (.inl xS_board.2)))] H := hP
        have hD : va_D A [(o, .inr (3, [.ref o_board, .int xS_side, .int xS_rights, .int xS_passed, .int xS_clock, .int xS_number])), (o_board, .inr (0, [.ref o_board_men, .ref o_board_sets])), (o_board_men, .inl (cI, 64, .inl W_o_board_2.1)), (o_board_sets, .inl (cJ, 16, .inr (.inl W_o_board_2.2))), (x, .inr (3, [.ref x_board, .int xS_side, .int xS_rights, .int xS_passed, .int xS_clock, .int xS_number])), (x_board, .inr (0, [.ref x_board_men, .ref x_board_sets])), (x_board_men, .inl (cI, 64, .inl xS_board.1)), (x_board_sets, .inl (cJ, 16, .inr (.inl xS_board.2)))] := hD
        have hv : f_Po_copy oS_board oS_side oS_rights oS_passed oS_clock oS_number xS_board xS_side xS_rights xS_passed xS_clock xS_number = (W_o_board_2, xS_side, xS_rights, xS_passed, xS_clock, xS_number) := (he_2.trans (by rw [f_Po_copy_2_eq, if_pos c_1] <;> rfl))
        have hP9 : va_P (dC, dI) vwCl [(o, .inr (3, [.ref o_board, .int ((f_Po_copy oS_board oS_side oS_rights oS_passed oS_clock oS_number xS_board xS_side xS_rights xS_passed xS_clock xS_number).2.1), .int ((f_Po_copy oS_board oS_side oS_rights oS_passed oS_clock oS_number xS_board xS_side xS_rights xS_passed xS_clock xS_number).2.2.1), .int ((f_Po_copy oS_board oS_side oS_rights oS_passed oS_clock oS_number xS_board xS_side xS_rights xS_passed xS_clock xS_number).2.2.2.1), .int ((f_Po_copy oS_board oS_side oS_rights oS_passed oS_clock oS_number xS_board xS_side xS_rights xS_passed xS_clock xS_number).2.2.2.2.1), .int ((f_Po_copy oS_board oS_side oS_rights oS_passed oS_clock oS_number xS_board xS_side xS_rights xS_passed xS_clock xS_number).2.2.2.2.2)])), (o_board, .inr (0, [.ref o_board_men, .ref o_board_sets])), (o_board_men, .inl (cI, 64, .inl (((f_Po_copy oS_board oS_side oS_rights oS_passed oS_clock oS_number xS_board xS_side xS_rights xS_passed xS_clock xS_number).1).1))), (o_board_sets, .inl (cJ, 16, .inr (.inl (((f_Po_copy oS_board oS_side oS_rights oS_passed oS_clock oS_number xS_board xS_side xS_rights xS_passed xS_clock xS_number).1).2)))), (x, .inr (3, [.ref x_board, .int xS_side, .int xS_rights, .int xS_passed, .int xS_clock, .int xS_number])), (x_board, .inr (0, [.ref x_board_men, .ref x_board_sets])), (x_board_men, .inl (cI, 64, .inl xS_board.1)), (x_board_sets, .inl (cJ, 16, .inr (.inl xS_board.2)))] H := by first | (rw [hv]; exact hP.sub [0, 1, 2, 3, 4, 5, 6, 7] rfl) | exact hP.sub [0, 1, 2, 3, 4, 5, 6, 7] rfl
        have hD9 : va_D A [(o, .inr (3, [.ref o_board, .int ((f_Po_copy oS_board oS_side oS_rights oS_passed oS_clock oS_number xS_board xS_side xS_rights xS_passed xS_clock xS_number).2.1), .int ((f_Po_copy oS_board oS_side oS_rights oS_passed oS_clock oS_number xS_board xS_side xS_rights xS_passed xS_clock xS_number).2.2.1), .int ((f_Po_copy oS_board oS_side oS_rights oS_passed oS_clock oS_number xS_board xS_side xS_rights xS_passed xS_clock xS_number).2.2.2.1), .int ((f_Po_copy oS_board oS_side oS_rights oS_passed oS_clock oS_number xS_board xS_side xS_rights xS_passed xS_clock xS_number).2.2.2.2.1), .int ((f_Po_copy oS_board oS_side oS_rights oS_passed oS_clock oS_number xS_board xS_side xS_rights xS_passed xS_clock xS_number).2.2.2.2.2)])), (o_board, .inr (0, [.ref o_board_men, .ref o_board_sets])), (o_board_men, .inl (cI, 64, .inl (((f_Po_copy oS_board oS_side oS_rights oS_passed oS_clock oS_number xS_board xS_side xS_rights xS_passed xS_clock xS_number).1).1))), (o_board_sets, .inl (cJ, 16, .inr (.inl (((f_Po_copy oS_board oS_side oS_rights oS_passed oS_clock oS_number xS_board xS_side xS_rights xS_passed xS_clock xS_number).1).2)))), (x, .inr (3, [.ref x_board, .int xS_side, .int xS_rights, .int xS_passed, .int xS_clock, .int xS_number])), (x_board, .inr (0, [.ref x_board_men, .ref x_board_sets])), (x_board_men, .inl (cI, 64, .inl xS_board.1)), (x_board_sets, .inl (cJ, 16, .inr (.inl xS_board.2)))] := by first | (rw [hv]; exact hD.sub [0, 1, 2, 3, 4, 5, 6, 7] (by decide) rfl) | exact hD.sub [0, 1, 2, 3, 4, 5, 6, 7] (by decide) rfl
        exact rw_retv hx hb hr hlocks hK hP9 hD9 hS dPo_copy_70
      · refine lv_aload_n hx hb dPo_copy_8 rfl (lv_at hl 0 rfl) ?_
        refine va_get (D := (dC, dI)) (ci := 3) (v := .ref o_board) (C := RPo) (T := TPo) (N := 6) hx hb hB inPo hown hK hP 0 rfl rfl 0 (by decide) (hB _ q1_77) (fun _ h9 => h9) rfl dPo_copy_9 ?_
        refine lv_iload_n hx hb dPo_copy_12 rfl (lv_at hl 2 rfl) ?_
        refine lv_aload_n hx hb dPo_copy_13 rfl (lv_at hl 1 rfl) ?_
        refine va_get (D := (dC, dI)) (ci := 3) (v := .ref x_board) (C := RPo) (T := TPo) (N := 6) hx hb hB inPo hown hK hP 4 rfl rfl 0 (by decide) (hB _ q1_77) (fun _ h9 => h9) rfl dPo_copy_14 ?_
        refine lv_iload_n hx hb dPo_copy_17 rfl (lv_at hl 2 rfl) ?_
        refine ro_goi (va_runVN (C := "ChessRules$Board") (As := [.int v2_2]) (rest := [.int v2_2, .ref o_board]) ⟨hx, hb, hml, hown, hB⟩ (c_Bo_manAt l dC dI cI cJ cC ad x_board x_board_men x_board_sets xS_board.1 xS_board.2 v2_2) ⟨va_cnB 1 hB (big_self q2_168) rfl rfl rfl (hG.1 _ q2_206) (hB _ q1_5) (by decide +kernel) ⟨Nat.le_of_ble_eq_true rfl, Nat.le_of_ble_eq_true rfl⟩, (hB _ q2_167), (hB _ qs2_7)⟩ (ro_preV (GS_ok ad) hK hP hG hS [5, 6, 7] rfl (va_recv hK hP (ci := 0) (q0 := 5) rfl rfl)) rfl rfl hl.1 rfl (lv_room (Nat.le_of_ble_eq_true rfl)) dPo_copy_18 ⟨Nat.le_of_ble_eq_true rfl, Nat.le_of_ble_eq_true rfl⟩) ?_
        obtain ⟨R_21, hR_21⟩ : ∃ R9, R9 = f_Bo_put W_o_board_2.1 W_o_board_2.2 v2_2 (f_Bo_manAt xS_board.1 v2_2) := ⟨_, rfl⟩
        have hM_21 := (c_Bo_put l dC dI cI cJ cC ad o_board o_board_men o_board_sets H.size W_o_board_2.1 W_o_board_2.2 v2_2 (f_Bo_manAt xS_board.1 v2_2))
        rw [← hR_21] at hM_21
        refine rw_gov (wr := [(o, .inr (3, [.ref o_board, .int oS_side, .int oS_rights, .int oS_passed, .int oS_clock, .int oS_number])), (x, .inr (3, [.ref x_board, .int xS_side, .int xS_rights, .int xS_passed, .int xS_clock, .int xS_number])), (x_board, .inr (0, [.ref x_board_men, .ref x_board_sets])), (x_board_men, .inl (cI, 64, .inl xS_board.1)), (x_board_sets, .inl (cJ, 16, .inr (.inl xS_board.2)))]) (va_runVN (C := "ChessRules$Board") (As := [.int v2_2, .int (f_Bo_manAt xS_board.1 v2_2)]) (rest := []) ⟨hx, hb, hml, hown, hB⟩ hM_21 ⟨va_cnB 2 hB (big_self q1_228) rfl rfl rfl (hG.1 _ q1_225) (hB _ q1_5) (by decide +kernel) ⟨Nat.le_of_ble_eq_true rfl, Nat.le_of_ble_eq_true rfl⟩, (hB _ q1_227), (hB _ qs1_3)⟩ (rw_preV (GS_ok ad) hK hP hD hA hG hS [1, 2, 3] (by decide) rfl rfl (va_recv hK hP (ci := 0) (q0 := 1) rfl rfl)) rfl rfl hl.1 rfl (lv_room (Nat.le_of_ble_eq_true rfl)) dPo_copy_21 ⟨Nat.le_of_ble_eq_true rfl, Nat.le_of_ble_eq_true rfl⟩) hP hD hS hA [1, 2, 3] [0, 4, 5, 6, 7] rfl rfl (by decide) (by decide) (fun H locs hP hD hS => ?_)
        have hP : va_P (dC, dI) vwCl [(o, .inr (3, [.ref o_board, .int oS_side, .int oS_rights, .int oS_passed, .int oS_clock, .int oS_number])), (x, .inr (3, [.ref x_board, .int xS_side, .int xS_rights, .int xS_passed, .int xS_clock, .int xS_number])), (x_board, .inr (0, [.ref x_board_men, .ref x_board_sets])), (x_board_men, .inl (cI, 64, .inl xS_board.1)), (x_board_sets, .inl (cJ, 16, .inr (.inl xS_board.2))), (o_board, .inr (0, [.ref o_board_men, .ref o_board_sets])), (o_board_men, .inl (cI, 64, .inl R_21.1)), (o_board_sets, .inl (cJ, 16, .inr (.inl R_21.2)))] H := hP
        have hD : va_D A [(o, .inr (3, [.ref o_board, .int oS_side, .int oS_rights, .int oS_passed, .int oS_clock, .int oS_number])), (x, .inr (3, [.ref x_board, .int xS_side, .int xS_rights, .int xS_passed, .int xS_clock, .int xS_number])), (x_board, .inr (0, [.ref x_board_men, .ref x_board_sets])), (x_board_men, .inl (cI, 64, .inl xS_board.1)), (x_board_sets, .inl (cJ, 16, .inr (.inl xS_board.2))), (o_board, .inr (0, [.ref o_board_men, .ref o_board_sets])), (o_board_men, .inl (cI, 64, .inl R_21.1)), (o_board_sets, .inl (cJ, 16, .inr (.inl R_21.2)))] := hD
        have he_r21 : f_Po_copy oS_board oS_side oS_rights oS_passed oS_clock oS_number xS_board xS_side xS_rights xS_passed xS_clock xS_number = f_Po_copy_r21 (f_Po_copy_2 oS_board oS_side oS_rights oS_passed oS_clock oS_number xS_board xS_side xS_rights xS_passed xS_clock xS_number n_2) oS_board oS_side oS_rights oS_passed oS_clock oS_number xS_board xS_side xS_rights xS_passed xS_clock xS_number v2_2 W_o_board_2 R_21 := (he_2.trans (by rw [f_Po_copy_2_eq, if_neg c_1, ← hR_21] <;> rfl))
        refine lv_iinc (v := v2_2 + 1) (lv' := [(2, .int (v2_2 + 1)), (0, .ref o), (1, .ref x)]) hx hb dPo_copy_24 hl (k := 2) rfl rfl (by decide) rfl (fun ls hl => ?_)
        refine lv_goto (tgt := 2) hx hb dPo_copy_27 (by decide) ?_
        exact ih_2 (v2_2 + 1) R_21 (he_r21.trans (by rw [f_Po_copy_r21_eq] <;> rfl)) (by have z1 := tnle c_1; have y64 : (64 : Int32).toInt = 64 := rfl; have zr := i_rng (64 : Int32); have zs := i_succ9 v2_2 (by omega); omega) _ _ (hP.sub [0, 5, 6, 7, 1, 2, 3, 4] rfl) (hD.sub [0, 5, 6, 7, 1, 2, 3, 4] (by decide) rfl) hS ls (lv_sub hl [1, 2, 0] rfl)
  exact J_2 (65) 0 oS_board (by rw [f_Po_copy_eq] <;> rfl) (by decide) _ _ (hP.sub [0, 1, 2, 3, 4, 5, 6, 7] rfl) (hD.sub [0, 1, 2, 3, 4, 5, 6, 7] (by decide) rfl) hS ls (lv_sub hl [1, 2, 0] rfl)

abbrev cPo_isInCheck : ByteArray := prog_5_method_4_code
def yPo_isInCheck : MethodName := ⟨"ChessRules$Position", "isInCheck", "()Z"⟩
def wsPo_isInCheck : List Cond := Cond.code yPo_isInCheck cPo_isInCheck 1 (some .boolean) :: BIG
theorem dPo_isInCheck_0 : decode cPo_isInCheck 0 = .ok (.aload_n 0, 1) := by decide +kernel
theorem dPo_isInCheck_1 : decode cPo_isInCheck 1 = .ok (.getfield 12, 3) := by decide +kernel
theorem dPo_isInCheck_4 : decode cPo_isInCheck 4 = .ok (.aload_n 0, 1) := by decide +kernel
theorem dPo_isInCheck_5 : decode cPo_isInCheck 5 = .ok (.getfield 18, 3) := by decide +kernel
theorem dPo_isInCheck_8 : decode cPo_isInCheck 8 = .ok (.invokevirtual 42, 3) := by decide +kernel
theorem dPo_isInCheck_11 : decode cPo_isInCheck 11 = .ok (.ireturn, 1) := by decide +kernel

def f_Po_isInCheck (oS_board : St_Bo) (oS_side : Int32) : Int32 :=
  f_Bo_isInCheck oS_board.2 oS_side
theorem f_Po_isInCheck_eq (oS_board : St_Bo) (oS_side : Int32) : f_Po_isInCheck oS_board oS_side =
  f_Bo_isInCheck oS_board.2 oS_side := rfl

set_option maxHeartbeats 4000000 in
set_option maxRecDepth 100000 in
theorem c_Po_isInCheck (l : Launch) (dC : Nat → ClassId) (dI : Nat → Nat → Nat) (cI cJ cC : ClassId) (ad : Nat → Nat) (o o_board o_board_men o_board_sets : Nat) (oS_board : St_Bo) (oS_side : Int32) (oS_rights : Int32) (oS_passed : Int32) (oS_clock : Int32) (oS_number : Int32) : Met l yPo_isInCheck wsPo_isInCheck { frames := 3, cells := 0, slots := 0, locals := 85 } (roP dC dI (TYS cI cJ cC) [.ref o] [(o, .inr (3, [.ref o_board, .int oS_side, .int oS_rights, .int oS_passed, .int oS_clock, .int oS_number])), (o_board, .inr (0, [.ref o_board_men, .ref o_board_sets])), (o_board_men, .inl (cI, 64, .inl oS_board.1)), (o_board_sets, .inl (cJ, 16, .inr (.inl oS_board.2)))] (GS ad)) (vp_Si (fun r => r = f_Po_isInCheck oS_board oS_side)) 0 0 (fun _ => False) := by
  refine Met.ofW (cc := cPo_isInCheck) (maxL := 1) (ret := (some .boolean)) (by decide) rfl ?_
  intro p e s m args below meth c s₁ B hml hv
  obtain ⟨rfl, hP, hK, hG⟩ := hv
  have hx := B.exec
  have hb := B.bytes
  have hr := B.returns
  have hB : ∀ w9 ∈ BIG, w9.before ([.ref o]).toArray s = true := fun w9 h => atoms_spec (ws := wsPo_isInCheck) B.pre w9 (List.mem_cons_of_mem _ h)
  have hown : s.vm.findClass "ChessRules$Position" = some m.cls := findClass_of_methodNamed B.named
  have hlocks := B.notSynchronized
  have hS : va_S (fun _ => False) s.heap s.heap [] := va_S.rf
  have hP : va_P (dC, dI) vwCl [(o, .inr (3, [.ref o_board, .int oS_side, .int oS_rights, .int oS_passed, .int oS_clock, .int oS_number])), (o_board, .inr (0, [.ref o_board_men, .ref o_board_sets])), (o_board_men, .inl (cI, 64, .inl oS_board.1)), (o_board_sets, .inl (cJ, 16, .inr (.inl oS_board.2)))] s.heap := hP
  have hl := lv_entry ([.ref o]) (n := 1) (Nat.le_of_ble_eq_true rfl)
  rw [lg_entry_eq]
  generalize (lg_sl ([.ref o]) ++ List.replicate (1 - (lg_sl ([.ref o])).length) Slot.unset).toArray = ls at hl ⊢
  have hl : lv_has ls 1 [(0, .ref o)] := hl
  refine lv_aload_n hx hb dPo_isInCheck_0 rfl (lv_at hl 0 rfl) ?_
  refine va_get (D := (dC, dI)) (ci := 3) (v := .ref o_board) (C := RPo) (T := TPo) (N := 6) hx hb hB inPo hown hK hP 0 rfl rfl 0 (by decide) (hB _ q1_77) (fun _ h9 => h9) rfl dPo_isInCheck_1 ?_
  refine lv_aload_n hx hb dPo_isInCheck_4 rfl (lv_at hl 0 rfl) ?_
  refine va_get (D := (dC, dI)) (ci := 3) (v := .int oS_side) (C := RPo) (T := TPo) (N := 6) hx hb hB inPo hown hK hP 0 rfl rfl 1 (by decide) (hB _ q1_83) (fun _ h9 => h9) rfl dPo_isInCheck_5 ?_
  refine ro_goi (va_runVN (C := "ChessRules$Board") (As := [.int oS_side]) (rest := []) ⟨hx, hb, hml, hown, hB⟩ (c_Bo_isInCheck l dC dI cI cJ cC ad o_board o_board_men o_board_sets oS_board.1 oS_board.2 oS_side) ⟨va_cnB 1 hB (big_self q2_128) rfl rfl rfl (hG.1 _ q3_79) (hB _ q1_5) (by decide +kernel) ⟨Nat.le_of_ble_eq_true rfl, Nat.le_of_ble_eq_true rfl⟩, (hB _ q2_127), (hB _ qs2_3)⟩ (ro_preV (GS_ok ad) hK hP hG hS [1, 2, 3] rfl (va_recv hK hP (ci := 0) (q0 := 1) rfl rfl)) rfl rfl hl.1 rfl (lv_room (Nat.le_of_ble_eq_true rfl)) dPo_isInCheck_8 ⟨Nat.le_of_ble_eq_true rfl, Nat.le_of_ble_eq_true rfl⟩) ?_
  exact ro_retz hx hb hr (nar01 (f_Bo_isInCheck_01 _ _)) hlocks dPo_isInCheck_11 (Eq.symm (by rw [f_Po_isInCheck_eq] <;> rfl))

abbrev cPo_hasRight : ByteArray := prog_5_method_5_code
def yPo_hasRight : MethodName := ⟨"ChessRules$Position", "hasRight", "(II)Z"⟩
def wsPo_hasRight : List Cond := Cond.code yPo_hasRight cPo_hasRight 3 (some .boolean) :: BIG
theorem dPo_hasRight_0 : decode cPo_hasRight 0 = .ok (.aload_n 0, 1) := by decide +kernel
theorem dPo_hasRight_1 : decode cPo_hasRight 1 = .ok (.getfield 22, 3) := by decide +kernel
theorem dPo_hasRight_4 : decode cPo_hasRight 4 = .ok (.iconst 2, 1) := by decide +kernel
theorem dPo_hasRight_5 : decode cPo_hasRight 5 = .ok (.iload_n 1, 1) := by decide +kernel
theorem dPo_hasRight_6 : decode cPo_hasRight 6 = .ok (.imul, 1) := by decide +kernel
theorem dPo_hasRight_7 : decode cPo_hasRight 7 = .ok (.iload_n 2, 1) := by decide +kernel
theorem dPo_hasRight_8 : decode cPo_hasRight 8 = .ok (.iadd, 1) := by decide +kernel
theorem dPo_hasRight_9 : decode cPo_hasRight 9 = .ok (.ishr, 1) := by decide +kernel
theorem dPo_hasRight_10 : decode cPo_hasRight 10 = .ok (.iconst 1, 1) := by decide +kernel
theorem dPo_hasRight_11 : decode cPo_hasRight 11 = .ok (.iand, 1) := by decide +kernel
theorem dPo_hasRight_12 : decode cPo_hasRight 12 = .ok (.ifCond .eq 7, 3) := by decide +kernel
theorem dPo_hasRight_15 : decode cPo_hasRight 15 = .ok (.iconst 1, 1) := by decide +kernel
theorem dPo_hasRight_16 : decode cPo_hasRight 16 = .ok (.goto 4, 3) := by decide +kernel
theorem dPo_hasRight_19 : decode cPo_hasRight 19 = .ok (.iconst 0, 1) := by decide +kernel
theorem dPo_hasRight_20 : decode cPo_hasRight 20 = .ok (.ireturn, 1) := by decide +kernel

def f_Po_hasRight (oS_rights : Int32) (ofSide : Int32) (wing : Int32) : Int32 :=
  (if ((oS_rights >>> (((2 * ofSide) + wing) &&& 31)) &&& 1) = 0 then 0 else 1)
theorem f_Po_hasRight_eq (oS_rights : Int32) (ofSide : Int32) (wing : Int32) : f_Po_hasRight oS_rights ofSide wing =
  (if ((oS_rights >>> (((2 * ofSide) + wing) &&& 31)) &&& 1) = 0 then 0 else 1) := rfl

set_option maxHeartbeats 4000000 in
set_option maxRecDepth 100000 in
theorem c_Po_hasRight (l : Launch) (dC : Nat → ClassId) (dI : Nat → Nat → Nat) (cI cJ cC : ClassId) (ad : Nat → Nat) (o o_board o_board_men o_board_sets : Nat) (oS_board : St_Bo) (oS_side : Int32) (oS_rights : Int32) (oS_passed : Int32) (oS_clock : Int32) (oS_number : Int32) (ofSide : Int32) (wing : Int32) : Met l yPo_hasRight wsPo_hasRight { frames := 0, cells := 0, slots := 0, locals := 0 } (roP dC dI (TYS cI cJ cC) [.ref o, .int ofSide, .int wing] [(o, .inr (3, [.ref o_board, .int oS_side, .int oS_rights, .int oS_passed, .int oS_clock, .int oS_number])), (o_board, .inr (0, [.ref o_board_men, .ref o_board_sets])), (o_board_men, .inl (cI, 64, .inl oS_board.1)), (o_board_sets, .inl (cJ, 16, .inr (.inl oS_board.2)))] (GS ad)) (vp_Si (fun r => r = f_Po_hasRight oS_rights ofSide wing)) 0 0 (fun _ => False) := by
  refine Met.ofW (cc := cPo_hasRight) (maxL := 3) (ret := (some .boolean)) (by decide) rfl ?_
  intro p e s m args below meth c s₁ B hml hv
  obtain ⟨rfl, hP, hK, hG⟩ := hv
  have hx := B.exec
  have hb := B.bytes
  have hr := B.returns
  have hB : ∀ w9 ∈ BIG, w9.before ([.ref o, .int ofSide, .int wing]).toArray s = true := fun w9 h => atoms_spec (ws := wsPo_hasRight) B.pre w9 (List.mem_cons_of_mem _ h)
  have hown : s.vm.findClass "ChessRules$Position" = some m.cls := findClass_of_methodNamed B.named
  have hlocks := B.notSynchronized
  have hS : va_S (fun _ => False) s.heap s.heap [] := va_S.rf
  have hP : va_P (dC, dI) vwCl [(o, .inr (3, [.ref o_board, .int oS_side, .int oS_rights, .int oS_passed, .int oS_clock, .int oS_number])), (o_board, .inr (0, [.ref o_board_men, .ref o_board_sets])), (o_board_men, .inl (cI, 64, .inl oS_board.1)), (o_board_sets, .inl (cJ, 16, .inr (.inl oS_board.2)))] s.heap := hP
  have hl := lv_entry ([.ref o, .int ofSide, .int wing]) (n := 3) (Nat.le_of_ble_eq_true rfl)
  rw [lg_entry_eq]
  generalize (lg_sl ([.ref o, .int ofSide, .int wing]) ++ List.replicate (3 - (lg_sl ([.ref o, .int ofSide, .int wing])).length) Slot.unset).toArray = ls at hl ⊢
  have hl : lv_has ls 3 [(0, .ref o), (1, .int ofSide), (2, .int wing)] := hl
  refine lv_aload_n hx hb dPo_hasRight_0 rfl (lv_at hl 0 rfl) ?_
  refine va_get (D := (dC, dI)) (ci := 3) (v := .int oS_rights) (C := RPo) (T := TPo) (N := 6) hx hb hB inPo hown hK hP 0 rfl rfl 2 (by decide) (hB _ q1_89) (fun _ h9 => h9) rfl dPo_hasRight_1 ?_
  refine lv_iconst (v := 2) hx hb dPo_hasRight_4 (by decide) ?_
  refine lv_iload_n hx hb dPo_hasRight_5 rfl (lv_at hl 1 rfl) ?_
  refine lv_imul hx hb dPo_hasRight_6 ?_
  refine lv_iload_n hx hb dPo_hasRight_7 rfl (lv_at hl 2 rfl) ?_
  refine lv_iadd hx hb dPo_hasRight_8 ?_
  refine lv_ishr hx hb dPo_hasRight_9 ?_
  refine lv_iconst (v := 1) hx hb dPo_hasRight_10 (by decide) ?_
  refine lv_iand hx hb dPo_hasRight_11 ?_
  refine lv_if_eq (tgt := 19) hx hb dPo_hasRight_12 (by decide) (fun c_1 => ?_) (fun c_1 => ?_)
  · refine lv_iconst (v := 0) hx hb dPo_hasRight_19 (by decide) ?_
    exact ro_retz hx hb hr rfl hlocks dPo_hasRight_20 (Eq.symm (by rw [f_Po_hasRight_eq, if_pos c_1] <;> rfl))
  · refine lv_iconst (v := 1) hx hb dPo_hasRight_15 (by decide) ?_
    refine lv_goto (tgt := 20) hx hb dPo_hasRight_16 (by decide) ?_
    exact ro_retz hx hb hr rfl hlocks dPo_hasRight_20 (Eq.symm (by rw [f_Po_hasRight_eq, if_neg c_1] <;> rfl))

abbrev cPo_kingHome : ByteArray := prog_5_method_6_code
def yPo_kingHome : MethodName := ⟨"ChessRules$Position", "kingHome", "(I)I"⟩
def wsPo_kingHome : List Cond := Cond.code yPo_kingHome cPo_kingHome 1 (some .int) :: BIG
theorem dPo_kingHome_0 : decode cPo_kingHome 0 = .ok (.iconst 4, 1) := by decide +kernel
theorem dPo_kingHome_1 : decode cPo_kingHome 1 = .ok (.bipush 56, 2) := by decide +kernel
theorem dPo_kingHome_3 : decode cPo_kingHome 3 = .ok (.iload_n 0, 1) := by decide +kernel
theorem dPo_kingHome_4 : decode cPo_kingHome 4 = .ok (.imul, 1) := by decide +kernel
theorem dPo_kingHome_5 : decode cPo_kingHome 5 = .ok (.iadd, 1) := by decide +kernel
theorem dPo_kingHome_6 : decode cPo_kingHome 6 = .ok (.ireturn, 1) := by decide +kernel

def f_Po_kingHome (ofSide : Int32) : Int32 :=
  4 + (56 * ofSide)
theorem f_Po_kingHome_eq (ofSide : Int32) : f_Po_kingHome ofSide =
  4 + (56 * ofSide) := rfl

set_option maxHeartbeats 4000000 in
set_option maxRecDepth 100000 in
theorem c_Po_kingHome (l : Launch) (dC : Nat → ClassId) (dI : Nat → Nat → Nat) (cI cJ cC : ClassId) (ad : Nat → Nat) (ofSide : Int32) : Met l yPo_kingHome wsPo_kingHome { frames := 0, cells := 0, slots := 0, locals := 0 } (roP dC dI (TYS cI cJ cC) [.int ofSide] [] (GS ad)) (vp_Si (fun r => r = f_Po_kingHome ofSide)) 0 0 (fun _ => False) := by
  refine Met.ofW (cc := cPo_kingHome) (maxL := 1) (ret := (some .int)) (by decide) rfl ?_
  intro p e s m args below meth c s₁ B hml hv
  obtain ⟨rfl, hP, hK, hG⟩ := hv
  have hx := B.exec
  have hb := B.bytes
  have hr := B.returns
  have hB : ∀ w9 ∈ BIG, w9.before ([.int ofSide]).toArray s = true := fun w9 h => atoms_spec (ws := wsPo_kingHome) B.pre w9 (List.mem_cons_of_mem _ h)
  have hown : s.vm.findClass "ChessRules$Position" = some m.cls := findClass_of_methodNamed B.named
  have hlocks := B.notSynchronized
  have hS : va_S (fun _ => False) s.heap s.heap [] := va_S.rf
  have hP : va_P (dC, dI) vwCl [] s.heap := hP
  have hl := lv_entry ([.int ofSide]) (n := 1) (Nat.le_of_ble_eq_true rfl)
  rw [lg_entry_eq]
  generalize (lg_sl ([.int ofSide]) ++ List.replicate (1 - (lg_sl ([.int ofSide])).length) Slot.unset).toArray = ls at hl ⊢
  have hl : lv_has ls 1 [(0, .int ofSide)] := hl
  refine lv_iconst (v := 4) hx hb dPo_kingHome_0 (by decide) ?_
  refine lv_bipush (v := 56) hx hb dPo_kingHome_1 (by decide) ?_
  refine lv_iload_n hx hb dPo_kingHome_3 rfl (lv_at hl 0 rfl) ?_
  refine lv_imul hx hb dPo_kingHome_4 ?_
  refine lv_iadd hx hb dPo_kingHome_5 ?_
  exact ro_reti hx hb hr hlocks dPo_kingHome_6 (Eq.symm (by rw [f_Po_kingHome_eq] <;> rfl))

abbrev cPo_rookHome : ByteArray := prog_5_method_7_code
def yPo_rookHome : MethodName := ⟨"ChessRules$Position", "rookHome", "(II)I"⟩
def wsPo_rookHome : List Cond := Cond.code yPo_rookHome cPo_rookHome 2 (some .int) :: BIG
theorem dPo_rookHome_0 : decode cPo_rookHome 0 = .ok (.iload_n 1, 1) := by decide +kernel
theorem dPo_rookHome_1 : decode cPo_rookHome 1 = .ok (.ifCond .ne 8, 3) := by decide +kernel
theorem dPo_rookHome_4 : decode cPo_rookHome 4 = .ok (.bipush 7, 2) := by decide +kernel
theorem dPo_rookHome_6 : decode cPo_rookHome 6 = .ok (.goto 4, 3) := by decide +kernel
theorem dPo_rookHome_9 : decode cPo_rookHome 9 = .ok (.iconst 0, 1) := by decide +kernel
theorem dPo_rookHome_10 : decode cPo_rookHome 10 = .ok (.bipush 56, 2) := by decide +kernel
theorem dPo_rookHome_12 : decode cPo_rookHome 12 = .ok (.iload_n 0, 1) := by decide +kernel
theorem dPo_rookHome_13 : decode cPo_rookHome 13 = .ok (.imul, 1) := by decide +kernel
theorem dPo_rookHome_14 : decode cPo_rookHome 14 = .ok (.iadd, 1) := by decide +kernel
theorem dPo_rookHome_15 : decode cPo_rookHome 15 = .ok (.ireturn, 1) := by decide +kernel

def f_Po_rookHome (ofSide : Int32) (wing : Int32) : Int32 :=
  (if wing = 0 then 7 + (56 * ofSide) else 0 + (56 * ofSide))
theorem f_Po_rookHome_eq (ofSide : Int32) (wing : Int32) : f_Po_rookHome ofSide wing =
  (if wing = 0 then 7 + (56 * ofSide) else 0 + (56 * ofSide)) := rfl

set_option maxHeartbeats 4000000 in
set_option maxRecDepth 100000 in
theorem c_Po_rookHome (l : Launch) (dC : Nat → ClassId) (dI : Nat → Nat → Nat) (cI cJ cC : ClassId) (ad : Nat → Nat) (ofSide : Int32) (wing : Int32) : Met l yPo_rookHome wsPo_rookHome { frames := 0, cells := 0, slots := 0, locals := 0 } (roP dC dI (TYS cI cJ cC) [.int ofSide, .int wing] [] (GS ad)) (vp_Si (fun r => r = f_Po_rookHome ofSide wing)) 0 0 (fun _ => False) := by
  refine Met.ofW (cc := cPo_rookHome) (maxL := 2) (ret := (some .int)) (by decide) rfl ?_
  intro p e s m args below meth c s₁ B hml hv
  obtain ⟨rfl, hP, hK, hG⟩ := hv
  have hx := B.exec
  have hb := B.bytes
  have hr := B.returns
  have hB : ∀ w9 ∈ BIG, w9.before ([.int ofSide, .int wing]).toArray s = true := fun w9 h => atoms_spec (ws := wsPo_rookHome) B.pre w9 (List.mem_cons_of_mem _ h)
  have hown : s.vm.findClass "ChessRules$Position" = some m.cls := findClass_of_methodNamed B.named
  have hlocks := B.notSynchronized
  have hS : va_S (fun _ => False) s.heap s.heap [] := va_S.rf
  have hP : va_P (dC, dI) vwCl [] s.heap := hP
  have hl := lv_entry ([.int ofSide, .int wing]) (n := 2) (Nat.le_of_ble_eq_true rfl)
  rw [lg_entry_eq]
  generalize (lg_sl ([.int ofSide, .int wing]) ++ List.replicate (2 - (lg_sl ([.int ofSide, .int wing])).length) Slot.unset).toArray = ls at hl ⊢
  have hl : lv_has ls 2 [(0, .int ofSide), (1, .int wing)] := hl
  refine lv_iload_n hx hb dPo_rookHome_0 rfl (lv_at hl 1 rfl) ?_
  refine lv_if_ne (tgt := 9) hx hb dPo_rookHome_1 (by decide) (fun c_1 => ?_) (fun c_1 => ?_)
  · refine lv_iconst (v := 0) hx hb dPo_rookHome_9 (by decide) ?_
    refine lv_bipush (v := 56) hx hb dPo_rookHome_10 (by decide) ?_
    refine lv_iload_n hx hb dPo_rookHome_12 rfl (lv_at hl 0 rfl) ?_
    refine lv_imul hx hb dPo_rookHome_13 ?_
    refine lv_iadd hx hb dPo_rookHome_14 ?_
    exact ro_reti hx hb hr hlocks dPo_rookHome_15 (Eq.symm (by rw [f_Po_rookHome_eq, if_neg c_1] <;> rfl))
  · refine lv_bipush (v := 7) hx hb dPo_rookHome_4 (by decide) ?_
    refine lv_goto (tgt := 10) hx hb dPo_rookHome_6 (by decide) ?_
    refine lv_bipush (v := 56) hx hb dPo_rookHome_10 (by decide) ?_
    refine lv_iload_n hx hb dPo_rookHome_12 rfl (lv_at hl 0 rfl) ?_
    refine lv_imul hx hb dPo_rookHome_13 ?_
    refine lv_iadd hx hb dPo_rookHome_14 ?_
    exact ro_reti hx hb hr hlocks dPo_rookHome_15 (Eq.symm (by rw [f_Po_rookHome_eq, if_pos c_1] <;> rfl))

abbrev cPo_passedSet : ByteArray := prog_5_method_8_code
def yPo_passedSet : MethodName := ⟨"ChessRules$Position", "passedSet", "()J"⟩
def wsPo_passedSet : List Cond := Cond.code yPo_passedSet cPo_passedSet 1 (some .long) :: BIG
theorem dPo_passedSet_0 : decode cPo_passedSet 0 = .ok (.aload_n 0, 1) := by decide +kernel
theorem dPo_passedSet_1 : decode cPo_passedSet 1 = .ok (.getfield 25, 3) := by decide +kernel
theorem dPo_passedSet_4 : decode cPo_passedSet 4 = .ok (.iconst (-1), 1) := by decide +kernel
theorem dPo_passedSet_5 : decode cPo_passedSet 5 = .ok (.if_icmp .ne 7, 3) := by decide +kernel
theorem dPo_passedSet_8 : decode cPo_passedSet 8 = .ok (.lconst 0, 1) := by decide +kernel
theorem dPo_passedSet_9 : decode cPo_passedSet 9 = .ok (.goto 9, 3) := by decide +kernel
theorem dPo_passedSet_12 : decode cPo_passedSet 12 = .ok (.lconst 1, 1) := by decide +kernel
theorem dPo_passedSet_13 : decode cPo_passedSet 13 = .ok (.aload_n 0, 1) := by decide +kernel
theorem dPo_passedSet_14 : decode cPo_passedSet 14 = .ok (.getfield 25, 3) := by decide +kernel
theorem dPo_passedSet_17 : decode cPo_passedSet 17 = .ok (.lshl, 1) := by decide +kernel
theorem dPo_passedSet_18 : decode cPo_passedSet 18 = .ok (.lreturn, 1) := by decide +kernel

def f_Po_passedSet (oS_passed : Int32) : Int64 :=
  (if oS_passed = (-1) then 0 else shl64 1 oS_passed)
theorem f_Po_passedSet_eq (oS_passed : Int32) : f_Po_passedSet oS_passed =
  (if oS_passed = (-1) then 0 else shl64 1 oS_passed) := rfl

set_option maxHeartbeats 4000000 in
set_option maxRecDepth 100000 in
theorem c_Po_passedSet (l : Launch) (dC : Nat → ClassId) (dI : Nat → Nat → Nat) (cI cJ cC : ClassId) (ad : Nat → Nat) (o o_board o_board_men o_board_sets : Nat) (oS_board : St_Bo) (oS_side : Int32) (oS_rights : Int32) (oS_passed : Int32) (oS_clock : Int32) (oS_number : Int32) : Met l yPo_passedSet wsPo_passedSet { frames := 0, cells := 0, slots := 0, locals := 0 } (roP dC dI (TYS cI cJ cC) [.ref o] [(o, .inr (3, [.ref o_board, .int oS_side, .int oS_rights, .int oS_passed, .int oS_clock, .int oS_number])), (o_board, .inr (0, [.ref o_board_men, .ref o_board_sets])), (o_board_men, .inl (cI, 64, .inl oS_board.1)), (o_board_sets, .inl (cJ, 16, .inr (.inl oS_board.2)))] (GS ad)) (vp_Sl (fun r => r = f_Po_passedSet oS_passed)) 0 0 (fun _ => False) := by
  refine Met.ofW (cc := cPo_passedSet) (maxL := 1) (ret := (some .long)) (by decide) rfl ?_
  intro p e s m args below meth c s₁ B hml hv
  obtain ⟨rfl, hP, hK, hG⟩ := hv
  have hx := B.exec
  have hb := B.bytes
  have hr := B.returns
  have hB : ∀ w9 ∈ BIG, w9.before ([.ref o]).toArray s = true := fun w9 h => atoms_spec (ws := wsPo_passedSet) B.pre w9 (List.mem_cons_of_mem _ h)
  have hown : s.vm.findClass "ChessRules$Position" = some m.cls := findClass_of_methodNamed B.named
  have hlocks := B.notSynchronized
  have hS : va_S (fun _ => False) s.heap s.heap [] := va_S.rf
  have hP : va_P (dC, dI) vwCl [(o, .inr (3, [.ref o_board, .int oS_side, .int oS_rights, .int oS_passed, .int oS_clock, .int oS_number])), (o_board, .inr (0, [.ref o_board_men, .ref o_board_sets])), (o_board_men, .inl (cI, 64, .inl oS_board.1)), (o_board_sets, .inl (cJ, 16, .inr (.inl oS_board.2)))] s.heap := hP
  have hl := lv_entry ([.ref o]) (n := 1) (Nat.le_of_ble_eq_true rfl)
  rw [lg_entry_eq]
  generalize (lg_sl ([.ref o]) ++ List.replicate (1 - (lg_sl ([.ref o])).length) Slot.unset).toArray = ls at hl ⊢
  have hl : lv_has ls 1 [(0, .ref o)] := hl
  refine lv_aload_n hx hb dPo_passedSet_0 rfl (lv_at hl 0 rfl) ?_
  refine va_get (D := (dC, dI)) (ci := 3) (v := .int oS_passed) (C := RPo) (T := TPo) (N := 6) hx hb hB inPo hown hK hP 0 rfl rfl 3 (by decide) (hB _ q1_94) (fun _ h9 => h9) rfl dPo_passedSet_1 ?_
  refine lv_iconst (v := (-1)) hx hb dPo_passedSet_4 (by decide) ?_
  refine lv_icmp_ne (tgt := 12) hx hb dPo_passedSet_5 (by decide) (fun c_1 => ?_) (fun c_1 => ?_)
  · refine lv_lconst (v := 1) hx hb dPo_passedSet_12 (by decide) ?_
    refine lv_aload_n hx hb dPo_passedSet_13 rfl (lv_at hl 0 rfl) ?_
    refine va_get (D := (dC, dI)) (ci := 3) (v := .int oS_passed) (C := RPo) (T := TPo) (N := 6) hx hb hB inPo hown hK hP 0 rfl rfl 3 (by decide) (hB _ q1_94) (fun _ h9 => h9) rfl dPo_passedSet_14 ?_
    refine lv_lshl (v := shl64 1 oS_passed) hx hb dPo_passedSet_17 rfl ?_
    exact ro_retl hx hb hr hlocks dPo_passedSet_18 (Eq.symm (by rw [f_Po_passedSet_eq, if_neg c_1] <;> rfl))
  · refine lv_lconst (v := 0) hx hb dPo_passedSet_8 (by decide) ?_
    refine lv_goto (tgt := 18) hx hb dPo_passedSet_9 (by decide) ?_
    exact ro_retl hx hb hr hlocks dPo_passedSet_18 (Eq.symm (by rw [f_Po_passedSet_eq, if_pos c_1] <;> rfl))

abbrev cPo_pawnsThatAttackPassed : ByteArray := prog_5_method_9_code
def yPo_pawnsThatAttackPassed : MethodName := ⟨"ChessRules$Position", "pawnsThatAttackPassed", "()J"⟩
def wsPo_pawnsThatAttackPassed : List Cond := Cond.code yPo_pawnsThatAttackPassed cPo_pawnsThatAttackPassed 1 (some .long) :: BIG
theorem dPo_pawnsThatAttackPassed_0 : decode cPo_pawnsThatAttackPassed 0 = .ok (.aload_n 0, 1) := by decide +kernel
theorem dPo_pawnsThatAttackPassed_1 : decode cPo_pawnsThatAttackPassed 1 = .ok (.invokevirtual 46, 3) := by decide +kernel
theorem dPo_pawnsThatAttackPassed_4 : decode cPo_pawnsThatAttackPassed 4 = .ok (.iconst 1, 1) := by decide +kernel
theorem dPo_pawnsThatAttackPassed_5 : decode cPo_pawnsThatAttackPassed 5 = .ok (.aload_n 0, 1) := by decide +kernel
theorem dPo_pawnsThatAttackPassed_6 : decode cPo_pawnsThatAttackPassed 6 = .ok (.getfield 18, 3) := by decide +kernel
theorem dPo_pawnsThatAttackPassed_9 : decode cPo_pawnsThatAttackPassed 9 = .ok (.isub, 1) := by decide +kernel
theorem dPo_pawnsThatAttackPassed_10 : decode cPo_pawnsThatAttackPassed 10 = .ok (.invokestatic 50, 3) := by decide +kernel
theorem dPo_pawnsThatAttackPassed_13 : decode cPo_pawnsThatAttackPassed 13 = .ok (.aload_n 0, 1) := by decide +kernel
theorem dPo_pawnsThatAttackPassed_14 : decode cPo_pawnsThatAttackPassed 14 = .ok (.getfield 12, 3) := by decide +kernel
theorem dPo_pawnsThatAttackPassed_17 : decode cPo_pawnsThatAttackPassed 17 = .ok (.iconst 1, 1) := by decide +kernel
theorem dPo_pawnsThatAttackPassed_18 : decode cPo_pawnsThatAttackPassed 18 = .ok (.aload_n 0, 1) := by decide +kernel
theorem dPo_pawnsThatAttackPassed_19 : decode cPo_pawnsThatAttackPassed 19 = .ok (.getfield 18, 3) := by decide +kernel
theorem dPo_pawnsThatAttackPassed_22 : decode cPo_pawnsThatAttackPassed 22 = .ok (.invokevirtual 56, 3) := by decide +kernel
theorem dPo_pawnsThatAttackPassed_25 : decode cPo_pawnsThatAttackPassed 25 = .ok (.land, 1) := by decide +kernel
theorem dPo_pawnsThatAttackPassed_26 : decode cPo_pawnsThatAttackPassed 26 = .ok (.lreturn, 1) := by decide +kernel

def f_Po_pawnsThatAttackPassed (oS_board : St_Bo) (oS_side : Int32) (oS_passed : Int32) : Int64 :=
  (f_Ra_byPawn (f_Po_passedSet oS_passed) (1 - oS_side)) &&& (f_Bo_setOf oS_board.2 1 oS_side)
theorem f_Po_pawnsThatAttackPassed_eq (oS_board : St_Bo) (oS_side : Int32) (oS_passed : Int32) : f_Po_pawnsThatAttackPassed oS_board oS_side oS_passed =
  (f_Ra_byPawn (f_Po_passedSet oS_passed) (1 - oS_side)) &&& (f_Bo_setOf oS_board.2 1 oS_side) := rfl

set_option maxHeartbeats 4000000 in
set_option maxRecDepth 100000 in
theorem c_Po_pawnsThatAttackPassed (l : Launch) (dC : Nat → ClassId) (dI : Nat → Nat → Nat) (cI cJ cC : ClassId) (ad : Nat → Nat) (o o_board o_board_men o_board_sets : Nat) (oS_board : St_Bo) (oS_side : Int32) (oS_rights : Int32) (oS_passed : Int32) (oS_clock : Int32) (oS_number : Int32) : Met l yPo_pawnsThatAttackPassed wsPo_pawnsThatAttackPassed { frames := 1, cells := 0, slots := 0, locals := 24 } (roP dC dI (TYS cI cJ cC) [.ref o] [(o, .inr (3, [.ref o_board, .int oS_side, .int oS_rights, .int oS_passed, .int oS_clock, .int oS_number])), (o_board, .inr (0, [.ref o_board_men, .ref o_board_sets])), (o_board_men, .inl (cI, 64, .inl oS_board.1)), (o_board_sets, .inl (cJ, 16, .inr (.inl oS_board.2)))] (GS ad)) (vp_Sl (fun r => r = f_Po_pawnsThatAttackPassed oS_board oS_side oS_passed)) 0 0 (fun _ => False) := by
  refine Met.ofW (cc := cPo_pawnsThatAttackPassed) (maxL := 1) (ret := (some .long)) (by decide) rfl ?_
  intro p e s m args below meth c s₁ B hml hv
  obtain ⟨rfl, hP, hK, hG⟩ := hv
  have hx := B.exec
  have hb := B.bytes
  have hr := B.returns
  have hB : ∀ w9 ∈ BIG, w9.before ([.ref o]).toArray s = true := fun w9 h => atoms_spec (ws := wsPo_pawnsThatAttackPassed) B.pre w9 (List.mem_cons_of_mem _ h)
  have hown : s.vm.findClass "ChessRules$Position" = some m.cls := findClass_of_methodNamed B.named
  have hlocks := B.notSynchronized
  have hS : va_S (fun _ => False) s.heap s.heap [] := va_S.rf
  have hP : va_P (dC, dI) vwCl [(o, .inr (3, [.ref o_board, .int oS_side, .int oS_rights, .int oS_passed, .int oS_clock, .int oS_number])), (o_board, .inr (0, [.ref o_board_men, .ref o_board_sets])), (o_board_men, .inl (cI, 64, .inl oS_board.1)), (o_board_sets, .inl (cJ, 16, .inr (.inl oS_board.2)))] s.heap := hP
  have hl := lv_entry ([.ref o]) (n := 1) (Nat.le_of_ble_eq_true rfl)
  rw [lg_entry_eq]
  generalize (lg_sl ([.ref o]) ++ List.replicate (1 - (lg_sl ([.ref o])).length) Slot.unset).toArray = ls at hl ⊢
  have hl : lv_has ls 1 [(0, .ref o)] := hl
  refine lv_aload_n hx hb dPo_pawnsThatAttackPassed_0 rfl (lv_at hl 0 rfl) ?_
  refine ro_gol (va_runV (C := "ChessRules$Position") (As := []) (rest := []) ⟨hx, hb, hml, hown, hB⟩ (c_Po_passedSet l dC dI cI cJ cC ad o o_board o_board_men o_board_sets oS_board oS_side oS_rights oS_passed oS_clock oS_number) ⟨callB_of 0 hB (big_self q2_195) rfl rfl rfl (hB _ q1_4) (hB _ q2_192) (by decide +kernel) ⟨Nat.le_of_ble_eq_true rfl, Nat.le_of_ble_eq_true rfl⟩, (hB _ q2_194), (hB _ qs2_12)⟩ (ro_preV (GS_ok ad) hK hP hG hS [0, 1, 2, 3] rfl (va_recv hK hP (ci := 3) (q0 := 0) rfl rfl)) rfl rfl hl.1 rfl (lv_room (Nat.le_of_ble_eq_true rfl)) dPo_pawnsThatAttackPassed_1 ⟨Nat.le_of_ble_eq_true rfl, Nat.le_of_ble_eq_true rfl⟩) ?_
  refine lv_iconst (v := 1) hx hb dPo_pawnsThatAttackPassed_4 (by decide) ?_
  refine lv_aload_n hx hb dPo_pawnsThatAttackPassed_5 rfl (lv_at hl 0 rfl) ?_
  refine va_get (D := (dC, dI)) (ci := 3) (v := .int oS_side) (C := RPo) (T := TPo) (N := 6) hx hb hB inPo hown hK hP 0 rfl rfl 1 (by decide) (hB _ q1_83) (fun _ h9 => h9) rfl dPo_pawnsThatAttackPassed_6 ?_
  refine lv_isub hx hb dPo_pawnsThatAttackPassed_9 ?_
  refine ro_gol (va_runSN (As := [.long (f_Po_passedSet oS_passed), .int (1 - oS_side)]) (rest := []) ⟨hx, hb, hml, hown, hB⟩ (c_Ra_byPawn l dC dI cI cJ cC ad (f_Po_passedSet oS_passed) (1 - oS_side)) ⟨va_cnB 2 hB (big_self q2_139) rfl rfl rfl (hG.1 _ q2_196) (hB _ q1_14) (by decide +kernel) ⟨Nat.le_of_ble_eq_true rfl, Nat.le_of_ble_eq_true rfl⟩, (hB _ q2_138), trivial⟩ (ro_preS (GS_ok ad) hK hP hG hS [] rfl) rfl rfl hl.1 rfl (lv_room (Nat.le_of_ble_eq_true rfl)) dPo_pawnsThatAttackPassed_10 ⟨Nat.le_of_ble_eq_true rfl, Nat.le_of_ble_eq_true rfl⟩) ?_
  refine lv_aload_n hx hb dPo_pawnsThatAttackPassed_13 rfl (lv_at hl 0 rfl) ?_
  refine va_get (D := (dC, dI)) (ci := 3) (v := .ref o_board) (C := RPo) (T := TPo) (N := 6) hx hb hB inPo hown hK hP 0 rfl rfl 0 (by decide) (hB _ q1_77) (fun _ h9 => h9) rfl dPo_pawnsThatAttackPassed_14 ?_
  refine lv_iconst (v := 1) hx hb dPo_pawnsThatAttackPassed_17 (by decide) ?_
  refine lv_aload_n hx hb dPo_pawnsThatAttackPassed_18 rfl (lv_at hl 0 rfl) ?_
  refine va_get (D := (dC, dI)) (ci := 3) (v := .int oS_side) (C := RPo) (T := TPo) (N := 6) hx hb hB inPo hown hK hP 0 rfl rfl 1 (by decide) (hB _ q1_83) (fun _ h9 => h9) rfl dPo_pawnsThatAttackPassed_19 ?_
  refine ro_gol (va_runVN (C := "ChessRules$Board") (As := [.int 1, .int oS_side]) (rest := [.long (f_Ra_byPawn (f_Po_passedSet oS_passed) (1 - oS_side))]) ⟨hx, hb, hml, hown, hB⟩ (c_Bo_setOf l dC dI cI cJ cC ad o_board o_board_men o_board_sets oS_board.1 oS_board.2 1 oS_side) ⟨va_cnB 2 hB (big_self q2_112) rfl rfl rfl (hG.1 _ q2_197) (hB _ q1_5) (by decide +kernel) ⟨Nat.le_of_ble_eq_true rfl, Nat.le_of_ble_eq_true rfl⟩, (hB _ q2_111), (hB _ qs2_1)⟩ (ro_preV (GS_ok ad) hK hP hG hS [1, 2, 3] rfl (va_recv hK hP (ci := 0) (q0 := 1) rfl rfl)) rfl rfl hl.1 rfl (lv_room (Nat.le_of_ble_eq_true rfl)) dPo_pawnsThatAttackPassed_22 ⟨Nat.le_of_ble_eq_true rfl, Nat.le_of_ble_eq_true rfl⟩) ?_
  refine lv_land hx hb dPo_pawnsThatAttackPassed_25 ?_
  exact ro_retl hx hb hr hlocks dPo_pawnsThatAttackPassed_26 (Eq.symm (by rw [f_Po_pawnsThatAttackPassed_eq] <;> rfl))

abbrev cPo_squareOfTaken : ByteArray := prog_5_method_18_code
def yPo_squareOfTaken : MethodName := ⟨"ChessRules$Position", "squareOfTaken", "(II)I"⟩
def wsPo_squareOfTaken : List Cond := Cond.code yPo_squareOfTaken cPo_squareOfTaken 4 (some .int) :: BIG
theorem dPo_squareOfTaken_0 : decode cPo_squareOfTaken 0 = .ok (.iload_n 1, 1) := by decide +kernel
theorem dPo_squareOfTaken_1 : decode cPo_squareOfTaken 1 = .ok (.bipush 7, 2) := by decide +kernel
theorem dPo_squareOfTaken_3 : decode cPo_squareOfTaken 3 = .ok (.iand, 1) := by decide +kernel
theorem dPo_squareOfTaken_4 : decode cPo_squareOfTaken 4 = .ok (.iconst 1, 1) := by decide +kernel
theorem dPo_squareOfTaken_5 : decode cPo_squareOfTaken 5 = .ok (.if_icmp .ne 15, 3) := by decide +kernel
theorem dPo_squareOfTaken_8 : decode cPo_squareOfTaken 8 = .ok (.iload_n 2, 1) := by decide +kernel
theorem dPo_squareOfTaken_9 : decode cPo_squareOfTaken 9 = .ok (.aload_n 0, 1) := by decide +kernel
theorem dPo_squareOfTaken_10 : decode cPo_squareOfTaken 10 = .ok (.getfield 25, 3) := by decide +kernel
theorem dPo_squareOfTaken_13 : decode cPo_squareOfTaken 13 = .ok (.if_icmp .ne 7, 3) := by decide +kernel
theorem dPo_squareOfTaken_16 : decode cPo_squareOfTaken 16 = .ok (.iconst 1, 1) := by decide +kernel
theorem dPo_squareOfTaken_17 : decode cPo_squareOfTaken 17 = .ok (.goto 4, 3) := by decide +kernel
theorem dPo_squareOfTaken_20 : decode cPo_squareOfTaken 20 = .ok (.iconst 0, 1) := by decide +kernel
theorem dPo_squareOfTaken_21 : decode cPo_squareOfTaken 21 = .ok (.istore_n 3, 1) := by decide +kernel
theorem dPo_squareOfTaken_22 : decode cPo_squareOfTaken 22 = .ok (.iload_n 3, 1) := by decide +kernel
theorem dPo_squareOfTaken_23 : decode cPo_squareOfTaken 23 = .ok (.ifCond .eq 15, 3) := by decide +kernel
theorem dPo_squareOfTaken_26 : decode cPo_squareOfTaken 26 = .ok (.iload_n 2, 1) := by decide +kernel
theorem dPo_squareOfTaken_27 : decode cPo_squareOfTaken 27 = .ok (.aload_n 0, 1) := by decide +kernel
theorem dPo_squareOfTaken_28 : decode cPo_squareOfTaken 28 = .ok (.getfield 18, 3) := by decide +kernel
theorem dPo_squareOfTaken_31 : decode cPo_squareOfTaken 31 = .ok (.invokestatic 134, 3) := by decide +kernel
theorem dPo_squareOfTaken_34 : decode cPo_squareOfTaken 34 = .ok (.isub, 1) := by decide +kernel
theorem dPo_squareOfTaken_35 : decode cPo_squareOfTaken 35 = .ok (.goto 4, 3) := by decide +kernel
theorem dPo_squareOfTaken_38 : decode cPo_squareOfTaken 38 = .ok (.iload_n 2, 1) := by decide +kernel
theorem dPo_squareOfTaken_39 : decode cPo_squareOfTaken 39 = .ok (.ireturn, 1) := by decide +kernel

def f_Po_squareOfTaken_21 (oS_side : Int32) (oS_passed : Int32) (man : Int32) (to : Int32) (k0_21 : Int32) : Int32 :=
  (if k0_21 = 0 then to else to - (f_Ch_stepOf oS_side))
theorem f_Po_squareOfTaken_21_eq (oS_side : Int32) (oS_passed : Int32) (man : Int32) (to : Int32) (k0_21 : Int32) : f_Po_squareOfTaken_21 oS_side oS_passed man to k0_21 =
  (if k0_21 = 0 then to else to - (f_Ch_stepOf oS_side)) := rfl

def f_Po_squareOfTaken_20 (oS_side : Int32) (oS_passed : Int32) (man : Int32) (to : Int32) : Int32 :=
  f_Po_squareOfTaken_21 oS_side oS_passed man to 0
theorem f_Po_squareOfTaken_20_eq (oS_side : Int32) (oS_passed : Int32) (man : Int32) (to : Int32) : f_Po_squareOfTaken_20 oS_side oS_passed man to =
  f_Po_squareOfTaken_21 oS_side oS_passed man to 0 := rfl

def f_Po_squareOfTaken (oS_side : Int32) (oS_passed : Int32) (man : Int32) (to : Int32) : Int32 :=
  (if (man &&& 7) = 1 then (if to = oS_passed then f_Po_squareOfTaken_21 oS_side oS_passed man to 1 else f_Po_squareOfTaken_20 oS_side oS_passed man to) else f_Po_squareOfTaken_20 oS_side oS_passed man to)
theorem f_Po_squareOfTaken_eq (oS_side : Int32) (oS_passed : Int32) (man : Int32) (to : Int32) : f_Po_squareOfTaken oS_side oS_passed man to =
  (if (man &&& 7) = 1 then (if to = oS_passed then f_Po_squareOfTaken_21 oS_side oS_passed man to 1 else f_Po_squareOfTaken_20 oS_side oS_passed man to) else f_Po_squareOfTaken_20 oS_side oS_passed man to) := rfl

set_option maxHeartbeats 4000000 in
set_option maxRecDepth 100000 in
theorem c_Po_squareOfTaken (l : Launch) (dC : Nat → ClassId) (dI : Nat → Nat → Nat) (cI cJ cC : ClassId) (ad : Nat → Nat) (o o_board o_board_men o_board_sets : Nat) (oS_board : St_Bo) (oS_side : Int32) (oS_rights : Int32) (oS_passed : Int32) (oS_clock : Int32) (oS_number : Int32) (man : Int32) (to : Int32) : Met l yPo_squareOfTaken wsPo_squareOfTaken { frames := 1, cells := 0, slots := 0, locals := 20 } (roP dC dI (TYS cI cJ cC) [.ref o, .int man, .int to] [(o, .inr (3, [.ref o_board, .int oS_side, .int oS_rights, .int oS_passed, .int oS_clock, .int oS_number])), (o_board, .inr (0, [.ref o_board_men, .ref o_board_sets])), (o_board_men, .inl (cI, 64, .inl oS_board.1)), (o_board_sets, .inl (cJ, 16, .inr (.inl oS_board.2)))] (GS ad)) (vp_Si (fun r => r = f_Po_squareOfTaken oS_side oS_passed man to)) 0 0 (fun _ => False) := by
  refine Met.ofW (cc := cPo_squareOfTaken) (maxL := 4) (ret := (some .int)) (by decide) rfl ?_
  intro p e s m args below meth c s₁ B hml hv
  obtain ⟨rfl, hP, hK, hG⟩ := hv
  have hx := B.exec
  have hb := B.bytes
  have hr := B.returns
  have hB : ∀ w9 ∈ BIG, w9.before ([.ref o, .int man, .int to]).toArray s = true := fun w9 h => atoms_spec (ws := wsPo_squareOfTaken) B.pre w9 (List.mem_cons_of_mem _ h)
  have hown : s.vm.findClass "ChessRules$Position" = some m.cls := findClass_of_methodNamed B.named
  have hlocks := B.notSynchronized
  have hS : va_S (fun _ => False) s.heap s.heap [] := va_S.rf
  have hP : va_P (dC, dI) vwCl [(o, .inr (3, [.ref o_board, .int oS_side, .int oS_rights, .int oS_passed, .int oS_clock, .int oS_number])), (o_board, .inr (0, [.ref o_board_men, .ref o_board_sets])), (o_board_men, .inl (cI, 64, .inl oS_board.1)), (o_board_sets, .inl (cJ, 16, .inr (.inl oS_board.2)))] s.heap := hP
  have hl := lv_entry ([.ref o, .int man, .int to]) (n := 4) (Nat.le_of_ble_eq_true rfl)
  rw [lg_entry_eq]
  generalize (lg_sl ([.ref o, .int man, .int to]) ++ List.replicate (4 - (lg_sl ([.ref o, .int man, .int to])).length) Slot.unset).toArray = ls at hl ⊢
  have hl : lv_has ls 4 [(0, .ref o), (1, .int man), (2, .int to)] := hl
  refine lv_iload_n hx hb dPo_squareOfTaken_0 rfl (lv_at hl 1 rfl) ?_
  refine lv_bipush (v := 7) hx hb dPo_squareOfTaken_1 (by decide) ?_
  refine lv_iand hx hb dPo_squareOfTaken_3 ?_
  refine lv_iconst (v := 1) hx hb dPo_squareOfTaken_4 (by decide) ?_
  have J_21 : ∀ (k0_21 : Int32), f_Po_squareOfTaken oS_side oS_passed man to = f_Po_squareOfTaken_21 oS_side oS_passed man to k0_21 → ∀ ls : Array Slot, lv_has ls 4 [(0, .ref o), (2, .int to)] → W p l e (headSpec wsPo_squareOfTaken { frames := 1, cells := 0, slots := 0, locals := 20 }).room s m ([.ref o, .int man, .int to]).toArray below meth c s.heap [] 0 0 (MQ below (vp_Si (fun r => r = f_Po_squareOfTaken oS_side oS_passed man to)) ([.ref o, .int man, .int to]).toArray s 0 0 (fun _ => False)) (F0 m 21 ls [.int k0_21]) := by
    intro k0_21 he_21 ls hl
    refine lv_istore_n (lv' := [(3, .int k0_21), (0, .ref o), (2, .int to)]) hx hb dPo_squareOfTaken_21 rfl hl (by decide) rfl (fun ls hl => ?_)
    refine lv_iload_n hx hb dPo_squareOfTaken_22 rfl (lv_at hl 0 rfl) ?_
    refine lv_if_eq (tgt := 38) hx hb dPo_squareOfTaken_23 (by decide) (fun c_1 => ?_) (fun c_1 => ?_)
    · refine lv_iload_n hx hb dPo_squareOfTaken_38 rfl (lv_at hl 2 rfl) ?_
      exact ro_reti hx hb hr hlocks dPo_squareOfTaken_39 (Eq.symm (he_21.trans (by rw [f_Po_squareOfTaken_21_eq, if_pos c_1] <;> rfl)))
    · refine lv_iload_n hx hb dPo_squareOfTaken_26 rfl (lv_at hl 2 rfl) ?_
      refine lv_aload_n hx hb dPo_squareOfTaken_27 rfl (lv_at hl 1 rfl) ?_
      refine va_get (D := (dC, dI)) (ci := 3) (v := .int oS_side) (C := RPo) (T := TPo) (N := 6) hx hb hB inPo hown hK hP 0 rfl rfl 1 (by decide) (hB _ q1_83) (fun _ h9 => h9) rfl dPo_squareOfTaken_28 ?_
      refine ro_goi (va_runSN (As := [.int oS_side]) (rest := [.int to]) ⟨hx, hb, hml, hown, hB⟩ (c_Ch_stepOf l dC dI cI cJ cC ad oS_side) ⟨va_cnB 1 hB (big_self q2_187) rfl rfl rfl (hG.1 _ q2_228) (hB _ q1_1) (by decide +kernel) ⟨Nat.le_of_ble_eq_true rfl, Nat.le_of_ble_eq_true rfl⟩, (hB _ q2_186), trivial⟩ (ro_preS (GS_ok ad) hK hP hG hS [] rfl) rfl rfl hl.1 rfl (lv_room (Nat.le_of_ble_eq_true rfl)) dPo_squareOfTaken_31 ⟨Nat.le_of_ble_eq_true rfl, Nat.le_of_ble_eq_true rfl⟩) ?_
      refine lv_isub hx hb dPo_squareOfTaken_34 ?_
      refine lv_goto (tgt := 39) hx hb dPo_squareOfTaken_35 (by decide) ?_
      exact ro_reti hx hb hr hlocks dPo_squareOfTaken_39 (Eq.symm (he_21.trans (by rw [f_Po_squareOfTaken_21_eq, if_neg c_1] <;> rfl)))
  have J_20 : f_Po_squareOfTaken oS_side oS_passed man to = f_Po_squareOfTaken_20 oS_side oS_passed man to → ∀ ls : Array Slot, lv_has ls 4 [(0, .ref o), (2, .int to)] → W p l e (headSpec wsPo_squareOfTaken { frames := 1, cells := 0, slots := 0, locals := 20 }).room s m ([.ref o, .int man, .int to]).toArray below meth c s.heap [] 0 0 (MQ below (vp_Si (fun r => r = f_Po_squareOfTaken oS_side oS_passed man to)) ([.ref o, .int man, .int to]).toArray s 0 0 (fun _ => False)) (F0 m 20 ls []) := by
    intro he_20 ls hl
    refine lv_iconst (v := 0) hx hb dPo_squareOfTaken_20 (by decide) ?_
    exact J_21 0 (he_20.trans (by rw [f_Po_squareOfTaken_20_eq] <;> rfl)) ls (lv_sub hl [0, 1] rfl)
  refine lv_icmp_ne (tgt := 20) hx hb dPo_squareOfTaken_5 (by decide) (fun c_2 => ?_) (fun c_2 => ?_)
  · exact J_20 (by rw [f_Po_squareOfTaken_eq, if_neg c_2] <;> rfl) ls (lv_sub hl [0, 2] rfl)
  · refine lv_iload_n hx hb dPo_squareOfTaken_8 rfl (lv_at hl 2 rfl) ?_
    refine lv_aload_n hx hb dPo_squareOfTaken_9 rfl (lv_at hl 0 rfl) ?_
    refine va_get (D := (dC, dI)) (ci := 3) (v := .int oS_passed) (C := RPo) (T := TPo) (N := 6) hx hb hB inPo hown hK hP 0 rfl rfl 3 (by decide) (hB _ q1_94) (fun _ h9 => h9) rfl dPo_squareOfTaken_10 ?_
    refine lv_icmp_ne (tgt := 20) hx hb dPo_squareOfTaken_13 (by decide) (fun c_3 => ?_) (fun c_3 => ?_)
    · exact J_20 (by rw [f_Po_squareOfTaken_eq, if_pos c_2, if_neg c_3] <;> rfl) ls (lv_sub hl [0, 2] rfl)
    · refine lv_iconst (v := 1) hx hb dPo_squareOfTaken_16 (by decide) ?_
      refine lv_goto (tgt := 21) hx hb dPo_squareOfTaken_17 (by decide) ?_
      exact J_21 1 (by rw [f_Po_squareOfTaken_eq, if_pos c_2, if_pos c_3] <;> rfl) ls (lv_sub hl [0, 2] rfl)

abbrev cPo_keepsKingSafe : ByteArray := prog_5_method_17_code
def yPo_keepsKingSafe : MethodName := ⟨"ChessRules$Position", "keepsKingSafe", "(II)Z"⟩
def wsPo_keepsKingSafe : List Cond := Cond.code yPo_keepsKingSafe cPo_keepsKingSafe 10 (some .boolean) :: BIG
theorem dPo_keepsKingSafe_0 : decode cPo_keepsKingSafe 0 = .ok (.aload_n 0, 1) := by decide +kernel
theorem dPo_keepsKingSafe_1 : decode cPo_keepsKingSafe 1 = .ok (.getfield 12, 3) := by decide +kernel
theorem dPo_keepsKingSafe_4 : decode cPo_keepsKingSafe 4 = .ok (.iload_n 1, 1) := by decide +kernel
theorem dPo_keepsKingSafe_5 : decode cPo_keepsKingSafe 5 = .ok (.invokevirtual 38, 3) := by decide +kernel
theorem dPo_keepsKingSafe_8 : decode cPo_keepsKingSafe 8 = .ok (.istore_n 3, 1) := by decide +kernel
theorem dPo_keepsKingSafe_9 : decode cPo_keepsKingSafe 9 = .ok (.lconst 1, 1) := by decide +kernel
theorem dPo_keepsKingSafe_10 : decode cPo_keepsKingSafe 10 = .ok (.aload_n 0, 1) := by decide +kernel
theorem dPo_keepsKingSafe_11 : decode cPo_keepsKingSafe 11 = .ok (.iload_n 3, 1) := by decide +kernel
theorem dPo_keepsKingSafe_12 : decode cPo_keepsKingSafe 12 = .ok (.iload_n 2, 1) := by decide +kernel
theorem dPo_keepsKingSafe_13 : decode cPo_keepsKingSafe 13 = .ok (.invokevirtual 130, 3) := by decide +kernel
theorem dPo_keepsKingSafe_16 : decode cPo_keepsKingSafe 16 = .ok (.lshl, 1) := by decide +kernel
theorem dPo_keepsKingSafe_17 : decode cPo_keepsKingSafe 17 = .ok (.lstore 4, 2) := by decide +kernel
theorem dPo_keepsKingSafe_19 : decode cPo_keepsKingSafe 19 = .ok (.aload_n 0, 1) := by decide +kernel
theorem dPo_keepsKingSafe_20 : decode cPo_keepsKingSafe 20 = .ok (.getfield 12, 3) := by decide +kernel
theorem dPo_keepsKingSafe_23 : decode cPo_keepsKingSafe 23 = .ok (.invokevirtual 87, 3) := by decide +kernel
theorem dPo_keepsKingSafe_26 : decode cPo_keepsKingSafe 26 = .ok (.lconst 1, 1) := by decide +kernel
theorem dPo_keepsKingSafe_27 : decode cPo_keepsKingSafe 27 = .ok (.iload_n 1, 1) := by decide +kernel
theorem dPo_keepsKingSafe_28 : decode cPo_keepsKingSafe 28 = .ok (.lshl, 1) := by decide +kernel
theorem dPo_keepsKingSafe_29 : decode cPo_keepsKingSafe 29 = .ok (.lor, 1) := by decide +kernel
theorem dPo_keepsKingSafe_30 : decode cPo_keepsKingSafe 30 = .ok (.lload 4, 2) := by decide +kernel
theorem dPo_keepsKingSafe_32 : decode cPo_keepsKingSafe 32 = .ok (.lor, 1) := by decide +kernel
theorem dPo_keepsKingSafe_33 : decode cPo_keepsKingSafe 33 = .ok (.lconst 1, 1) := by decide +kernel
theorem dPo_keepsKingSafe_34 : decode cPo_keepsKingSafe 34 = .ok (.iload_n 2, 1) := by decide +kernel
theorem dPo_keepsKingSafe_35 : decode cPo_keepsKingSafe 35 = .ok (.lshl, 1) := by decide +kernel
theorem dPo_keepsKingSafe_36 : decode cPo_keepsKingSafe 36 = .ok (.ldc2_w 82, 3) := by decide +kernel
theorem dPo_keepsKingSafe_39 : decode cPo_keepsKingSafe 39 = .ok (.lxor, 1) := by decide +kernel
theorem dPo_keepsKingSafe_40 : decode cPo_keepsKingSafe 40 = .ok (.land, 1) := by decide +kernel
theorem dPo_keepsKingSafe_41 : decode cPo_keepsKingSafe 41 = .ok (.lstore 6, 2) := by decide +kernel
theorem dPo_keepsKingSafe_43 : decode cPo_keepsKingSafe 43 = .ok (.iload_n 3, 1) := by decide +kernel
theorem dPo_keepsKingSafe_44 : decode cPo_keepsKingSafe 44 = .ok (.bipush 7, 2) := by decide +kernel
theorem dPo_keepsKingSafe_46 : decode cPo_keepsKingSafe 46 = .ok (.iand, 1) := by decide +kernel
theorem dPo_keepsKingSafe_47 : decode cPo_keepsKingSafe 47 = .ok (.bipush 6, 2) := by decide +kernel
theorem dPo_keepsKingSafe_49 : decode cPo_keepsKingSafe 49 = .ok (.if_icmp .ne 9, 3) := by decide +kernel
theorem dPo_keepsKingSafe_52 : decode cPo_keepsKingSafe 52 = .ok (.lconst 1, 1) := by decide +kernel
theorem dPo_keepsKingSafe_53 : decode cPo_keepsKingSafe 53 = .ok (.iload_n 2, 1) := by decide +kernel
theorem dPo_keepsKingSafe_54 : decode cPo_keepsKingSafe 54 = .ok (.lshl, 1) := by decide +kernel
theorem dPo_keepsKingSafe_55 : decode cPo_keepsKingSafe 55 = .ok (.goto 16, 3) := by decide +kernel
theorem dPo_keepsKingSafe_58 : decode cPo_keepsKingSafe 58 = .ok (.aload_n 0, 1) := by decide +kernel
theorem dPo_keepsKingSafe_59 : decode cPo_keepsKingSafe 59 = .ok (.getfield 12, 3) := by decide +kernel
theorem dPo_keepsKingSafe_62 : decode cPo_keepsKingSafe 62 = .ok (.bipush 6, 2) := by decide +kernel
theorem dPo_keepsKingSafe_64 : decode cPo_keepsKingSafe 64 = .ok (.aload_n 0, 1) := by decide +kernel
theorem dPo_keepsKingSafe_65 : decode cPo_keepsKingSafe 65 = .ok (.getfield 18, 3) := by decide +kernel
theorem dPo_keepsKingSafe_68 : decode cPo_keepsKingSafe 68 = .ok (.invokevirtual 56, 3) := by decide +kernel
theorem dPo_keepsKingSafe_71 : decode cPo_keepsKingSafe 71 = .ok (.lstore 8, 2) := by decide +kernel
theorem dPo_keepsKingSafe_73 : decode cPo_keepsKingSafe 73 = .ok (.aload_n 0, 1) := by decide +kernel
theorem dPo_keepsKingSafe_74 : decode cPo_keepsKingSafe 74 = .ok (.getfield 12, 3) := by decide +kernel
theorem dPo_keepsKingSafe_77 : decode cPo_keepsKingSafe 77 = .ok (.lload 8, 2) := by decide +kernel
theorem dPo_keepsKingSafe_79 : decode cPo_keepsKingSafe 79 = .ok (.iconst 1, 1) := by decide +kernel
theorem dPo_keepsKingSafe_80 : decode cPo_keepsKingSafe 80 = .ok (.aload_n 0, 1) := by decide +kernel
theorem dPo_keepsKingSafe_81 : decode cPo_keepsKingSafe 81 = .ok (.getfield 18, 3) := by decide +kernel
theorem dPo_keepsKingSafe_84 : decode cPo_keepsKingSafe 84 = .ok (.isub, 1) := by decide +kernel
theorem dPo_keepsKingSafe_85 : decode cPo_keepsKingSafe 85 = .ok (.lload 6, 2) := by decide +kernel
theorem dPo_keepsKingSafe_87 : decode cPo_keepsKingSafe 87 = .ok (.invokevirtual 113, 3) := by decide +kernel
theorem dPo_keepsKingSafe_90 : decode cPo_keepsKingSafe 90 = .ok (.lload 4, 2) := by decide +kernel
theorem dPo_keepsKingSafe_92 : decode cPo_keepsKingSafe 92 = .ok (.ldc2_w 82, 3) := by decide +kernel
theorem dPo_keepsKingSafe_95 : decode cPo_keepsKingSafe 95 = .ok (.lxor, 1) := by decide +kernel
theorem dPo_keepsKingSafe_96 : decode cPo_keepsKingSafe 96 = .ok (.land, 1) := by decide +kernel
theorem dPo_keepsKingSafe_97 : decode cPo_keepsKingSafe 97 = .ok (.lconst 0, 1) := by decide +kernel
theorem dPo_keepsKingSafe_98 : decode cPo_keepsKingSafe 98 = .ok (.lcmp, 1) := by decide +kernel
theorem dPo_keepsKingSafe_99 : decode cPo_keepsKingSafe 99 = .ok (.ifCond .ne 7, 3) := by decide +kernel
theorem dPo_keepsKingSafe_102 : decode cPo_keepsKingSafe 102 = .ok (.iconst 1, 1) := by decide +kernel
theorem dPo_keepsKingSafe_103 : decode cPo_keepsKingSafe 103 = .ok (.goto 4, 3) := by decide +kernel
theorem dPo_keepsKingSafe_106 : decode cPo_keepsKingSafe 106 = .ok (.iconst 0, 1) := by decide +kernel
theorem dPo_keepsKingSafe_107 : decode cPo_keepsKingSafe 107 = .ok (.ireturn, 1) := by decide +kernel

def f_Po_keepsKingSafe_71 (oS_board : St_Bo) (oS_side : Int32) (oS_passed : Int32) (fr : Int32) (to : Int32) (k0_71 : Int64) : Int32 :=
  (if ((f_Bo_attackersOf oS_board.2 k0_71 (1 - oS_side) ((((f_Bo_empty oS_board.2) ||| (shl64 1 fr)) ||| (shl64 1 (f_Po_squareOfTaken oS_side oS_passed (f_Bo_manAt oS_board.1 fr) to))) &&& ((shl64 1 to) ^^^ (-1)))) &&& ((shl64 1 (f_Po_squareOfTaken oS_side oS_passed (f_Bo_manAt oS_board.1 fr) to)) ^^^ (-1))) = 0 then 1 else 0)
theorem f_Po_keepsKingSafe_71_eq (oS_board : St_Bo) (oS_side : Int32) (oS_passed : Int32) (fr : Int32) (to : Int32) (k0_71 : Int64) : f_Po_keepsKingSafe_71 oS_board oS_side oS_passed fr to k0_71 =
  (if ((f_Bo_attackersOf oS_board.2 k0_71 (1 - oS_side) ((((f_Bo_empty oS_board.2) ||| (shl64 1 fr)) ||| (shl64 1 (f_Po_squareOfTaken oS_side oS_passed (f_Bo_manAt oS_board.1 fr) to))) &&& ((shl64 1 to) ^^^ (-1)))) &&& ((shl64 1 (f_Po_squareOfTaken oS_side oS_passed (f_Bo_manAt oS_board.1 fr) to)) ^^^ (-1))) = 0 then 1 else 0) := rfl

def f_Po_keepsKingSafe (oS_board : St_Bo) (oS_side : Int32) (oS_passed : Int32) (fr : Int32) (to : Int32) : Int32 :=
  (if ((f_Bo_manAt oS_board.1 fr) &&& 7) = 6 then f_Po_keepsKingSafe_71 oS_board oS_side oS_passed fr to (shl64 1 to) else f_Po_keepsKingSafe_71 oS_board oS_side oS_passed fr to (f_Bo_setOf oS_board.2 6 oS_side))
theorem f_Po_keepsKingSafe_eq (oS_board : St_Bo) (oS_side : Int32) (oS_passed : Int32) (fr : Int32) (to : Int32) : f_Po_keepsKingSafe oS_board oS_side oS_passed fr to =
  (if ((f_Bo_manAt oS_board.1 fr) &&& 7) = 6 then f_Po_keepsKingSafe_71 oS_board oS_side oS_passed fr to (shl64 1 to) else f_Po_keepsKingSafe_71 oS_board oS_side oS_passed fr to (f_Bo_setOf oS_board.2 6 oS_side)) := rfl

set_option maxHeartbeats 4000000 in
set_option maxRecDepth 100000 in
theorem c_Po_keepsKingSafe (l : Launch) (dC : Nat → ClassId) (dI : Nat → Nat → Nat) (cI cJ cC : ClassId) (ad : Nat → Nat) (o o_board o_board_men o_board_sets : Nat) (oS_board : St_Bo) (oS_side : Int32) (oS_rights : Int32) (oS_passed : Int32) (oS_clock : Int32) (oS_number : Int32) (fr : Int32) (to : Int32) : Met l yPo_keepsKingSafe wsPo_keepsKingSafe { frames := 2, cells := 0, slots := 0, locals := 64 } (roP dC dI (TYS cI cJ cC) [.ref o, .int fr, .int to] [(o, .inr (3, [.ref o_board, .int oS_side, .int oS_rights, .int oS_passed, .int oS_clock, .int oS_number])), (o_board, .inr (0, [.ref o_board_men, .ref o_board_sets])), (o_board_men, .inl (cI, 64, .inl oS_board.1)), (o_board_sets, .inl (cJ, 16, .inr (.inl oS_board.2)))] (GS ad)) (vp_Si (fun r => r = f_Po_keepsKingSafe oS_board oS_side oS_passed fr to)) 0 0 (fun _ => False) := by
  refine Met.ofW (cc := cPo_keepsKingSafe) (maxL := 10) (ret := (some .boolean)) (by decide) rfl ?_
  intro p e s m args below meth c s₁ B hml hv
  obtain ⟨rfl, hP, hK, hG⟩ := hv
  have hx := B.exec
  have hb := B.bytes
  have hr := B.returns
  have hB : ∀ w9 ∈ BIG, w9.before ([.ref o, .int fr, .int to]).toArray s = true := fun w9 h => atoms_spec (ws := wsPo_keepsKingSafe) B.pre w9 (List.mem_cons_of_mem _ h)
  have hown : s.vm.findClass "ChessRules$Position" = some m.cls := findClass_of_methodNamed B.named
  have hlocks := B.notSynchronized
  have hS : va_S (fun _ => False) s.heap s.heap [] := va_S.rf
  have hP : va_P (dC, dI) vwCl [(o, .inr (3, [.ref o_board, .int oS_side, .int oS_rights, .int oS_passed, .int oS_clock, .int oS_number])), (o_board, .inr (0, [.ref o_board_men, .ref o_board_sets])), (o_board_men, .inl (cI, 64, .inl oS_board.1)), (o_board_sets, .inl (cJ, 16, .inr (.inl oS_board.2)))] s.heap := hP
  have hl := lv_entry ([.ref o, .int fr, .int to]) (n := 10) (Nat.le_of_ble_eq_true rfl)
  rw [lg_entry_eq]
  generalize (lg_sl ([.ref o, .int fr, .int to]) ++ List.replicate (10 - (lg_sl ([.ref o, .int fr, .int to])).length) Slot.unset).toArray = ls at hl ⊢
  have hl : lv_has ls 10 [(0, .ref o), (1, .int fr), (2, .int to)] := hl
  refine lv_aload_n hx hb dPo_keepsKingSafe_0 rfl (lv_at hl 0 rfl) ?_
  refine va_get (D := (dC, dI)) (ci := 3) (v := .ref o_board) (C := RPo) (T := TPo) (N := 6) hx hb hB inPo hown hK hP 0 rfl rfl 0 (by decide) (hB _ q1_77) (fun _ h9 => h9) rfl dPo_keepsKingSafe_1 ?_
  refine lv_iload_n hx hb dPo_keepsKingSafe_4 rfl (lv_at hl 1 rfl) ?_
  refine ro_goi (va_runVN (C := "ChessRules$Board") (As := [.int fr]) (rest := []) ⟨hx, hb, hml, hown, hB⟩ (c_Bo_manAt l dC dI cI cJ cC ad o_board o_board_men o_board_sets oS_board.1 oS_board.2 fr) ⟨va_cnB 1 hB (big_self q2_168) rfl rfl rfl (hG.1 _ q2_206) (hB _ q1_5) (by decide +kernel) ⟨Nat.le_of_ble_eq_true rfl, Nat.le_of_ble_eq_true rfl⟩, (hB _ q2_167), (hB _ qs2_7)⟩ (ro_preV (GS_ok ad) hK hP hG hS [1, 2, 3] rfl (va_recv hK hP (ci := 0) (q0 := 1) rfl rfl)) rfl rfl hl.1 rfl (lv_room (Nat.le_of_ble_eq_true rfl)) dPo_keepsKingSafe_5 ⟨Nat.le_of_ble_eq_true rfl, Nat.le_of_ble_eq_true rfl⟩) ?_
  refine lv_istore_n (lv' := [(3, .int (f_Bo_manAt oS_board.1 fr)), (0, .ref o), (1, .int fr), (2, .int to)]) hx hb dPo_keepsKingSafe_8 rfl hl (by decide) rfl (fun ls hl => ?_)
  refine lv_lconst (v := 1) hx hb dPo_keepsKingSafe_9 (by decide) ?_
  refine lv_aload_n hx hb dPo_keepsKingSafe_10 rfl (lv_at hl 1 rfl) ?_
  refine lv_iload_n hx hb dPo_keepsKingSafe_11 rfl (lv_at hl 0 rfl) ?_
  refine lv_iload_n hx hb dPo_keepsKingSafe_12 rfl (lv_at hl 3 rfl) ?_
  refine ro_goi (va_runV (C := "ChessRules$Position") (As := [.int (f_Bo_manAt oS_board.1 fr), .int to]) (rest := [.long 1]) ⟨hx, hb, hml, hown, hB⟩ (c_Po_squareOfTaken l dC dI cI cJ cC ad o o_board o_board_men o_board_sets oS_board oS_side oS_rights oS_passed oS_clock oS_number (f_Bo_manAt oS_board.1 fr) to) ⟨callB_of 2 hB (big_self q2_227) rfl rfl rfl (hB _ q1_4) (hB _ q2_224) (by decide +kernel) ⟨Nat.le_of_ble_eq_true rfl, Nat.le_of_ble_eq_true rfl⟩, (hB _ q2_226), (hB _ qs3_2)⟩ (ro_preV (GS_ok ad) hK hP hG hS [0, 1, 2, 3] rfl (va_recv hK hP (ci := 3) (q0 := 0) rfl rfl)) rfl rfl hl.1 rfl (lv_room (Nat.le_of_ble_eq_true rfl)) dPo_keepsKingSafe_13 ⟨Nat.le_of_ble_eq_true rfl, Nat.le_of_ble_eq_true rfl⟩) ?_
  refine lv_lshl (v := shl64 1 (f_Po_squareOfTaken oS_side oS_passed (f_Bo_manAt oS_board.1 fr) to)) hx hb dPo_keepsKingSafe_16 rfl ?_
  refine lv_lstore (lv' := [(4, .long (shl64 1 (f_Po_squareOfTaken oS_side oS_passed (f_Bo_manAt oS_board.1 fr) to))), (3, .int (f_Bo_manAt oS_board.1 fr)), (0, .ref o), (1, .int fr), (2, .int to)]) hx hb dPo_keepsKingSafe_17 hl (by decide) rfl (fun ls hl => ?_)
  refine lv_aload_n hx hb dPo_keepsKingSafe_19 rfl (lv_at hl 2 rfl) ?_
  refine va_get (D := (dC, dI)) (ci := 3) (v := .ref o_board) (C := RPo) (T := TPo) (N := 6) hx hb hB inPo hown hK hP 0 rfl rfl 0 (by decide) (hB _ q1_77) (fun _ h9 => h9) rfl dPo_keepsKingSafe_20 ?_
  refine ro_gol (va_runVN (C := "ChessRules$Board") (As := []) (rest := []) ⟨hx, hb, hml, hown, hB⟩ (c_Bo_empty l dC dI cI cJ cC ad o_board o_board_men o_board_sets oS_board.1 oS_board.2) ⟨va_cnB 0 hB (big_self q2_132) rfl rfl rfl (hG.1 _ q2_229) (hB _ q1_5) (by decide +kernel) ⟨Nat.le_of_ble_eq_true rfl, Nat.le_of_ble_eq_true rfl⟩, (hB _ q2_131), (hB _ qs2_4)⟩ (ro_preV (GS_ok ad) hK hP hG hS [1, 2, 3] rfl (va_recv hK hP (ci := 0) (q0 := 1) rfl rfl)) rfl rfl hl.1 rfl (lv_room (Nat.le_of_ble_eq_true rfl)) dPo_keepsKingSafe_23 ⟨Nat.le_of_ble_eq_true rfl, Nat.le_of_ble_eq_true rfl⟩) ?_
  refine lv_lconst (v := 1) hx hb dPo_keepsKingSafe_26 (by decide) ?_
  refine lv_iload_n hx hb dPo_keepsKingSafe_27 rfl (lv_at hl 3 rfl) ?_
  refine lv_lshl (v := shl64 1 fr) hx hb dPo_keepsKingSafe_28 rfl ?_
  refine lv_lor hx hb dPo_keepsKingSafe_29 ?_
  refine lv_lload hx hb dPo_keepsKingSafe_30 (lv_at hl 0 rfl) ?_
  refine lv_lor hx hb dPo_keepsKingSafe_32 ?_
  refine lv_lconst (v := 1) hx hb dPo_keepsKingSafe_33 (by decide) ?_
  refine lv_iload_n hx hb dPo_keepsKingSafe_34 rfl (lv_at hl 4 rfl) ?_
  refine lv_lshl (v := shl64 1 to) hx hb dPo_keepsKingSafe_35 rfl ?_
  refine lv_ldc2 (v := (-1)) hx hb hown (hB _ q2_230) dPo_keepsKingSafe_36 ?_
  refine lv_lxor hx hb dPo_keepsKingSafe_39 ?_
  refine lv_land hx hb dPo_keepsKingSafe_40 ?_
  refine lv_lstore (lv' := [(6, .long ((((f_Bo_empty oS_board.2) ||| (shl64 1 fr)) ||| (shl64 1 (f_Po_squareOfTaken oS_side oS_passed (f_Bo_manAt oS_board.1 fr) to))) &&& ((shl64 1 to) ^^^ (-1)))), (4, .long (shl64 1 (f_Po_squareOfTaken oS_side oS_passed (f_Bo_manAt oS_board.1 fr) to))), (3, .int (f_Bo_manAt oS_board.1 fr)), (0, .ref o), (1, .int fr), (2, .int to)]) hx hb dPo_keepsKingSafe_41 hl (by decide) rfl (fun ls hl => ?_)
  refine lv_iload_n hx hb dPo_keepsKingSafe_43 rfl (lv_at hl 2 rfl) ?_
  refine lv_bipush (v := 7) hx hb dPo_keepsKingSafe_44 (by decide) ?_
  refine lv_iand hx hb dPo_keepsKingSafe_46 ?_
  refine lv_bipush (v := 6) hx hb dPo_keepsKingSafe_47 (by decide) ?_
  have J_71 : ∀ (k0_71 : Int64), f_Po_keepsKingSafe oS_board oS_side oS_passed fr to = f_Po_keepsKingSafe_71 oS_board oS_side oS_passed fr to k0_71 → ∀ ls : Array Slot, lv_has ls 10 [(0, .ref o), (4, .long (shl64 1 (f_Po_squareOfTaken oS_side oS_passed (f_Bo_manAt oS_board.1 fr) to))), (6, .long ((((f_Bo_empty oS_board.2) ||| (shl64 1 fr)) ||| (shl64 1 (f_Po_squareOfTaken oS_side oS_passed (f_Bo_manAt oS_board.1 fr) to))) &&& ((shl64 1 to) ^^^ (-1))))] → W p l e (headSpec wsPo_keepsKingSafe { frames := 2, cells := 0, slots := 0, locals := 64 }).room s m ([.ref o, .int fr, .int to]).toArray below meth c s.heap [] 0 0 (MQ below (vp_Si (fun r => r = f_Po_keepsKingSafe oS_board oS_side oS_passed fr to)) ([.ref o, .int fr, .int to]).toArray s 0 0 (fun _ => False)) (F0 m 71 ls [.long k0_71]) := by
    intro k0_71 he_71 ls hl
    refine lv_lstore (lv' := [(8, .long k0_71), (0, .ref o), (4, .long (shl64 1 (f_Po_squareOfTaken oS_side oS_passed (f_Bo_manAt oS_board.1 fr) to))), (6, .long ((((f_Bo_empty oS_board.2) ||| (shl64 1 fr)) ||| (shl64 1 (f_Po_squareOfTaken oS_side oS_passed (f_Bo_manAt oS_board.1 fr) to))) &&& ((shl64 1 to) ^^^ (-1))))]) hx hb dPo_keepsKingSafe_71 hl (by decide) rfl (fun ls hl => ?_)
    refine lv_aload_n hx hb dPo_keepsKingSafe_73 rfl (lv_at hl 1 rfl) ?_
    refine va_get (D := (dC, dI)) (ci := 3) (v := .ref o_board) (C := RPo) (T := TPo) (N := 6) hx hb hB inPo hown hK hP 0 rfl rfl 0 (by decide) (hB _ q1_77) (fun _ h9 => h9) rfl dPo_keepsKingSafe_74 ?_
    refine lv_lload hx hb dPo_keepsKingSafe_77 (lv_at hl 0 rfl) ?_
    refine lv_iconst (v := 1) hx hb dPo_keepsKingSafe_79 (by decide) ?_
    refine lv_aload_n hx hb dPo_keepsKingSafe_80 rfl (lv_at hl 1 rfl) ?_
    refine va_get (D := (dC, dI)) (ci := 3) (v := .int oS_side) (C := RPo) (T := TPo) (N := 6) hx hb hB inPo hown hK hP 0 rfl rfl 1 (by decide) (hB _ q1_83) (fun _ h9 => h9) rfl dPo_keepsKingSafe_81 ?_
    refine lv_isub hx hb dPo_keepsKingSafe_84 ?_
    refine lv_lload hx hb dPo_keepsKingSafe_85 (lv_at hl 3 rfl) ?_
    refine ro_gol (va_runVN (C := "ChessRules$Board") (As := [.long k0_71, .int (1 - oS_side), .long ((((f_Bo_empty oS_board.2) ||| (shl64 1 fr)) ||| (shl64 1 (f_Po_squareOfTaken oS_side oS_passed (f_Bo_manAt oS_board.1 fr) to))) &&& ((shl64 1 to) ^^^ (-1)))]) (rest := []) ⟨hx, hb, hml, hown, hB⟩ (c_Bo_attackersOf l dC dI cI cJ cC ad o_board o_board_men o_board_sets oS_board.1 oS_board.2 k0_71 (1 - oS_side) ((((f_Bo_empty oS_board.2) ||| (shl64 1 fr)) ||| (shl64 1 (f_Po_squareOfTaken oS_side oS_passed (f_Bo_manAt oS_board.1 fr) to))) &&& ((shl64 1 to) ^^^ (-1)))) ⟨va_cnB 3 hB (big_self q2_136) rfl rfl rfl (hG.1 _ q2_231) (hB _ q1_5) (by decide +kernel) ⟨Nat.le_of_ble_eq_true rfl, Nat.le_of_ble_eq_true rfl⟩, (hB _ q2_135), (hB _ qs2_5)⟩ (ro_preV (GS_ok ad) hK hP hG hS [1, 2, 3] rfl (va_recv hK hP (ci := 0) (q0 := 1) rfl rfl)) rfl rfl hl.1 rfl (lv_room (Nat.le_of_ble_eq_true rfl)) dPo_keepsKingSafe_87 ⟨Nat.le_of_ble_eq_true rfl, Nat.le_of_ble_eq_true rfl⟩) ?_
    refine lv_lload hx hb dPo_keepsKingSafe_90 (lv_at hl 2 rfl) ?_
    refine lv_ldc2 (v := (-1)) hx hb hown (hB _ q2_230) dPo_keepsKingSafe_92 ?_
    refine lv_lxor hx hb dPo_keepsKingSafe_95 ?_
    refine lv_land hx hb dPo_keepsKingSafe_96 ?_
    refine lv_lconst (v := 0) hx hb dPo_keepsKingSafe_97 (by decide) ?_
    refine W.lcmp hx hb dPo_keepsKingSafe_98 ?_
    refine lv_if_ne (tgt := 106) hx hb dPo_keepsKingSafe_99 (by decide) (fun q => let_c (h := ¬ ((f_Bo_attackersOf oS_board.2 k0_71 (1 - oS_side) ((((f_Bo_empty oS_board.2) ||| (shl64 1 fr)) ||| (shl64 1 (f_Po_squareOfTaken oS_side oS_passed (f_Bo_manAt oS_board.1 fr) to))) &&& ((shl64 1 to) ^^^ (-1)))) &&& ((shl64 1 (f_Po_squareOfTaken oS_side oS_passed (f_Bo_manAt oS_board.1 fr) to)) ^^^ (-1))) = 0) (lgc_ne.1 q) (fun c_1 => ?_)) (fun q => let_c (h := ((f_Bo_attackersOf oS_board.2 k0_71 (1 - oS_side) ((((f_Bo_empty oS_board.2) ||| (shl64 1 fr)) ||| (shl64 1 (f_Po_squareOfTaken oS_side oS_passed (f_Bo_manAt oS_board.1 fr) to))) &&& ((shl64 1 to) ^^^ (-1)))) &&& ((shl64 1 (f_Po_squareOfTaken oS_side oS_passed (f_Bo_manAt oS_board.1 fr) to)) ^^^ (-1))) = 0) (lgc_ne.2 q) (fun c_1 => ?_))
    · refine lv_iconst (v := 0) hx hb dPo_keepsKingSafe_106 (by decide) ?_
      exact ro_retz hx hb hr rfl hlocks dPo_keepsKingSafe_107 (Eq.symm (he_71.trans (by rw [f_Po_keepsKingSafe_71_eq, if_neg c_1] <;> rfl)))
    · refine lv_iconst (v := 1) hx hb dPo_keepsKingSafe_102 (by decide) ?_
      refine lv_goto (tgt := 107) hx hb dPo_keepsKingSafe_103 (by decide) ?_
      exact ro_retz hx hb hr rfl hlocks dPo_keepsKingSafe_107 (Eq.symm (he_71.trans (by rw [f_Po_keepsKingSafe_71_eq, if_pos c_1] <;> rfl)))
  refine lv_icmp_ne (tgt := 58) hx hb dPo_keepsKingSafe_49 (by decide) (fun c_2 => ?_) (fun c_2 => ?_)
  · refine lv_aload_n hx hb dPo_keepsKingSafe_58 rfl (lv_at hl 3 rfl) ?_
    refine va_get (D := (dC, dI)) (ci := 3) (v := .ref o_board) (C := RPo) (T := TPo) (N := 6) hx hb hB inPo hown hK hP 0 rfl rfl 0 (by decide) (hB _ q1_77) (fun _ h9 => h9) rfl dPo_keepsKingSafe_59 ?_
    refine lv_bipush (v := 6) hx hb dPo_keepsKingSafe_62 (by decide) ?_
    refine lv_aload_n hx hb dPo_keepsKingSafe_64 rfl (lv_at hl 3 rfl) ?_
    refine va_get (D := (dC, dI)) (ci := 3) (v := .int oS_side) (C := RPo) (T := TPo) (N := 6) hx hb hB inPo hown hK hP 0 rfl rfl 1 (by decide) (hB _ q1_83) (fun _ h9 => h9) rfl dPo_keepsKingSafe_65 ?_
    refine ro_gol (va_runVN (C := "ChessRules$Board") (As := [.int 6, .int oS_side]) (rest := []) ⟨hx, hb, hml, hown, hB⟩ (c_Bo_setOf l dC dI cI cJ cC ad o_board o_board_men o_board_sets oS_board.1 oS_board.2 6 oS_side) ⟨va_cnB 2 hB (big_self q2_112) rfl rfl rfl (hG.1 _ q2_197) (hB _ q1_5) (by decide +kernel) ⟨Nat.le_of_ble_eq_true rfl, Nat.le_of_ble_eq_true rfl⟩, (hB _ q2_111), (hB _ qs2_1)⟩ (ro_preV (GS_ok ad) hK hP hG hS [1, 2, 3] rfl (va_recv hK hP (ci := 0) (q0 := 1) rfl rfl)) rfl rfl hl.1 rfl (lv_room (Nat.le_of_ble_eq_true rfl)) dPo_keepsKingSafe_68 ⟨Nat.le_of_ble_eq_true rfl, Nat.le_of_ble_eq_true rfl⟩) ?_
    exact J_71 (f_Bo_setOf oS_board.2 6 oS_side) (by rw [f_Po_keepsKingSafe_eq, if_neg c_2] <;> rfl) ls (lv_sub hl [3, 1, 0] rfl)
  · refine lv_lconst (v := 1) hx hb dPo_keepsKingSafe_52 (by decide) ?_
    refine lv_iload_n hx hb dPo_keepsKingSafe_53 rfl (lv_at hl 5 rfl) ?_
    refine lv_lshl (v := shl64 1 to) hx hb dPo_keepsKingSafe_54 rfl ?_
    refine lv_goto (tgt := 71) hx hb dPo_keepsKingSafe_55 (by decide) ?_
    exact J_71 (shl64 1 to) (by rw [f_Po_keepsKingSafe_eq, if_pos c_2] <;> rfl) ls (lv_sub hl [3, 1, 0] rfl)

abbrev cPo_passedThatCounts : ByteArray := prog_5_method_10_code
def yPo_passedThatCounts : MethodName := ⟨"ChessRules$Position", "passedThatCounts", "()I"⟩
def wsPo_passedThatCounts : List Cond := Cond.code yPo_passedThatCounts cPo_passedThatCounts 4 (some .int) :: BIG
theorem dPo_passedThatCounts_0 : decode cPo_passedThatCounts 0 = .ok (.aload_n 0, 1) := by decide +kernel
theorem dPo_passedThatCounts_1 : decode cPo_passedThatCounts 1 = .ok (.invokevirtual 60, 3) := by decide +kernel
theorem dPo_passedThatCounts_4 : decode cPo_passedThatCounts 4 = .ok (.lstore_n 1, 1) := by decide +kernel
theorem dPo_passedThatCounts_5 : decode cPo_passedThatCounts 5 = .ok (.iconst 0, 1) := by decide +kernel
theorem dPo_passedThatCounts_6 : decode cPo_passedThatCounts 6 = .ok (.istore_n 3, 1) := by decide +kernel
theorem dPo_passedThatCounts_7 : decode cPo_passedThatCounts 7 = .ok (.iload_n 3, 1) := by decide +kernel
theorem dPo_passedThatCounts_8 : decode cPo_passedThatCounts 8 = .ok (.iconst 2, 1) := by decide +kernel
theorem dPo_passedThatCounts_9 : decode cPo_passedThatCounts 9 = .ok (.if_icmp .ge 41, 3) := by decide +kernel
theorem dPo_passedThatCounts_12 : decode cPo_passedThatCounts 12 = .ok (.lload_n 1, 1) := by decide +kernel
theorem dPo_passedThatCounts_13 : decode cPo_passedThatCounts 13 = .ok (.lconst 0, 1) := by decide +kernel
theorem dPo_passedThatCounts_14 : decode cPo_passedThatCounts 14 = .ok (.lcmp, 1) := by decide +kernel
theorem dPo_passedThatCounts_15 : decode cPo_passedThatCounts 15 = .ok (.ifCond .eq 35, 3) := by decide +kernel
theorem dPo_passedThatCounts_18 : decode cPo_passedThatCounts 18 = .ok (.aload_n 0, 1) := by decide +kernel
theorem dPo_passedThatCounts_19 : decode cPo_passedThatCounts 19 = .ok (.lload_n 1, 1) := by decide +kernel
theorem dPo_passedThatCounts_20 : decode cPo_passedThatCounts 20 = .ok (.invokestatic 63, 3) := by decide +kernel
theorem dPo_passedThatCounts_23 : decode cPo_passedThatCounts 23 = .ok (.aload_n 0, 1) := by decide +kernel
theorem dPo_passedThatCounts_24 : decode cPo_passedThatCounts 24 = .ok (.getfield 25, 3) := by decide +kernel
theorem dPo_passedThatCounts_27 : decode cPo_passedThatCounts 27 = .ok (.invokevirtual 67, 3) := by decide +kernel
theorem dPo_passedThatCounts_30 : decode cPo_passedThatCounts 30 = .ok (.ifCond .eq 8, 3) := by decide +kernel
theorem dPo_passedThatCounts_33 : decode cPo_passedThatCounts 33 = .ok (.aload_n 0, 1) := by decide +kernel
theorem dPo_passedThatCounts_34 : decode cPo_passedThatCounts 34 = .ok (.getfield 25, 3) := by decide +kernel
theorem dPo_passedThatCounts_37 : decode cPo_passedThatCounts 37 = .ok (.ireturn, 1) := by decide +kernel
theorem dPo_passedThatCounts_38 : decode cPo_passedThatCounts 38 = .ok (.lload_n 1, 1) := by decide +kernel
theorem dPo_passedThatCounts_39 : decode cPo_passedThatCounts 39 = .ok (.lload_n 1, 1) := by decide +kernel
theorem dPo_passedThatCounts_40 : decode cPo_passedThatCounts 40 = .ok (.lconst 1, 1) := by decide +kernel
theorem dPo_passedThatCounts_41 : decode cPo_passedThatCounts 41 = .ok (.lsub, 1) := by decide +kernel
theorem dPo_passedThatCounts_42 : decode cPo_passedThatCounts 42 = .ok (.land, 1) := by decide +kernel
theorem dPo_passedThatCounts_43 : decode cPo_passedThatCounts 43 = .ok (.lstore_n 1, 1) := by decide +kernel
theorem dPo_passedThatCounts_44 : decode cPo_passedThatCounts 44 = .ok (.iinc 3 1, 3) := by decide +kernel
theorem dPo_passedThatCounts_47 : decode cPo_passedThatCounts 47 = .ok (.goto (-40), 3) := by decide +kernel
theorem dPo_passedThatCounts_50 : decode cPo_passedThatCounts 50 = .ok (.iconst (-1), 1) := by decide +kernel
theorem dPo_passedThatCounts_51 : decode cPo_passedThatCounts 51 = .ok (.ireturn, 1) := by decide +kernel

def f_Po_passedThatCounts_7 (oS_board : St_Bo) (oS_side : Int32) (oS_passed : Int32) : Nat → Int64 → Int32 → Int32
  | 0 => fun _ _ => 0
  | n_7 + 1 => fun v1_7 v3_7 => (if 2 ≤ v3_7 then (-1) else (if v1_7 = 0 then (-1) else (if (f_Po_keepsKingSafe oS_board oS_side oS_passed (f_Ch_lowestSquare v1_7) oS_passed) = 0 then (f_Po_passedThatCounts_7 oS_board oS_side oS_passed n_7) (v1_7 &&& (v1_7 - 1)) (v3_7 + 1) else oS_passed)))
theorem f_Po_passedThatCounts_7_eq (oS_board : St_Bo) (oS_side : Int32) (oS_passed : Int32) (n_7 : Nat) (v1_7 : Int64) (v3_7 : Int32) : f_Po_passedThatCounts_7 oS_board oS_side oS_passed (n_7 + 1) v1_7 v3_7 =
  (if 2 ≤ v3_7 then (-1) else (if v1_7 = 0 then (-1) else (if (f_Po_keepsKingSafe oS_board oS_side oS_passed (f_Ch_lowestSquare v1_7) oS_passed) = 0 then (f_Po_passedThatCounts_7 oS_board oS_side oS_passed n_7) (v1_7 &&& (v1_7 - 1)) (v3_7 + 1) else oS_passed))) := rfl

def f_Po_passedThatCounts (oS_board : St_Bo) (oS_side : Int32) (oS_passed : Int32) : Int32 :=
  f_Po_passedThatCounts_7 oS_board oS_side oS_passed (3) (f_Po_pawnsThatAttackPassed oS_board oS_side oS_passed) 0
theorem f_Po_passedThatCounts_eq (oS_board : St_Bo) (oS_side : Int32) (oS_passed : Int32) : f_Po_passedThatCounts oS_board oS_side oS_passed =
  f_Po_passedThatCounts_7 oS_board oS_side oS_passed (3) (f_Po_pawnsThatAttackPassed oS_board oS_side oS_passed) 0 := rfl

set_option maxHeartbeats 4000000 in
set_option maxRecDepth 100000 in
theorem c_Po_passedThatCounts (l : Launch) (dC : Nat → ClassId) (dI : Nat → Nat → Nat) (cI cJ cC : ClassId) (ad : Nat → Nat) (o o_board o_board_men o_board_sets : Nat) (oS_board : St_Bo) (oS_side : Int32) (oS_rights : Int32) (oS_passed : Int32) (oS_clock : Int32) (oS_number : Int32) : Met l yPo_passedThatCounts wsPo_passedThatCounts { frames := 3, cells := 0, slots := 0, locals := 93 } (roP dC dI (TYS cI cJ cC) [.ref o] [(o, .inr (3, [.ref o_board, .int oS_side, .int oS_rights, .int oS_passed, .int oS_clock, .int oS_number])), (o_board, .inr (0, [.ref o_board_men, .ref o_board_sets])), (o_board_men, .inl (cI, 64, .inl oS_board.1)), (o_board_sets, .inl (cJ, 16, .inr (.inl oS_board.2)))] (GS ad)) (vp_Si (fun r => r = f_Po_passedThatCounts oS_board oS_side oS_passed)) 0 0 (fun _ => False) := by
  refine Met.ofW (cc := cPo_passedThatCounts) (maxL := 4) (ret := (some .int)) (by decide) rfl ?_
  intro p e s m args below meth c s₁ B hml hv
  obtain ⟨rfl, hP, hK, hG⟩ := hv
  have hx := B.exec
  have hb := B.bytes
  have hr := B.returns
  have hB : ∀ w9 ∈ BIG, w9.before ([.ref o]).toArray s = true := fun w9 h => atoms_spec (ws := wsPo_passedThatCounts) B.pre w9 (List.mem_cons_of_mem _ h)
  have hown : s.vm.findClass "ChessRules$Position" = some m.cls := findClass_of_methodNamed B.named
  have hlocks := B.notSynchronized
  have hS : va_S (fun _ => False) s.heap s.heap [] := va_S.rf
  have hP : va_P (dC, dI) vwCl [(o, .inr (3, [.ref o_board, .int oS_side, .int oS_rights, .int oS_passed, .int oS_clock, .int oS_number])), (o_board, .inr (0, [.ref o_board_men, .ref o_board_sets])), (o_board_men, .inl (cI, 64, .inl oS_board.1)), (o_board_sets, .inl (cJ, 16, .inr (.inl oS_board.2)))] s.heap := hP
  have hl := lv_entry ([.ref o]) (n := 4) (Nat.le_of_ble_eq_true rfl)
  rw [lg_entry_eq]
  generalize (lg_sl ([.ref o]) ++ List.replicate (4 - (lg_sl ([.ref o])).length) Slot.unset).toArray = ls at hl ⊢
  have hl : lv_has ls 4 [(0, .ref o)] := hl
  refine lv_aload_n hx hb dPo_passedThatCounts_0 rfl (lv_at hl 0 rfl) ?_
  refine ro_gol (va_runV (C := "ChessRules$Position") (As := []) (rest := []) ⟨hx, hb, hml, hown, hB⟩ (c_Po_pawnsThatAttackPassed l dC dI cI cJ cC ad o o_board o_board_men o_board_sets oS_board oS_side oS_rights oS_passed oS_clock oS_number) ⟨callB_of 0 hB (big_self q2_191) rfl rfl rfl (hB _ q1_4) (hB _ q2_215) (by decide +kernel) ⟨Nat.le_of_ble_eq_true rfl, Nat.le_of_ble_eq_true rfl⟩, (hB _ q2_190), (hB _ qs2_11)⟩ (ro_preV (GS_ok ad) hK hP hG hS [0, 1, 2, 3] rfl (va_recv hK hP (ci := 3) (q0 := 0) rfl rfl)) rfl rfl hl.1 rfl (lv_room (Nat.le_of_ble_eq_true rfl)) dPo_passedThatCounts_1 ⟨Nat.le_of_ble_eq_true rfl, Nat.le_of_ble_eq_true rfl⟩) ?_
  refine lv_lstore_n (lv' := [(1, .long (f_Po_pawnsThatAttackPassed oS_board oS_side oS_passed)), (0, .ref o)]) hx hb dPo_passedThatCounts_4 rfl hl (by decide) rfl (fun ls hl => ?_)
  refine lv_iconst (v := 0) hx hb dPo_passedThatCounts_5 (by decide) ?_
  refine lv_istore_n (lv' := [(3, .int 0), (1, .long (f_Po_pawnsThatAttackPassed oS_board oS_side oS_passed)), (0, .ref o)]) hx hb dPo_passedThatCounts_6 rfl hl (by decide) rfl (fun ls hl => ?_)
  have J_7 : ∀ (n_7 : Nat) (v1_7 : Int64) (v3_7 : Int32), f_Po_passedThatCounts oS_board oS_side oS_passed = f_Po_passedThatCounts_7 oS_board oS_side oS_passed n_7 v1_7 v3_7 → ((0 : Int) ≤ v3_7.toInt ∧ (2 : Int32).toInt - v3_7.toInt + 1 ≤ (n_7 : Int) ∧ (1 : Int) ≤ (n_7 : Int)) → ∀ ls : Array Slot, lv_has ls 4 [(0, .ref o), (1, .long v1_7), (3, .int v3_7)] → W p l e (headSpec wsPo_passedThatCounts { frames := 3, cells := 0, slots := 0, locals := 93 }).room s m ([.ref o]).toArray below meth c s.heap [] 0 0 (MQ below (vp_Si (fun r => r = f_Po_passedThatCounts oS_board oS_side oS_passed)) ([.ref o]).toArray s 0 0 (fun _ => False)) (F0 m 7 ls []) := by
    intro n_7
    induction n_7 with
    | zero => intro v1_7 v3_7 _ hm_7; exact absurd hm_7 (by omega)
    | succ n_7 ih_7 =>
      intro v1_7 v3_7 he_7 hm_7 ls hl
      refine lv_iload_n hx hb dPo_passedThatCounts_7 rfl (lv_at hl 2 rfl) ?_
      refine lv_iconst (v := 2) hx hb dPo_passedThatCounts_8 (by decide) ?_
      refine lv_icmp_ge (tgt := 50) hx hb dPo_passedThatCounts_9 (by decide) (fun c_1 => ?_) (fun c_1 => ?_)
      · refine lv_iconst (v := (-1)) hx hb dPo_passedThatCounts_50 (by decide) ?_
        exact ro_reti hx hb hr hlocks dPo_passedThatCounts_51 (Eq.symm (he_7.trans (by rw [f_Po_passedThatCounts_7_eq, if_pos c_1] <;> rfl)))
      · refine lv_lload_n hx hb dPo_passedThatCounts_12 rfl (lv_at hl 1 rfl) ?_
        refine lv_lconst (v := 0) hx hb dPo_passedThatCounts_13 (by decide) ?_
        refine W.lcmp hx hb dPo_passedThatCounts_14 ?_
        refine lv_if_eq (tgt := 50) hx hb dPo_passedThatCounts_15 (by decide) (fun q => let_c (h := v1_7 = 0) (lgc_eq.1 q) (fun c_2 => ?_)) (fun q => let_c (h := ¬ v1_7 = 0) (lgc_eq.2 q) (fun c_2 => ?_))
        · refine lv_iconst (v := (-1)) hx hb dPo_passedThatCounts_50 (by decide) ?_
          exact ro_reti hx hb hr hlocks dPo_passedThatCounts_51 (Eq.symm (he_7.trans (by rw [f_Po_passedThatCounts_7_eq, if_neg c_1, if_pos c_2] <;> rfl)))
        · refine lv_aload_n hx hb dPo_passedThatCounts_18 rfl (lv_at hl 0 rfl) ?_
          refine lv_lload_n hx hb dPo_passedThatCounts_19 rfl (lv_at hl 1 rfl) ?_
          refine ro_goi (va_runSN (As := [.long v1_7]) (rest := [.ref o]) ⟨hx, hb, hml, hown, hB⟩ (c_Ch_lowestSquare l dC dI cI cJ cC ad v1_7) ⟨va_cnB 1 hB (big_self q2_218) rfl rfl rfl (hG.1 _ q2_216) (hB _ q1_1) (by decide +kernel) ⟨Nat.le_of_ble_eq_true rfl, Nat.le_of_ble_eq_true rfl⟩, (hB _ q2_217), trivial⟩ (ro_preS (GS_ok ad) hK hP hG hS [] rfl) rfl rfl hl.1 rfl (lv_room (Nat.le_of_ble_eq_true rfl)) dPo_passedThatCounts_20 ⟨Nat.le_of_ble_eq_true rfl, Nat.le_of_ble_eq_true rfl⟩) ?_
          refine lv_aload_n hx hb dPo_passedThatCounts_23 rfl (lv_at hl 0 rfl) ?_
          refine va_get (D := (dC, dI)) (ci := 3) (v := .int oS_passed) (C := RPo) (T := TPo) (N := 6) hx hb hB inPo hown hK hP 0 rfl rfl 3 (by decide) (hB _ q1_94) (fun _ h9 => h9) rfl dPo_passedThatCounts_24 ?_
          refine ro_goi (va_runV (C := "ChessRules$Position") (As := [.int (f_Ch_lowestSquare v1_7), .int oS_passed]) (rest := []) ⟨hx, hb, hml, hown, hB⟩ (c_Po_keepsKingSafe l dC dI cI cJ cC ad o o_board o_board_men o_board_sets oS_board oS_side oS_rights oS_passed oS_clock oS_number (f_Ch_lowestSquare v1_7) oS_passed) ⟨callB_of 2 hB (big_self q2_223) rfl rfl rfl (hB _ q1_4) (hB _ q2_220) (by decide +kernel) ⟨Nat.le_of_ble_eq_true rfl, Nat.le_of_ble_eq_true rfl⟩, (hB _ q2_222), (hB _ qs3_1)⟩ (ro_preV (GS_ok ad) hK hP hG hS [0, 1, 2, 3] rfl (va_recv hK hP (ci := 3) (q0 := 0) rfl rfl)) rfl rfl hl.1 rfl (lv_room (Nat.le_of_ble_eq_true rfl)) dPo_passedThatCounts_27 ⟨Nat.le_of_ble_eq_true rfl, Nat.le_of_ble_eq_true rfl⟩) ?_
          refine lv_if_eq (tgt := 38) hx hb dPo_passedThatCounts_30 (by decide) (fun c_3 => ?_) (fun c_3 => ?_)
          · refine lv_lload_n hx hb dPo_passedThatCounts_38 rfl (lv_at hl 1 rfl) ?_
            refine lv_lload_n hx hb dPo_passedThatCounts_39 rfl (lv_at hl 1 rfl) ?_
            refine lv_lconst (v := 1) hx hb dPo_passedThatCounts_40 (by decide) ?_
            refine lv_lsub hx hb dPo_passedThatCounts_41 ?_
            refine lv_land hx hb dPo_passedThatCounts_42 ?_
            refine lv_lstore_n (lv' := [(1, .long (v1_7 &&& (v1_7 - 1))), (0, .ref o), (3, .int v3_7)]) hx hb dPo_passedThatCounts_43 rfl hl (by decide) rfl (fun ls hl => ?_)
            refine lv_iinc (v := v3_7 + 1) (lv' := [(3, .int (v3_7 + 1)), (1, .long (v1_7 &&& (v1_7 - 1))), (0, .ref o)]) hx hb dPo_passedThatCounts_44 hl (k := 2) rfl rfl (by decide) rfl (fun ls hl => ?_)
            refine lv_goto (tgt := 7) hx hb dPo_passedThatCounts_47 (by decide) ?_
            exact ih_7 (v1_7 &&& (v1_7 - 1)) (v3_7 + 1) (he_7.trans (by rw [f_Po_passedThatCounts_7_eq, if_neg c_1, if_neg c_2, if_pos c_3] <;> rfl)) (by have z1 := tnle c_1; have z3 := teq c_3; have y0 : (0 : Int32).toInt = 0 := rfl; have y2 : (2 : Int32).toInt = 2 := rfl; have zr := i_rng (2 : Int32); have zs := i_succ9 v3_7 (by omega); omega) ls (lv_sub hl [2, 1, 0] rfl)
          · refine lv_aload_n hx hb dPo_passedThatCounts_33 rfl (lv_at hl 0 rfl) ?_
            refine va_get (D := (dC, dI)) (ci := 3) (v := .int oS_passed) (C := RPo) (T := TPo) (N := 6) hx hb hB inPo hown hK hP 0 rfl rfl 3 (by decide) (hB _ q1_94) (fun _ h9 => h9) rfl dPo_passedThatCounts_34 ?_
            exact ro_reti hx hb hr hlocks dPo_passedThatCounts_37 (Eq.symm (he_7.trans (by rw [f_Po_passedThatCounts_7_eq, if_neg c_1, if_neg c_2, if_neg c_3] <;> rfl)))
  exact J_7 (3) (f_Po_pawnsThatAttackPassed oS_board oS_side oS_passed) 0 (by rw [f_Po_passedThatCounts_eq] <;> rfl) (by decide) ls (lv_sub hl [2, 1, 0] rfl)

abbrev cPo_pawnTargets : ByteArray := prog_5_method_12_code
def yPo_pawnTargets : MethodName := ⟨"ChessRules$Position", "pawnTargets", "(J)J"⟩
def wsPo_pawnTargets : List Cond := Cond.code yPo_pawnTargets cPo_pawnTargets 11 (some .long) :: BIG
theorem dPo_pawnTargets_0 : decode cPo_pawnTargets 0 = .ok (.aload_n 0, 1) := by decide +kernel
theorem dPo_pawnTargets_1 : decode cPo_pawnTargets 1 = .ok (.getfield 18, 3) := by decide +kernel
theorem dPo_pawnTargets_4 : decode cPo_pawnTargets 4 = .ok (.ifCond .ne 9, 3) := by decide +kernel
theorem dPo_pawnTargets_7 : decode cPo_pawnTargets 7 = .ok (.ldc2_w 94, 3) := by decide +kernel
theorem dPo_pawnTargets_10 : decode cPo_pawnTargets 10 = .ok (.goto 6, 3) := by decide +kernel
theorem dPo_pawnTargets_13 : decode cPo_pawnTargets 13 = .ok (.ldc2_w 96, 3) := by decide +kernel
theorem dPo_pawnTargets_16 : decode cPo_pawnTargets 16 = .ok (.lstore_n 3, 1) := by decide +kernel
theorem dPo_pawnTargets_17 : decode cPo_pawnTargets 17 = .ok (.lload_n 1, 1) := by decide +kernel
theorem dPo_pawnTargets_18 : decode cPo_pawnTargets 18 = .ok (.aload_n 0, 1) := by decide +kernel
theorem dPo_pawnTargets_19 : decode cPo_pawnTargets 19 = .ok (.getfield 18, 3) := by decide +kernel
theorem dPo_pawnTargets_22 : decode cPo_pawnTargets 22 = .ok (.invokestatic 98, 3) := by decide +kernel
theorem dPo_pawnTargets_25 : decode cPo_pawnTargets 25 = .ok (.aload_n 0, 1) := by decide +kernel
theorem dPo_pawnTargets_26 : decode cPo_pawnTargets 26 = .ok (.getfield 12, 3) := by decide +kernel
theorem dPo_pawnTargets_29 : decode cPo_pawnTargets 29 = .ok (.invokevirtual 87, 3) := by decide +kernel
theorem dPo_pawnTargets_32 : decode cPo_pawnTargets 32 = .ok (.land, 1) := by decide +kernel
theorem dPo_pawnTargets_33 : decode cPo_pawnTargets 33 = .ok (.lstore 5, 2) := by decide +kernel
theorem dPo_pawnTargets_35 : decode cPo_pawnTargets 35 = .ok (.lload 5, 2) := by decide +kernel
theorem dPo_pawnTargets_37 : decode cPo_pawnTargets 37 = .ok (.lload_n 3, 1) := by decide +kernel
theorem dPo_pawnTargets_38 : decode cPo_pawnTargets 38 = .ok (.land, 1) := by decide +kernel
theorem dPo_pawnTargets_39 : decode cPo_pawnTargets 39 = .ok (.aload_n 0, 1) := by decide +kernel
theorem dPo_pawnTargets_40 : decode cPo_pawnTargets 40 = .ok (.getfield 18, 3) := by decide +kernel
theorem dPo_pawnTargets_43 : decode cPo_pawnTargets 43 = .ok (.invokestatic 98, 3) := by decide +kernel
theorem dPo_pawnTargets_46 : decode cPo_pawnTargets 46 = .ok (.aload_n 0, 1) := by decide +kernel
theorem dPo_pawnTargets_47 : decode cPo_pawnTargets 47 = .ok (.getfield 12, 3) := by decide +kernel
theorem dPo_pawnTargets_50 : decode cPo_pawnTargets 50 = .ok (.invokevirtual 87, 3) := by decide +kernel
theorem dPo_pawnTargets_53 : decode cPo_pawnTargets 53 = .ok (.land, 1) := by decide +kernel
theorem dPo_pawnTargets_54 : decode cPo_pawnTargets 54 = .ok (.lstore 7, 2) := by decide +kernel
theorem dPo_pawnTargets_56 : decode cPo_pawnTargets 56 = .ok (.lload_n 1, 1) := by decide +kernel
theorem dPo_pawnTargets_57 : decode cPo_pawnTargets 57 = .ok (.aload_n 0, 1) := by decide +kernel
theorem dPo_pawnTargets_58 : decode cPo_pawnTargets 58 = .ok (.getfield 18, 3) := by decide +kernel
theorem dPo_pawnTargets_61 : decode cPo_pawnTargets 61 = .ok (.invokestatic 50, 3) := by decide +kernel
theorem dPo_pawnTargets_64 : decode cPo_pawnTargets 64 = .ok (.aload_n 0, 1) := by decide +kernel
theorem dPo_pawnTargets_65 : decode cPo_pawnTargets 65 = .ok (.getfield 12, 3) := by decide +kernel
theorem dPo_pawnTargets_68 : decode cPo_pawnTargets 68 = .ok (.iconst 1, 1) := by decide +kernel
theorem dPo_pawnTargets_69 : decode cPo_pawnTargets 69 = .ok (.aload_n 0, 1) := by decide +kernel
theorem dPo_pawnTargets_70 : decode cPo_pawnTargets 70 = .ok (.getfield 18, 3) := by decide +kernel
theorem dPo_pawnTargets_73 : decode cPo_pawnTargets 73 = .ok (.isub, 1) := by decide +kernel
theorem dPo_pawnTargets_74 : decode cPo_pawnTargets 74 = .ok (.invokevirtual 78, 3) := by decide +kernel
theorem dPo_pawnTargets_77 : decode cPo_pawnTargets 77 = .ok (.aload_n 0, 1) := by decide +kernel
theorem dPo_pawnTargets_78 : decode cPo_pawnTargets 78 = .ok (.invokevirtual 46, 3) := by decide +kernel
theorem dPo_pawnTargets_81 : decode cPo_pawnTargets 81 = .ok (.lor, 1) := by decide +kernel
theorem dPo_pawnTargets_82 : decode cPo_pawnTargets 82 = .ok (.land, 1) := by decide +kernel
theorem dPo_pawnTargets_83 : decode cPo_pawnTargets 83 = .ok (.lstore 9, 2) := by decide +kernel
theorem dPo_pawnTargets_85 : decode cPo_pawnTargets 85 = .ok (.lload 5, 2) := by decide +kernel
theorem dPo_pawnTargets_87 : decode cPo_pawnTargets 87 = .ok (.lload 7, 2) := by decide +kernel
theorem dPo_pawnTargets_89 : decode cPo_pawnTargets 89 = .ok (.lor, 1) := by decide +kernel
theorem dPo_pawnTargets_90 : decode cPo_pawnTargets 90 = .ok (.lload 9, 2) := by decide +kernel
theorem dPo_pawnTargets_92 : decode cPo_pawnTargets 92 = .ok (.lor, 1) := by decide +kernel
theorem dPo_pawnTargets_93 : decode cPo_pawnTargets 93 = .ok (.lreturn, 1) := by decide +kernel

def f_Po_pawnTargets_16 (oS_board : St_Bo) (oS_side : Int32) (oS_passed : Int32) (fr : Int64) (k0_16 : Int64) : Int64 :=
  (((f_Ra_ahead fr oS_side) &&& (f_Bo_empty oS_board.2)) ||| ((f_Ra_ahead (((f_Ra_ahead fr oS_side) &&& (f_Bo_empty oS_board.2)) &&& k0_16) oS_side) &&& (f_Bo_empty oS_board.2))) ||| ((f_Ra_byPawn fr oS_side) &&& ((f_Bo_allOf oS_board.2 (1 - oS_side)) ||| (f_Po_passedSet oS_passed)))
theorem f_Po_pawnTargets_16_eq (oS_board : St_Bo) (oS_side : Int32) (oS_passed : Int32) (fr : Int64) (k0_16 : Int64) : f_Po_pawnTargets_16 oS_board oS_side oS_passed fr k0_16 =
  (((f_Ra_ahead fr oS_side) &&& (f_Bo_empty oS_board.2)) ||| ((f_Ra_ahead (((f_Ra_ahead fr oS_side) &&& (f_Bo_empty oS_board.2)) &&& k0_16) oS_side) &&& (f_Bo_empty oS_board.2))) ||| ((f_Ra_byPawn fr oS_side) &&& ((f_Bo_allOf oS_board.2 (1 - oS_side)) ||| (f_Po_passedSet oS_passed))) := rfl

def f_Po_pawnTargets (oS_board : St_Bo) (oS_side : Int32) (oS_passed : Int32) (fr : Int64) : Int64 :=
  (if oS_side = 0 then f_Po_pawnTargets_16 oS_board oS_side oS_passed fr 16711680 else f_Po_pawnTargets_16 oS_board oS_side oS_passed fr 280375465082880)
theorem f_Po_pawnTargets_eq (oS_board : St_Bo) (oS_side : Int32) (oS_passed : Int32) (fr : Int64) : f_Po_pawnTargets oS_board oS_side oS_passed fr =
  (if oS_side = 0 then f_Po_pawnTargets_16 oS_board oS_side oS_passed fr 16711680 else f_Po_pawnTargets_16 oS_board oS_side oS_passed fr 280375465082880) := rfl

set_option maxHeartbeats 4000000 in
set_option maxRecDepth 100000 in
theorem c_Po_pawnTargets (l : Launch) (dC : Nat → ClassId) (dI : Nat → Nat → Nat) (cI cJ cC : ClassId) (ad : Nat → Nat) (o o_board o_board_men o_board_sets : Nat) (oS_board : St_Bo) (oS_side : Int32) (oS_rights : Int32) (oS_passed : Int32) (oS_clock : Int32) (oS_number : Int32) (fr : Int64) : Met l yPo_pawnTargets wsPo_pawnTargets { frames := 1, cells := 0, slots := 0, locals := 24 } (roP dC dI (TYS cI cJ cC) [.ref o, .long fr] [(o, .inr (3, [.ref o_board, .int oS_side, .int oS_rights, .int oS_passed, .int oS_clock, .int oS_number])), (o_board, .inr (0, [.ref o_board_men, .ref o_board_sets])), (o_board_men, .inl (cI, 64, .inl oS_board.1)), (o_board_sets, .inl (cJ, 16, .inr (.inl oS_board.2)))] (GS ad)) (vp_Sl (fun r => r = f_Po_pawnTargets oS_board oS_side oS_passed fr)) 0 0 (fun _ => False) := by
  refine Met.ofW (cc := cPo_pawnTargets) (maxL := 11) (ret := (some .long)) (by decide) rfl ?_
  intro p e s m args below meth c s₁ B hml hv
  obtain ⟨rfl, hP, hK, hG⟩ := hv
  have hx := B.exec
  have hb := B.bytes
  have hr := B.returns
  have hB : ∀ w9 ∈ BIG, w9.before ([.ref o, .long fr]).toArray s = true := fun w9 h => atoms_spec (ws := wsPo_pawnTargets) B.pre w9 (List.mem_cons_of_mem _ h)
  have hown : s.vm.findClass "ChessRules$Position" = some m.cls := findClass_of_methodNamed B.named
  have hlocks := B.notSynchronized
  have hS : va_S (fun _ => False) s.heap s.heap [] := va_S.rf
  have hP : va_P (dC, dI) vwCl [(o, .inr (3, [.ref o_board, .int oS_side, .int oS_rights, .int oS_passed, .int oS_clock, .int oS_number])), (o_board, .inr (0, [.ref o_board_men, .ref o_board_sets])), (o_board_men, .inl (cI, 64, .inl oS_board.1)), (o_board_sets, .inl (cJ, 16, .inr (.inl oS_board.2)))] s.heap := hP
  have hl := lv_entry ([.ref o, .long fr]) (n := 11) (Nat.le_of_ble_eq_true rfl)
  rw [lg_entry_eq]
  generalize (lg_sl ([.ref o, .long fr]) ++ List.replicate (11 - (lg_sl ([.ref o, .long fr])).length) Slot.unset).toArray = ls at hl ⊢
  have hl : lv_has ls 11 [(0, .ref o), (1, .long fr)] := hl
  refine lv_aload_n hx hb dPo_pawnTargets_0 rfl (lv_at hl 0 rfl) ?_
  refine va_get (D := (dC, dI)) (ci := 3) (v := .int oS_side) (C := RPo) (T := TPo) (N := 6) hx hb hB inPo hown hK hP 0 rfl rfl 1 (by decide) (hB _ q1_83) (fun _ h9 => h9) rfl dPo_pawnTargets_1 ?_
  have J_16 : ∀ (k0_16 : Int64), f_Po_pawnTargets oS_board oS_side oS_passed fr = f_Po_pawnTargets_16 oS_board oS_side oS_passed fr k0_16 → ∀ ls : Array Slot, lv_has ls 11 [(0, .ref o), (1, .long fr)] → W p l e (headSpec wsPo_pawnTargets { frames := 1, cells := 0, slots := 0, locals := 24 }).room s m ([.ref o, .long fr]).toArray below meth c s.heap [] 0 0 (MQ below (vp_Sl (fun r => r = f_Po_pawnTargets oS_board oS_side oS_passed fr)) ([.ref o, .long fr]).toArray s 0 0 (fun _ => False)) (F0 m 16 ls [.long k0_16]) := by
    intro k0_16 he_16 ls hl
    refine lv_lstore_n (lv' := [(3, .long k0_16), (0, .ref o), (1, .long fr)]) hx hb dPo_pawnTargets_16 rfl hl (by decide) rfl (fun ls hl => ?_)
    refine lv_lload_n hx hb dPo_pawnTargets_17 rfl (lv_at hl 2 rfl) ?_
    refine lv_aload_n hx hb dPo_pawnTargets_18 rfl (lv_at hl 1 rfl) ?_
    refine va_get (D := (dC, dI)) (ci := 3) (v := .int oS_side) (C := RPo) (T := TPo) (N := 6) hx hb hB inPo hown hK hP 0 rfl rfl 1 (by decide) (hB _ q1_83) (fun _ h9 => h9) rfl dPo_pawnTargets_19 ?_
    refine ro_gol (va_runSN (As := [.long fr, .int oS_side]) (rest := []) ⟨hx, hb, hml, hown, hB⟩ (c_Ra_ahead l dC dI cI cJ cC ad fr oS_side) ⟨va_cnB 2 hB (big_self q3_105) rfl rfl rfl (hG.1 _ q3_103) (hB _ q1_14) (by decide +kernel) ⟨Nat.le_of_ble_eq_true rfl, Nat.le_of_ble_eq_true rfl⟩, (hB _ q3_104), trivial⟩ (ro_preS (GS_ok ad) hK hP hG hS [] rfl) rfl rfl hl.1 rfl (lv_room (Nat.le_of_ble_eq_true rfl)) dPo_pawnTargets_22 ⟨Nat.le_of_ble_eq_true rfl, Nat.le_of_ble_eq_true rfl⟩) ?_
    refine lv_aload_n hx hb dPo_pawnTargets_25 rfl (lv_at hl 1 rfl) ?_
    refine va_get (D := (dC, dI)) (ci := 3) (v := .ref o_board) (C := RPo) (T := TPo) (N := 6) hx hb hB inPo hown hK hP 0 rfl rfl 0 (by decide) (hB _ q1_77) (fun _ h9 => h9) rfl dPo_pawnTargets_26 ?_
    refine ro_gol (va_runVN (C := "ChessRules$Board") (As := []) (rest := [.long (f_Ra_ahead fr oS_side)]) ⟨hx, hb, hml, hown, hB⟩ (c_Bo_empty l dC dI cI cJ cC ad o_board o_board_men o_board_sets oS_board.1 oS_board.2) ⟨va_cnB 0 hB (big_self q2_132) rfl rfl rfl (hG.1 _ q2_229) (hB _ q1_5) (by decide +kernel) ⟨Nat.le_of_ble_eq_true rfl, Nat.le_of_ble_eq_true rfl⟩, (hB _ q2_131), (hB _ qs2_4)⟩ (ro_preV (GS_ok ad) hK hP hG hS [1, 2, 3] rfl (va_recv hK hP (ci := 0) (q0 := 1) rfl rfl)) rfl rfl hl.1 rfl (lv_room (Nat.le_of_ble_eq_true rfl)) dPo_pawnTargets_29 ⟨Nat.le_of_ble_eq_true rfl, Nat.le_of_ble_eq_true rfl⟩) ?_
    refine lv_land hx hb dPo_pawnTargets_32 ?_
    refine lv_lstore (lv' := [(5, .long ((f_Ra_ahead fr oS_side) &&& (f_Bo_empty oS_board.2))), (3, .long k0_16), (0, .ref o), (1, .long fr)]) hx hb dPo_pawnTargets_33 hl (by decide) rfl (fun ls hl => ?_)
    refine lv_lload hx hb dPo_pawnTargets_35 (lv_at hl 0 rfl) ?_
    refine lv_lload_n hx hb dPo_pawnTargets_37 rfl (lv_at hl 1 rfl) ?_
    refine lv_land hx hb dPo_pawnTargets_38 ?_
    refine lv_aload_n hx hb dPo_pawnTargets_39 rfl (lv_at hl 2 rfl) ?_
    refine va_get (D := (dC, dI)) (ci := 3) (v := .int oS_side) (C := RPo) (T := TPo) (N := 6) hx hb hB inPo hown hK hP 0 rfl rfl 1 (by decide) (hB _ q1_83) (fun _ h9 => h9) rfl dPo_pawnTargets_40 ?_
    refine ro_gol (va_runSN (As := [.long (((f_Ra_ahead fr oS_side) &&& (f_Bo_empty oS_board.2)) &&& k0_16), .int oS_side]) (rest := []) ⟨hx, hb, hml, hown, hB⟩ (c_Ra_ahead l dC dI cI cJ cC ad (((f_Ra_ahead fr oS_side) &&& (f_Bo_empty oS_board.2)) &&& k0_16) oS_side) ⟨va_cnB 2 hB (big_self q3_105) rfl rfl rfl (hG.1 _ q3_103) (hB _ q1_14) (by decide +kernel) ⟨Nat.le_of_ble_eq_true rfl, Nat.le_of_ble_eq_true rfl⟩, (hB _ q3_104), trivial⟩ (ro_preS (GS_ok ad) hK hP hG hS [] rfl) rfl rfl hl.1 rfl (lv_room (Nat.le_of_ble_eq_true rfl)) dPo_pawnTargets_43 ⟨Nat.le_of_ble_eq_true rfl, Nat.le_of_ble_eq_true rfl⟩) ?_
    refine lv_aload_n hx hb dPo_pawnTargets_46 rfl (lv_at hl 2 rfl) ?_
    refine va_get (D := (dC, dI)) (ci := 3) (v := .ref o_board) (C := RPo) (T := TPo) (N := 6) hx hb hB inPo hown hK hP 0 rfl rfl 0 (by decide) (hB _ q1_77) (fun _ h9 => h9) rfl dPo_pawnTargets_47 ?_
    refine ro_gol (va_runVN (C := "ChessRules$Board") (As := []) (rest := [.long (f_Ra_ahead (((f_Ra_ahead fr oS_side) &&& (f_Bo_empty oS_board.2)) &&& k0_16) oS_side)]) ⟨hx, hb, hml, hown, hB⟩ (c_Bo_empty l dC dI cI cJ cC ad o_board o_board_men o_board_sets oS_board.1 oS_board.2) ⟨va_cnB 0 hB (big_self q2_132) rfl rfl rfl (hG.1 _ q2_229) (hB _ q1_5) (by decide +kernel) ⟨Nat.le_of_ble_eq_true rfl, Nat.le_of_ble_eq_true rfl⟩, (hB _ q2_131), (hB _ qs2_4)⟩ (ro_preV (GS_ok ad) hK hP hG hS [1, 2, 3] rfl (va_recv hK hP (ci := 0) (q0 := 1) rfl rfl)) rfl rfl hl.1 rfl (lv_room (Nat.le_of_ble_eq_true rfl)) dPo_pawnTargets_50 ⟨Nat.le_of_ble_eq_true rfl, Nat.le_of_ble_eq_true rfl⟩) ?_
    refine lv_land hx hb dPo_pawnTargets_53 ?_
    refine lv_lstore (lv' := [(7, .long ((f_Ra_ahead (((f_Ra_ahead fr oS_side) &&& (f_Bo_empty oS_board.2)) &&& k0_16) oS_side) &&& (f_Bo_empty oS_board.2))), (5, .long ((f_Ra_ahead fr oS_side) &&& (f_Bo_empty oS_board.2))), (3, .long k0_16), (0, .ref o), (1, .long fr)]) hx hb dPo_pawnTargets_54 hl (by decide) rfl (fun ls hl => ?_)
    refine lv_lload_n hx hb dPo_pawnTargets_56 rfl (lv_at hl 4 rfl) ?_
    refine lv_aload_n hx hb dPo_pawnTargets_57 rfl (lv_at hl 3 rfl) ?_
    refine va_get (D := (dC, dI)) (ci := 3) (v := .int oS_side) (C := RPo) (T := TPo) (N := 6) hx hb hB inPo hown hK hP 0 rfl rfl 1 (by decide) (hB _ q1_83) (fun _ h9 => h9) rfl dPo_pawnTargets_58 ?_
    refine ro_gol (va_runSN (As := [.long fr, .int oS_side]) (rest := []) ⟨hx, hb, hml, hown, hB⟩ (c_Ra_byPawn l dC dI cI cJ cC ad fr oS_side) ⟨va_cnB 2 hB (big_self q2_139) rfl rfl rfl (hG.1 _ q2_196) (hB _ q1_14) (by decide +kernel) ⟨Nat.le_of_ble_eq_true rfl, Nat.le_of_ble_eq_true rfl⟩, (hB _ q2_138), trivial⟩ (ro_preS (GS_ok ad) hK hP hG hS [] rfl) rfl rfl hl.1 rfl (lv_room (Nat.le_of_ble_eq_true rfl)) dPo_pawnTargets_61 ⟨Nat.le_of_ble_eq_true rfl, Nat.le_of_ble_eq_true rfl⟩) ?_
    refine lv_aload_n hx hb dPo_pawnTargets_64 rfl (lv_at hl 3 rfl) ?_
    refine va_get (D := (dC, dI)) (ci := 3) (v := .ref o_board) (C := RPo) (T := TPo) (N := 6) hx hb hB inPo hown hK hP 0 rfl rfl 0 (by decide) (hB _ q1_77) (fun _ h9 => h9) rfl dPo_pawnTargets_65 ?_
    refine lv_iconst (v := 1) hx hb dPo_pawnTargets_68 (by decide) ?_
    refine lv_aload_n hx hb dPo_pawnTargets_69 rfl (lv_at hl 3 rfl) ?_
    refine va_get (D := (dC, dI)) (ci := 3) (v := .int oS_side) (C := RPo) (T := TPo) (N := 6) hx hb hB inPo hown hK hP 0 rfl rfl 1 (by decide) (hB _ q1_83) (fun _ h9 => h9) rfl dPo_pawnTargets_70 ?_
    refine lv_isub hx hb dPo_pawnTargets_73 ?_
    refine ro_gol (va_runVN (C := "ChessRules$Board") (As := [.int (1 - oS_side)]) (rest := [.long (f_Ra_byPawn fr oS_side)]) ⟨hx, hb, hml, hown, hB⟩ (c_Bo_allOf l dC dI cI cJ cC ad o_board o_board_men o_board_sets oS_board.1 oS_board.2 (1 - oS_side)) ⟨va_cnB 1 hB (big_self q3_83) rfl rfl rfl (hG.1 _ q3_80) (hB _ q1_5) (by decide +kernel) ⟨Nat.le_of_ble_eq_true rfl, Nat.le_of_ble_eq_true rfl⟩, (hB _ q3_82), (hB _ qs3_7)⟩ (ro_preV (GS_ok ad) hK hP hG hS [1, 2, 3] rfl (va_recv hK hP (ci := 0) (q0 := 1) rfl rfl)) rfl rfl hl.1 rfl (lv_room (Nat.le_of_ble_eq_true rfl)) dPo_pawnTargets_74 ⟨Nat.le_of_ble_eq_true rfl, Nat.le_of_ble_eq_true rfl⟩) ?_
    refine lv_aload_n hx hb dPo_pawnTargets_77 rfl (lv_at hl 3 rfl) ?_
    refine ro_gol (va_runV (C := "ChessRules$Position") (As := []) (rest := [.long (f_Bo_allOf oS_board.2 (1 - oS_side)), .long (f_Ra_byPawn fr oS_side)]) ⟨hx, hb, hml, hown, hB⟩ (c_Po_passedSet l dC dI cI cJ cC ad o o_board o_board_men o_board_sets oS_board oS_side oS_rights oS_passed oS_clock oS_number) ⟨callB_of 0 hB (big_self q2_195) rfl rfl rfl (hB _ q1_4) (hB _ q2_192) (by decide +kernel) ⟨Nat.le_of_ble_eq_true rfl, Nat.le_of_ble_eq_true rfl⟩, (hB _ q2_194), (hB _ qs2_12)⟩ (ro_preV (GS_ok ad) hK hP hG hS [0, 1, 2, 3] rfl (va_recv hK hP (ci := 3) (q0 := 0) rfl rfl)) rfl rfl hl.1 rfl (lv_room (Nat.le_of_ble_eq_true rfl)) dPo_pawnTargets_78 ⟨Nat.le_of_ble_eq_true rfl, Nat.le_of_ble_eq_true rfl⟩) ?_
    refine lv_lor hx hb dPo_pawnTargets_81 ?_
    refine lv_land hx hb dPo_pawnTargets_82 ?_
    refine lv_lstore (lv' := [(9, .long ((f_Ra_byPawn fr oS_side) &&& ((f_Bo_allOf oS_board.2 (1 - oS_side)) ||| (f_Po_passedSet oS_passed)))), (7, .long ((f_Ra_ahead (((f_Ra_ahead fr oS_side) &&& (f_Bo_empty oS_board.2)) &&& k0_16) oS_side) &&& (f_Bo_empty oS_board.2))), (5, .long ((f_Ra_ahead fr oS_side) &&& (f_Bo_empty oS_board.2))), (3, .long k0_16), (0, .ref o), (1, .long fr)]) hx hb dPo_pawnTargets_83 hl (by decide) rfl (fun ls hl => ?_)
    refine lv_lload hx hb dPo_pawnTargets_85 (lv_at hl 2 rfl) ?_
    refine lv_lload hx hb dPo_pawnTargets_87 (lv_at hl 1 rfl) ?_
    refine lv_lor hx hb dPo_pawnTargets_89 ?_
    refine lv_lload hx hb dPo_pawnTargets_90 (lv_at hl 0 rfl) ?_
    refine lv_lor hx hb dPo_pawnTargets_92 ?_
    exact ro_retl hx hb hr hlocks dPo_pawnTargets_93 (Eq.symm (he_16.trans (by rw [f_Po_pawnTargets_16_eq] <;> rfl)))
  refine lv_if_ne (tgt := 13) hx hb dPo_pawnTargets_4 (by decide) (fun c_1 => ?_) (fun c_1 => ?_)
  · refine lv_ldc2 (v := 280375465082880) hx hb hown (hB _ q3_102) dPo_pawnTargets_13 ?_
    exact J_16 280375465082880 (by rw [f_Po_pawnTargets_eq, if_neg c_1] <;> rfl) ls (lv_sub hl [0, 1] rfl)
  · refine lv_ldc2 (v := 16711680) hx hb hown (hB _ q3_101) dPo_pawnTargets_7 ?_
    refine lv_goto (tgt := 16) hx hb dPo_pawnTargets_10 (by decide) ?_
    exact J_16 16711680 (by rw [f_Po_pawnTargets_eq, if_pos c_1] <;> rfl) ls (lv_sub hl [0, 1] rfl)

abbrev cPo_targetsFrom : ByteArray := prog_5_method_11_code
def yPo_targetsFrom : MethodName := ⟨"ChessRules$Position", "targetsFrom", "(I)J"⟩
def wsPo_targetsFrom : List Cond := Cond.code yPo_targetsFrom cPo_targetsFrom 5 (some .long) :: BIG
theorem dPo_targetsFrom_0 : decode cPo_targetsFrom 0 = .ok (.aload_n 0, 1) := by decide +kernel
theorem dPo_targetsFrom_1 : decode cPo_targetsFrom 1 = .ok (.getfield 12, 3) := by decide +kernel
theorem dPo_targetsFrom_4 : decode cPo_targetsFrom 4 = .ok (.iload_n 1, 1) := by decide +kernel
theorem dPo_targetsFrom_5 : decode cPo_targetsFrom 5 = .ok (.invokevirtual 38, 3) := by decide +kernel
theorem dPo_targetsFrom_8 : decode cPo_targetsFrom 8 = .ok (.istore_n 2, 1) := by decide +kernel
theorem dPo_targetsFrom_9 : decode cPo_targetsFrom 9 = .ok (.iload_n 2, 1) := by decide +kernel
theorem dPo_targetsFrom_10 : decode cPo_targetsFrom 10 = .ok (.ifCond .eq 13, 3) := by decide +kernel
theorem dPo_targetsFrom_13 : decode cPo_targetsFrom 13 = .ok (.iload_n 2, 1) := by decide +kernel
theorem dPo_targetsFrom_14 : decode cPo_targetsFrom 14 = .ok (.iconst 3, 1) := by decide +kernel
theorem dPo_targetsFrom_15 : decode cPo_targetsFrom 15 = .ok (.ishr, 1) := by decide +kernel
theorem dPo_targetsFrom_16 : decode cPo_targetsFrom 16 = .ok (.aload_n 0, 1) := by decide +kernel
theorem dPo_targetsFrom_17 : decode cPo_targetsFrom 17 = .ok (.getfield 18, 3) := by decide +kernel
theorem dPo_targetsFrom_20 : decode cPo_targetsFrom 20 = .ok (.if_icmp .eq 5, 3) := by decide +kernel
theorem dPo_targetsFrom_23 : decode cPo_targetsFrom 23 = .ok (.lconst 0, 1) := by decide +kernel
theorem dPo_targetsFrom_24 : decode cPo_targetsFrom 24 = .ok (.lreturn, 1) := by decide +kernel
theorem dPo_targetsFrom_25 : decode cPo_targetsFrom 25 = .ok (.lconst 1, 1) := by decide +kernel
theorem dPo_targetsFrom_26 : decode cPo_targetsFrom 26 = .ok (.iload_n 1, 1) := by decide +kernel
theorem dPo_targetsFrom_27 : decode cPo_targetsFrom 27 = .ok (.lshl, 1) := by decide +kernel
theorem dPo_targetsFrom_28 : decode cPo_targetsFrom 28 = .ok (.lstore_n 3, 1) := by decide +kernel
theorem dPo_targetsFrom_29 : decode cPo_targetsFrom 29 = .ok (.iload_n 2, 1) := by decide +kernel
theorem dPo_targetsFrom_30 : decode cPo_targetsFrom 30 = .ok (.bipush 7, 2) := by decide +kernel
theorem dPo_targetsFrom_32 : decode cPo_targetsFrom 32 = .ok (.iand, 1) := by decide +kernel
theorem dPo_targetsFrom_33 : decode cPo_targetsFrom 33 = .ok (.lookupswitch 83 #[(1, 35), (2, 41), (6, 62)], 35) := by decide +kernel
theorem dPo_targetsFrom_68 : decode cPo_targetsFrom 68 = .ok (.aload_n 0, 1) := by decide +kernel
theorem dPo_targetsFrom_69 : decode cPo_targetsFrom 69 = .ok (.lload_n 3, 1) := by decide +kernel
theorem dPo_targetsFrom_70 : decode cPo_targetsFrom 70 = .ok (.invokevirtual 71, 3) := by decide +kernel
theorem dPo_targetsFrom_73 : decode cPo_targetsFrom 73 = .ok (.lreturn, 1) := by decide +kernel
theorem dPo_targetsFrom_74 : decode cPo_targetsFrom 74 = .ok (.lload_n 3, 1) := by decide +kernel
theorem dPo_targetsFrom_75 : decode cPo_targetsFrom 75 = .ok (.invokestatic 75, 3) := by decide +kernel
theorem dPo_targetsFrom_78 : decode cPo_targetsFrom 78 = .ok (.aload_n 0, 1) := by decide +kernel
theorem dPo_targetsFrom_79 : decode cPo_targetsFrom 79 = .ok (.getfield 12, 3) := by decide +kernel
theorem dPo_targetsFrom_82 : decode cPo_targetsFrom 82 = .ok (.aload_n 0, 1) := by decide +kernel
theorem dPo_targetsFrom_83 : decode cPo_targetsFrom 83 = .ok (.getfield 18, 3) := by decide +kernel
theorem dPo_targetsFrom_86 : decode cPo_targetsFrom 86 = .ok (.invokevirtual 78, 3) := by decide +kernel
theorem dPo_targetsFrom_89 : decode cPo_targetsFrom 89 = .ok (.ldc2_w 82, 3) := by decide +kernel
theorem dPo_targetsFrom_92 : decode cPo_targetsFrom 92 = .ok (.lxor, 1) := by decide +kernel
theorem dPo_targetsFrom_93 : decode cPo_targetsFrom 93 = .ok (.land, 1) := by decide +kernel
theorem dPo_targetsFrom_94 : decode cPo_targetsFrom 94 = .ok (.lreturn, 1) := by decide +kernel
theorem dPo_targetsFrom_95 : decode cPo_targetsFrom 95 = .ok (.lload_n 3, 1) := by decide +kernel
theorem dPo_targetsFrom_96 : decode cPo_targetsFrom 96 = .ok (.invokestatic 84, 3) := by decide +kernel
theorem dPo_targetsFrom_99 : decode cPo_targetsFrom 99 = .ok (.aload_n 0, 1) := by decide +kernel
theorem dPo_targetsFrom_100 : decode cPo_targetsFrom 100 = .ok (.getfield 12, 3) := by decide +kernel
theorem dPo_targetsFrom_103 : decode cPo_targetsFrom 103 = .ok (.aload_n 0, 1) := by decide +kernel
theorem dPo_targetsFrom_104 : decode cPo_targetsFrom 104 = .ok (.getfield 18, 3) := by decide +kernel
theorem dPo_targetsFrom_107 : decode cPo_targetsFrom 107 = .ok (.invokevirtual 78, 3) := by decide +kernel
theorem dPo_targetsFrom_110 : decode cPo_targetsFrom 110 = .ok (.ldc2_w 82, 3) := by decide +kernel
theorem dPo_targetsFrom_113 : decode cPo_targetsFrom 113 = .ok (.lxor, 1) := by decide +kernel
theorem dPo_targetsFrom_114 : decode cPo_targetsFrom 114 = .ok (.land, 1) := by decide +kernel
theorem dPo_targetsFrom_115 : decode cPo_targetsFrom 115 = .ok (.lreturn, 1) := by decide +kernel
theorem dPo_targetsFrom_116 : decode cPo_targetsFrom 116 = .ok (.iload_n 2, 1) := by decide +kernel
theorem dPo_targetsFrom_117 : decode cPo_targetsFrom 117 = .ok (.bipush 7, 2) := by decide +kernel
theorem dPo_targetsFrom_119 : decode cPo_targetsFrom 119 = .ok (.iand, 1) := by decide +kernel
theorem dPo_targetsFrom_120 : decode cPo_targetsFrom 120 = .ok (.lload_n 3, 1) := by decide +kernel
theorem dPo_targetsFrom_121 : decode cPo_targetsFrom 121 = .ok (.aload_n 0, 1) := by decide +kernel
theorem dPo_targetsFrom_122 : decode cPo_targetsFrom 122 = .ok (.getfield 12, 3) := by decide +kernel
theorem dPo_targetsFrom_125 : decode cPo_targetsFrom 125 = .ok (.invokevirtual 87, 3) := by decide +kernel
theorem dPo_targetsFrom_128 : decode cPo_targetsFrom 128 = .ok (.invokestatic 90, 3) := by decide +kernel
theorem dPo_targetsFrom_131 : decode cPo_targetsFrom 131 = .ok (.aload_n 0, 1) := by decide +kernel
theorem dPo_targetsFrom_132 : decode cPo_targetsFrom 132 = .ok (.getfield 12, 3) := by decide +kernel
theorem dPo_targetsFrom_135 : decode cPo_targetsFrom 135 = .ok (.aload_n 0, 1) := by decide +kernel
theorem dPo_targetsFrom_136 : decode cPo_targetsFrom 136 = .ok (.getfield 18, 3) := by decide +kernel
theorem dPo_targetsFrom_139 : decode cPo_targetsFrom 139 = .ok (.invokevirtual 78, 3) := by decide +kernel
theorem dPo_targetsFrom_142 : decode cPo_targetsFrom 142 = .ok (.ldc2_w 82, 3) := by decide +kernel
theorem dPo_targetsFrom_145 : decode cPo_targetsFrom 145 = .ok (.lxor, 1) := by decide +kernel
theorem dPo_targetsFrom_146 : decode cPo_targetsFrom 146 = .ok (.land, 1) := by decide +kernel
theorem dPo_targetsFrom_147 : decode cPo_targetsFrom 147 = .ok (.lreturn, 1) := by decide +kernel

def f_Po_targetsFrom (oS_board : St_Bo) (oS_side : Int32) (oS_passed : Int32) (square : Int32) : Int64 :=
  (if (f_Bo_manAt oS_board.1 square) = 0 then 0 else (if ((f_Bo_manAt oS_board.1 square) >>> ((3 : Int32) &&& 31)) = oS_side then (if ((f_Bo_manAt oS_board.1 square) &&& 7) = 1 then f_Po_pawnTargets oS_board oS_side oS_passed (shl64 1 square) else (if ((f_Bo_manAt oS_board.1 square) &&& 7) = 2 then (f_Ra_byKnight (shl64 1 square)) &&& ((f_Bo_allOf oS_board.2 oS_side) ^^^ (-1)) else (if ((f_Bo_manAt oS_board.1 square) &&& 7) = 6 then (f_Ra_byKing (shl64 1 square)) &&& ((f_Bo_allOf oS_board.2 oS_side) ^^^ (-1)) else (f_Ra_byLines ((f_Bo_manAt oS_board.1 square) &&& 7) (shl64 1 square) (f_Bo_empty oS_board.2)) &&& ((f_Bo_allOf oS_board.2 oS_side) ^^^ (-1))))) else 0))
theorem f_Po_targetsFrom_eq (oS_board : St_Bo) (oS_side : Int32) (oS_passed : Int32) (square : Int32) : f_Po_targetsFrom oS_board oS_side oS_passed square =
  (if (f_Bo_manAt oS_board.1 square) = 0 then 0 else (if ((f_Bo_manAt oS_board.1 square) >>> ((3 : Int32) &&& 31)) = oS_side then (if ((f_Bo_manAt oS_board.1 square) &&& 7) = 1 then f_Po_pawnTargets oS_board oS_side oS_passed (shl64 1 square) else (if ((f_Bo_manAt oS_board.1 square) &&& 7) = 2 then (f_Ra_byKnight (shl64 1 square)) &&& ((f_Bo_allOf oS_board.2 oS_side) ^^^ (-1)) else (if ((f_Bo_manAt oS_board.1 square) &&& 7) = 6 then (f_Ra_byKing (shl64 1 square)) &&& ((f_Bo_allOf oS_board.2 oS_side) ^^^ (-1)) else (f_Ra_byLines ((f_Bo_manAt oS_board.1 square) &&& 7) (shl64 1 square) (f_Bo_empty oS_board.2)) &&& ((f_Bo_allOf oS_board.2 oS_side) ^^^ (-1))))) else 0)) := rfl

set_option maxHeartbeats 4000000 in
set_option maxRecDepth 100000 in
theorem c_Po_targetsFrom (l : Launch) (dC : Nat → ClassId) (dI : Nat → Nat → Nat) (cI cJ cC : ClassId) (ad : Nat → Nat) (o o_board o_board_men o_board_sets : Nat) (oS_board : St_Bo) (oS_side : Int32) (oS_rights : Int32) (oS_passed : Int32) (oS_clock : Int32) (oS_number : Int32) (square : Int32) : Met l yPo_targetsFrom wsPo_targetsFrom { frames := 2, cells := 0, slots := 0, locals := 59 } (roP dC dI (TYS cI cJ cC) [.ref o, .int square] [(o, .inr (3, [.ref o_board, .int oS_side, .int oS_rights, .int oS_passed, .int oS_clock, .int oS_number])), (o_board, .inr (0, [.ref o_board_men, .ref o_board_sets])), (o_board_men, .inl (cI, 64, .inl oS_board.1)), (o_board_sets, .inl (cJ, 16, .inr (.inl oS_board.2)))] (GS ad)) (vp_Sl (fun r => r = f_Po_targetsFrom oS_board oS_side oS_passed square)) 0 0 (fun _ => False) := by
  refine Met.ofW (cc := cPo_targetsFrom) (maxL := 5) (ret := (some .long)) (by decide) rfl ?_
  intro p e s m args below meth c s₁ B hml hv
  obtain ⟨rfl, hP, hK, hG⟩ := hv
  have hx := B.exec
  have hb := B.bytes
  have hr := B.returns
  have hB : ∀ w9 ∈ BIG, w9.before ([.ref o, .int square]).toArray s = true := fun w9 h => atoms_spec (ws := wsPo_targetsFrom) B.pre w9 (List.mem_cons_of_mem _ h)
  have hown : s.vm.findClass "ChessRules$Position" = some m.cls := findClass_of_methodNamed B.named
  have hlocks := B.notSynchronized
  have hS : va_S (fun _ => False) s.heap s.heap [] := va_S.rf
  have hP : va_P (dC, dI) vwCl [(o, .inr (3, [.ref o_board, .int oS_side, .int oS_rights, .int oS_passed, .int oS_clock, .int oS_number])), (o_board, .inr (0, [.ref o_board_men, .ref o_board_sets])), (o_board_men, .inl (cI, 64, .inl oS_board.1)), (o_board_sets, .inl (cJ, 16, .inr (.inl oS_board.2)))] s.heap := hP
  have hl := lv_entry ([.ref o, .int square]) (n := 5) (Nat.le_of_ble_eq_true rfl)
  rw [lg_entry_eq]
  generalize (lg_sl ([.ref o, .int square]) ++ List.replicate (5 - (lg_sl ([.ref o, .int square])).length) Slot.unset).toArray = ls at hl ⊢
  have hl : lv_has ls 5 [(0, .ref o), (1, .int square)] := hl
  refine lv_aload_n hx hb dPo_targetsFrom_0 rfl (lv_at hl 0 rfl) ?_
  refine va_get (D := (dC, dI)) (ci := 3) (v := .ref o_board) (C := RPo) (T := TPo) (N := 6) hx hb hB inPo hown hK hP 0 rfl rfl 0 (by decide) (hB _ q1_77) (fun _ h9 => h9) rfl dPo_targetsFrom_1 ?_
  refine lv_iload_n hx hb dPo_targetsFrom_4 rfl (lv_at hl 1 rfl) ?_
  refine ro_goi (va_runVN (C := "ChessRules$Board") (As := [.int square]) (rest := []) ⟨hx, hb, hml, hown, hB⟩ (c_Bo_manAt l dC dI cI cJ cC ad o_board o_board_men o_board_sets oS_board.1 oS_board.2 square) ⟨va_cnB 1 hB (big_self q2_168) rfl rfl rfl (hG.1 _ q2_206) (hB _ q1_5) (by decide +kernel) ⟨Nat.le_of_ble_eq_true rfl, Nat.le_of_ble_eq_true rfl⟩, (hB _ q2_167), (hB _ qs2_7)⟩ (ro_preV (GS_ok ad) hK hP hG hS [1, 2, 3] rfl (va_recv hK hP (ci := 0) (q0 := 1) rfl rfl)) rfl rfl hl.1 rfl (lv_room (Nat.le_of_ble_eq_true rfl)) dPo_targetsFrom_5 ⟨Nat.le_of_ble_eq_true rfl, Nat.le_of_ble_eq_true rfl⟩) ?_
  refine lv_istore_n (lv' := [(2, .int (f_Bo_manAt oS_board.1 square)), (0, .ref o), (1, .int square)]) hx hb dPo_targetsFrom_8 rfl hl (by decide) rfl (fun ls hl => ?_)
  refine lv_iload_n hx hb dPo_targetsFrom_9 rfl (lv_at hl 0 rfl) ?_
  refine lv_if_eq (tgt := 23) hx hb dPo_targetsFrom_10 (by decide) (fun c_1 => ?_) (fun c_1 => ?_)
  · refine lv_lconst (v := 0) hx hb dPo_targetsFrom_23 (by decide) ?_
    exact ro_retl hx hb hr hlocks dPo_targetsFrom_24 (Eq.symm (by rw [f_Po_targetsFrom_eq, if_pos c_1] <;> rfl))
  · refine lv_iload_n hx hb dPo_targetsFrom_13 rfl (lv_at hl 0 rfl) ?_
    refine lv_iconst (v := 3) hx hb dPo_targetsFrom_14 (by decide) ?_
    refine lv_ishr hx hb dPo_targetsFrom_15 ?_
    refine lv_aload_n hx hb dPo_targetsFrom_16 rfl (lv_at hl 1 rfl) ?_
    refine va_get (D := (dC, dI)) (ci := 3) (v := .int oS_side) (C := RPo) (T := TPo) (N := 6) hx hb hB inPo hown hK hP 0 rfl rfl 1 (by decide) (hB _ q1_83) (fun _ h9 => h9) rfl dPo_targetsFrom_17 ?_
    refine lv_icmp_eq (tgt := 25) hx hb dPo_targetsFrom_20 (by decide) (fun c_2 => ?_) (fun c_2 => ?_)
    · refine lv_lconst (v := 1) hx hb dPo_targetsFrom_25 (by decide) ?_
      refine lv_iload_n hx hb dPo_targetsFrom_26 rfl (lv_at hl 2 rfl) ?_
      refine lv_lshl (v := shl64 1 square) hx hb dPo_targetsFrom_27 rfl ?_
      refine lv_lstore_n (lv' := [(3, .long (shl64 1 square)), (2, .int (f_Bo_manAt oS_board.1 square)), (0, .ref o), (1, .int square)]) hx hb dPo_targetsFrom_28 rfl hl (by decide) rfl (fun ls hl => ?_)
      refine lv_iload_n hx hb dPo_targetsFrom_29 rfl (lv_at hl 1 rfl) ?_
      refine lv_bipush (v := 7) hx hb dPo_targetsFrom_30 (by decide) ?_
      refine lv_iand hx hb dPo_targetsFrom_32 ?_
      by_cases c_3 : ((f_Bo_manAt oS_board.1 square) &&& 7) = 1
      · refine lv_lookup (tgt := 68) (off := 35) hx hb dPo_targetsFrom_33 (by decide) (by rw [c_3]; rfl) (by decide) ?_
        refine lv_aload_n hx hb dPo_targetsFrom_68 rfl (lv_at hl 2 rfl) ?_
        refine lv_lload_n hx hb dPo_targetsFrom_69 rfl (lv_at hl 0 rfl) ?_
        refine ro_gol (va_runV (C := "ChessRules$Position") (As := [.long (shl64 1 square)]) (rest := []) ⟨hx, hb, hml, hown, hB⟩ (c_Po_pawnTargets l dC dI cI cJ cC ad o o_board o_board_men o_board_sets oS_board oS_side oS_rights oS_passed oS_clock oS_number (shl64 1 square)) ⟨callB_of 1 hB (big_self q3_100) rfl rfl rfl (hB _ q1_4) (hB _ q3_97) (by decide +kernel) ⟨Nat.le_of_ble_eq_true rfl, Nat.le_of_ble_eq_true rfl⟩, (hB _ q3_99), (hB _ qs3_11)⟩ (ro_preV (GS_ok ad) hK hP hG hS [0, 1, 2, 3] rfl (va_recv hK hP (ci := 3) (q0 := 0) rfl rfl)) rfl rfl hl.1 rfl (lv_room (Nat.le_of_ble_eq_true rfl)) dPo_targetsFrom_70 ⟨Nat.le_of_ble_eq_true rfl, Nat.le_of_ble_eq_true rfl⟩) ?_
        exact ro_retl hx hb hr hlocks dPo_targetsFrom_73 (Eq.symm (by rw [f_Po_targetsFrom_eq, if_neg c_1, if_pos c_2, if_pos c_3] <;> rfl))
      · by_cases c_4 : ((f_Bo_manAt oS_board.1 square) &&& 7) = 2
        · refine lv_lookup (tgt := 74) (off := 41) hx hb dPo_targetsFrom_33 (by decide) (by rw [c_4]; rfl) (by decide) ?_
          refine lv_lload_n hx hb dPo_targetsFrom_74 rfl (lv_at hl 0 rfl) ?_
          refine ro_gol (va_runSN (As := [.long (shl64 1 square)]) (rest := []) ⟨hx, hb, hml, hown, hB⟩ (c_Ra_byKnight l dC dI cI cJ cC ad (shl64 1 square)) ⟨va_cnB 1 hB (big_self q2_144) rfl rfl rfl (hG.1 _ q3_106) (hB _ q1_14) (by decide +kernel) ⟨Nat.le_of_ble_eq_true rfl, Nat.le_of_ble_eq_true rfl⟩, (hB _ q2_143), trivial⟩ (ro_preS (GS_ok ad) hK hP hG hS [] rfl) rfl rfl hl.1 rfl (lv_room (Nat.le_of_ble_eq_true rfl)) dPo_targetsFrom_75 ⟨Nat.le_of_ble_eq_true rfl, Nat.le_of_ble_eq_true rfl⟩) ?_
          refine lv_aload_n hx hb dPo_targetsFrom_78 rfl (lv_at hl 2 rfl) ?_
          refine va_get (D := (dC, dI)) (ci := 3) (v := .ref o_board) (C := RPo) (T := TPo) (N := 6) hx hb hB inPo hown hK hP 0 rfl rfl 0 (by decide) (hB _ q1_77) (fun _ h9 => h9) rfl dPo_targetsFrom_79 ?_
          refine lv_aload_n hx hb dPo_targetsFrom_82 rfl (lv_at hl 2 rfl) ?_
          refine va_get (D := (dC, dI)) (ci := 3) (v := .int oS_side) (C := RPo) (T := TPo) (N := 6) hx hb hB inPo hown hK hP 0 rfl rfl 1 (by decide) (hB _ q1_83) (fun _ h9 => h9) rfl dPo_targetsFrom_83 ?_
          refine ro_gol (va_runVN (C := "ChessRules$Board") (As := [.int oS_side]) (rest := [.long (f_Ra_byKnight (shl64 1 square))]) ⟨hx, hb, hml, hown, hB⟩ (c_Bo_allOf l dC dI cI cJ cC ad o_board o_board_men o_board_sets oS_board.1 oS_board.2 oS_side) ⟨va_cnB 1 hB (big_self q3_83) rfl rfl rfl (hG.1 _ q3_80) (hB _ q1_5) (by decide +kernel) ⟨Nat.le_of_ble_eq_true rfl, Nat.le_of_ble_eq_true rfl⟩, (hB _ q3_82), (hB _ qs3_7)⟩ (ro_preV (GS_ok ad) hK hP hG hS [1, 2, 3] rfl (va_recv hK hP (ci := 0) (q0 := 1) rfl rfl)) rfl rfl hl.1 rfl (lv_room (Nat.le_of_ble_eq_true rfl)) dPo_targetsFrom_86 ⟨Nat.le_of_ble_eq_true rfl, Nat.le_of_ble_eq_true rfl⟩) ?_
          refine lv_ldc2 (v := (-1)) hx hb hown (hB _ q2_230) dPo_targetsFrom_89 ?_
          refine lv_lxor hx hb dPo_targetsFrom_92 ?_
          refine lv_land hx hb dPo_targetsFrom_93 ?_
          exact ro_retl hx hb hr hlocks dPo_targetsFrom_94 (Eq.symm (by rw [f_Po_targetsFrom_eq, if_neg c_1, if_pos c_2, if_neg c_3, if_pos c_4] <;> rfl))
        · by_cases c_5 : ((f_Bo_manAt oS_board.1 square) &&& 7) = 6
          · refine lv_lookup (tgt := 95) (off := 62) hx hb dPo_targetsFrom_33 (by decide) (by rw [c_5]; rfl) (by decide) ?_
            refine lv_lload_n hx hb dPo_targetsFrom_95 rfl (lv_at hl 0 rfl) ?_
            refine ro_gol (va_runSN (As := [.long (shl64 1 square)]) (rest := []) ⟨hx, hb, hml, hown, hB⟩ (c_Ra_byKing l dC dI cI cJ cC ad (shl64 1 square)) ⟨va_cnB 1 hB (big_self q2_149) rfl rfl rfl (hG.1 _ q3_107) (hB _ q1_14) (by decide +kernel) ⟨Nat.le_of_ble_eq_true rfl, Nat.le_of_ble_eq_true rfl⟩, (hB _ q2_148), trivial⟩ (ro_preS (GS_ok ad) hK hP hG hS [] rfl) rfl rfl hl.1 rfl (lv_room (Nat.le_of_ble_eq_true rfl)) dPo_targetsFrom_96 ⟨Nat.le_of_ble_eq_true rfl, Nat.le_of_ble_eq_true rfl⟩) ?_
            refine lv_aload_n hx hb dPo_targetsFrom_99 rfl (lv_at hl 2 rfl) ?_
            refine va_get (D := (dC, dI)) (ci := 3) (v := .ref o_board) (C := RPo) (T := TPo) (N := 6) hx hb hB inPo hown hK hP 0 rfl rfl 0 (by decide) (hB _ q1_77) (fun _ h9 => h9) rfl dPo_targetsFrom_100 ?_
            refine lv_aload_n hx hb dPo_targetsFrom_103 rfl (lv_at hl 2 rfl) ?_
            refine va_get (D := (dC, dI)) (ci := 3) (v := .int oS_side) (C := RPo) (T := TPo) (N := 6) hx hb hB inPo hown hK hP 0 rfl rfl 1 (by decide) (hB _ q1_83) (fun _ h9 => h9) rfl dPo_targetsFrom_104 ?_
            refine ro_gol (va_runVN (C := "ChessRules$Board") (As := [.int oS_side]) (rest := [.long (f_Ra_byKing (shl64 1 square))]) ⟨hx, hb, hml, hown, hB⟩ (c_Bo_allOf l dC dI cI cJ cC ad o_board o_board_men o_board_sets oS_board.1 oS_board.2 oS_side) ⟨va_cnB 1 hB (big_self q3_83) rfl rfl rfl (hG.1 _ q3_80) (hB _ q1_5) (by decide +kernel) ⟨Nat.le_of_ble_eq_true rfl, Nat.le_of_ble_eq_true rfl⟩, (hB _ q3_82), (hB _ qs3_7)⟩ (ro_preV (GS_ok ad) hK hP hG hS [1, 2, 3] rfl (va_recv hK hP (ci := 0) (q0 := 1) rfl rfl)) rfl rfl hl.1 rfl (lv_room (Nat.le_of_ble_eq_true rfl)) dPo_targetsFrom_107 ⟨Nat.le_of_ble_eq_true rfl, Nat.le_of_ble_eq_true rfl⟩) ?_
            refine lv_ldc2 (v := (-1)) hx hb hown (hB _ q2_230) dPo_targetsFrom_110 ?_
            refine lv_lxor hx hb dPo_targetsFrom_113 ?_
            refine lv_land hx hb dPo_targetsFrom_114 ?_
            exact ro_retl hx hb hr hlocks dPo_targetsFrom_115 (Eq.symm (by rw [f_Po_targetsFrom_eq, if_neg c_1, if_pos c_2, if_neg c_3, if_neg c_4, if_pos c_5] <;> rfl))
          · refine lv_lookup (tgt := 116) (off := 83) hx hb dPo_targetsFrom_33 (by decide) (by have q0 := 0; have q0 : ((f_Bo_manAt oS_board.1 square) &&& 7).toInt ≠ 1 := fun z => c_3 (i_of z rfl); have q1 : ((f_Bo_manAt oS_board.1 square) &&& 7).toInt ≠ 2 := fun z => c_4 (i_of z rfl); have q2 : ((f_Bo_manAt oS_board.1 square) &&& 7).toInt ≠ 6 := fun z => c_5 (i_of z rfl); simp [Op.lookupswitch.offset, q0.symm, q0, q1.symm, q1, q2.symm, q2]) (by decide) ?_
            refine lv_iload_n hx hb dPo_targetsFrom_116 rfl (lv_at hl 1 rfl) ?_
            refine lv_bipush (v := 7) hx hb dPo_targetsFrom_117 (by decide) ?_
            refine lv_iand hx hb dPo_targetsFrom_119 ?_
            refine lv_lload_n hx hb dPo_targetsFrom_120 rfl (lv_at hl 0 rfl) ?_
            refine lv_aload_n hx hb dPo_targetsFrom_121 rfl (lv_at hl 2 rfl) ?_
            refine va_get (D := (dC, dI)) (ci := 3) (v := .ref o_board) (C := RPo) (T := TPo) (N := 6) hx hb hB inPo hown hK hP 0 rfl rfl 0 (by decide) (hB _ q1_77) (fun _ h9 => h9) rfl dPo_targetsFrom_122 ?_
            refine ro_gol (va_runVN (C := "ChessRules$Board") (As := []) (rest := [.long (shl64 1 square), .int ((f_Bo_manAt oS_board.1 square) &&& 7)]) ⟨hx, hb, hml, hown, hB⟩ (c_Bo_empty l dC dI cI cJ cC ad o_board o_board_men o_board_sets oS_board.1 oS_board.2) ⟨va_cnB 0 hB (big_self q2_132) rfl rfl rfl (hG.1 _ q2_229) (hB _ q1_5) (by decide +kernel) ⟨Nat.le_of_ble_eq_true rfl, Nat.le_of_ble_eq_true rfl⟩, (hB _ q2_131), (hB _ qs2_4)⟩ (ro_preV (GS_ok ad) hK hP hG hS [1, 2, 3] rfl (va_recv hK hP (ci := 0) (q0 := 1) rfl rfl)) rfl rfl hl.1 rfl (lv_room (Nat.le_of_ble_eq_true rfl)) dPo_targetsFrom_125 ⟨Nat.le_of_ble_eq_true rfl, Nat.le_of_ble_eq_true rfl⟩) ?_
            refine ro_gol (va_runSN (As := [.int ((f_Bo_manAt oS_board.1 square) &&& 7), .long (shl64 1 square), .long (f_Bo_empty oS_board.2)]) (rest := []) ⟨hx, hb, hml, hown, hB⟩ (c_Ra_byLines l dC dI cI cJ cC ad ((f_Bo_manAt oS_board.1 square) &&& 7) (shl64 1 square) (f_Bo_empty oS_board.2)) ⟨va_cnB 3 hB (big_self q3_110) rfl rfl rfl (hG.1 _ q3_108) (hB _ q1_14) (by decide +kernel) ⟨Nat.le_of_ble_eq_true rfl, Nat.le_of_ble_eq_true rfl⟩, (hB _ q3_109), trivial⟩ (ro_preS (GS_ok ad) hK hP hG hS [] rfl) rfl rfl hl.1 rfl (lv_room (Nat.le_of_ble_eq_true rfl)) dPo_targetsFrom_128 ⟨Nat.le_of_ble_eq_true rfl, Nat.le_of_ble_eq_true rfl⟩) ?_
            refine lv_aload_n hx hb dPo_targetsFrom_131 rfl (lv_at hl 2 rfl) ?_
            refine va_get (D := (dC, dI)) (ci := 3) (v := .ref o_board) (C := RPo) (T := TPo) (N := 6) hx hb hB inPo hown hK hP 0 rfl rfl 0 (by decide) (hB _ q1_77) (fun _ h9 => h9) rfl dPo_targetsFrom_132 ?_
            refine lv_aload_n hx hb dPo_targetsFrom_135 rfl (lv_at hl 2 rfl) ?_
            refine va_get (D := (dC, dI)) (ci := 3) (v := .int oS_side) (C := RPo) (T := TPo) (N := 6) hx hb hB inPo hown hK hP 0 rfl rfl 1 (by decide) (hB _ q1_83) (fun _ h9 => h9) rfl dPo_targetsFrom_136 ?_
            refine ro_gol (va_runVN (C := "ChessRules$Board") (As := [.int oS_side]) (rest := [.long (f_Ra_byLines ((f_Bo_manAt oS_board.1 square) &&& 7) (shl64 1 square) (f_Bo_empty oS_board.2))]) ⟨hx, hb, hml, hown, hB⟩ (c_Bo_allOf l dC dI cI cJ cC ad o_board o_board_men o_board_sets oS_board.1 oS_board.2 oS_side) ⟨va_cnB 1 hB (big_self q3_83) rfl rfl rfl (hG.1 _ q3_80) (hB _ q1_5) (by decide +kernel) ⟨Nat.le_of_ble_eq_true rfl, Nat.le_of_ble_eq_true rfl⟩, (hB _ q3_82), (hB _ qs3_7)⟩ (ro_preV (GS_ok ad) hK hP hG hS [1, 2, 3] rfl (va_recv hK hP (ci := 0) (q0 := 1) rfl rfl)) rfl rfl hl.1 rfl (lv_room (Nat.le_of_ble_eq_true rfl)) dPo_targetsFrom_139 ⟨Nat.le_of_ble_eq_true rfl, Nat.le_of_ble_eq_true rfl⟩) ?_
            refine lv_ldc2 (v := (-1)) hx hb hown (hB _ q2_230) dPo_targetsFrom_142 ?_
            refine lv_lxor hx hb dPo_targetsFrom_145 ?_
            refine lv_land hx hb dPo_targetsFrom_146 ?_
            exact ro_retl hx hb hr hlocks dPo_targetsFrom_147 (Eq.symm (by rw [f_Po_targetsFrom_eq, if_neg c_1, if_pos c_2, if_neg c_3, if_neg c_4, if_neg c_5] <;> rfl))
    · refine lv_lconst (v := 0) hx hb dPo_targetsFrom_23 (by decide) ?_
      exact ro_retl hx hb hr hlocks dPo_targetsFrom_24 (Eq.symm (by rw [f_Po_targetsFrom_eq, if_neg c_1, if_neg c_2] <;> rfl))

abbrev cPo_isAttacked : ByteArray := prog_5_method_14_code
def yPo_isAttacked : MethodName := ⟨"ChessRules$Position", "isAttacked", "(I)Z"⟩
def wsPo_isAttacked : List Cond := Cond.code yPo_isAttacked cPo_isAttacked 2 (some .boolean) :: BIG
theorem dPo_isAttacked_0 : decode cPo_isAttacked 0 = .ok (.aload_n 0, 1) := by decide +kernel
theorem dPo_isAttacked_1 : decode cPo_isAttacked 1 = .ok (.getfield 12, 3) := by decide +kernel
theorem dPo_isAttacked_4 : decode cPo_isAttacked 4 = .ok (.lconst 1, 1) := by decide +kernel
theorem dPo_isAttacked_5 : decode cPo_isAttacked 5 = .ok (.iload_n 1, 1) := by decide +kernel
theorem dPo_isAttacked_6 : decode cPo_isAttacked 6 = .ok (.lshl, 1) := by decide +kernel
theorem dPo_isAttacked_7 : decode cPo_isAttacked 7 = .ok (.iconst 1, 1) := by decide +kernel
theorem dPo_isAttacked_8 : decode cPo_isAttacked 8 = .ok (.aload_n 0, 1) := by decide +kernel
theorem dPo_isAttacked_9 : decode cPo_isAttacked 9 = .ok (.getfield 18, 3) := by decide +kernel
theorem dPo_isAttacked_12 : decode cPo_isAttacked 12 = .ok (.isub, 1) := by decide +kernel
theorem dPo_isAttacked_13 : decode cPo_isAttacked 13 = .ok (.aload_n 0, 1) := by decide +kernel
theorem dPo_isAttacked_14 : decode cPo_isAttacked 14 = .ok (.getfield 12, 3) := by decide +kernel
theorem dPo_isAttacked_17 : decode cPo_isAttacked 17 = .ok (.invokevirtual 87, 3) := by decide +kernel
theorem dPo_isAttacked_20 : decode cPo_isAttacked 20 = .ok (.invokevirtual 113, 3) := by decide +kernel
theorem dPo_isAttacked_23 : decode cPo_isAttacked 23 = .ok (.lconst 0, 1) := by decide +kernel
theorem dPo_isAttacked_24 : decode cPo_isAttacked 24 = .ok (.lcmp, 1) := by decide +kernel
theorem dPo_isAttacked_25 : decode cPo_isAttacked 25 = .ok (.ifCond .eq 7, 3) := by decide +kernel
theorem dPo_isAttacked_28 : decode cPo_isAttacked 28 = .ok (.iconst 1, 1) := by decide +kernel
theorem dPo_isAttacked_29 : decode cPo_isAttacked 29 = .ok (.goto 4, 3) := by decide +kernel
theorem dPo_isAttacked_32 : decode cPo_isAttacked 32 = .ok (.iconst 0, 1) := by decide +kernel
theorem dPo_isAttacked_33 : decode cPo_isAttacked 33 = .ok (.ireturn, 1) := by decide +kernel

def f_Po_isAttacked (oS_board : St_Bo) (oS_side : Int32) (square : Int32) : Int32 :=
  (if (f_Bo_attackersOf oS_board.2 (shl64 1 square) (1 - oS_side) (f_Bo_empty oS_board.2)) = 0 then 0 else 1)
theorem f_Po_isAttacked_eq (oS_board : St_Bo) (oS_side : Int32) (square : Int32) : f_Po_isAttacked oS_board oS_side square =
  (if (f_Bo_attackersOf oS_board.2 (shl64 1 square) (1 - oS_side) (f_Bo_empty oS_board.2)) = 0 then 0 else 1) := rfl

set_option maxHeartbeats 4000000 in
set_option maxRecDepth 100000 in
theorem c_Po_isAttacked (l : Launch) (dC : Nat → ClassId) (dI : Nat → Nat → Nat) (cI cJ cC : ClassId) (ad : Nat → Nat) (o o_board o_board_men o_board_sets : Nat) (oS_board : St_Bo) (oS_side : Int32) (oS_rights : Int32) (oS_passed : Int32) (oS_clock : Int32) (oS_number : Int32) (square : Int32) : Met l yPo_isAttacked wsPo_isAttacked { frames := 2, cells := 0, slots := 0, locals := 64 } (roP dC dI (TYS cI cJ cC) [.ref o, .int square] [(o, .inr (3, [.ref o_board, .int oS_side, .int oS_rights, .int oS_passed, .int oS_clock, .int oS_number])), (o_board, .inr (0, [.ref o_board_men, .ref o_board_sets])), (o_board_men, .inl (cI, 64, .inl oS_board.1)), (o_board_sets, .inl (cJ, 16, .inr (.inl oS_board.2)))] (GS ad)) (vp_Si (fun r => r = f_Po_isAttacked oS_board oS_side square)) 0 0 (fun _ => False) := by
  refine Met.ofW (cc := cPo_isAttacked) (maxL := 2) (ret := (some .boolean)) (by decide) rfl ?_
  intro p e s m args below meth c s₁ B hml hv
  obtain ⟨rfl, hP, hK, hG⟩ := hv
  have hx := B.exec
  have hb := B.bytes
  have hr := B.returns
  have hB : ∀ w9 ∈ BIG, w9.before ([.ref o, .int square]).toArray s = true := fun w9 h => atoms_spec (ws := wsPo_isAttacked) B.pre w9 (List.mem_cons_of_mem _ h)
  have hown : s.vm.findClass "ChessRules$Position" = some m.cls := findClass_of_methodNamed B.named
  have hlocks := B.notSynchronized
  have hS : va_S (fun _ => False) s.heap s.heap [] := va_S.rf
  have hP : va_P (dC, dI) vwCl [(o, .inr (3, [.ref o_board, .int oS_side, .int oS_rights, .int oS_passed, .int oS_clock, .int oS_number])), (o_board, .inr (0, [.ref o_board_men, .ref o_board_sets])), (o_board_men, .inl (cI, 64, .inl oS_board.1)), (o_board_sets, .inl (cJ, 16, .inr (.inl oS_board.2)))] s.heap := hP
  have hl := lv_entry ([.ref o, .int square]) (n := 2) (Nat.le_of_ble_eq_true rfl)
  rw [lg_entry_eq]
  generalize (lg_sl ([.ref o, .int square]) ++ List.replicate (2 - (lg_sl ([.ref o, .int square])).length) Slot.unset).toArray = ls at hl ⊢
  have hl : lv_has ls 2 [(0, .ref o), (1, .int square)] := hl
  refine lv_aload_n hx hb dPo_isAttacked_0 rfl (lv_at hl 0 rfl) ?_
  refine va_get (D := (dC, dI)) (ci := 3) (v := .ref o_board) (C := RPo) (T := TPo) (N := 6) hx hb hB inPo hown hK hP 0 rfl rfl 0 (by decide) (hB _ q1_77) (fun _ h9 => h9) rfl dPo_isAttacked_1 ?_
  refine lv_lconst (v := 1) hx hb dPo_isAttacked_4 (by decide) ?_
  refine lv_iload_n hx hb dPo_isAttacked_5 rfl (lv_at hl 1 rfl) ?_
  refine lv_lshl (v := shl64 1 square) hx hb dPo_isAttacked_6 rfl ?_
  refine lv_iconst (v := 1) hx hb dPo_isAttacked_7 (by decide) ?_
  refine lv_aload_n hx hb dPo_isAttacked_8 rfl (lv_at hl 0 rfl) ?_
  refine va_get (D := (dC, dI)) (ci := 3) (v := .int oS_side) (C := RPo) (T := TPo) (N := 6) hx hb hB inPo hown hK hP 0 rfl rfl 1 (by decide) (hB _ q1_83) (fun _ h9 => h9) rfl dPo_isAttacked_9 ?_
  refine lv_isub hx hb dPo_isAttacked_12 ?_
  refine lv_aload_n hx hb dPo_isAttacked_13 rfl (lv_at hl 0 rfl) ?_
  refine va_get (D := (dC, dI)) (ci := 3) (v := .ref o_board) (C := RPo) (T := TPo) (N := 6) hx hb hB inPo hown hK hP 0 rfl rfl 0 (by decide) (hB _ q1_77) (fun _ h9 => h9) rfl dPo_isAttacked_14 ?_
  refine ro_gol (va_runVN (C := "ChessRules$Board") (As := []) (rest := [.int (1 - oS_side), .long (shl64 1 square), .ref o_board]) ⟨hx, hb, hml, hown, hB⟩ (c_Bo_empty l dC dI cI cJ cC ad o_board o_board_men o_board_sets oS_board.1 oS_board.2) ⟨va_cnB 0 hB (big_self q2_132) rfl rfl rfl (hG.1 _ q2_229) (hB _ q1_5) (by decide +kernel) ⟨Nat.le_of_ble_eq_true rfl, Nat.le_of_ble_eq_true rfl⟩, (hB _ q2_131), (hB _ qs2_4)⟩ (ro_preV (GS_ok ad) hK hP hG hS [1, 2, 3] rfl (va_recv hK hP (ci := 0) (q0 := 1) rfl rfl)) rfl rfl hl.1 rfl (lv_room (Nat.le_of_ble_eq_true rfl)) dPo_isAttacked_17 ⟨Nat.le_of_ble_eq_true rfl, Nat.le_of_ble_eq_true rfl⟩) ?_
  refine ro_gol (va_runVN (C := "ChessRules$Board") (As := [.long (shl64 1 square), .int (1 - oS_side), .long (f_Bo_empty oS_board.2)]) (rest := []) ⟨hx, hb, hml, hown, hB⟩ (c_Bo_attackersOf l dC dI cI cJ cC ad o_board o_board_men o_board_sets oS_board.1 oS_board.2 (shl64 1 square) (1 - oS_side) (f_Bo_empty oS_board.2)) ⟨va_cnB 3 hB (big_self q2_136) rfl rfl rfl (hG.1 _ q2_231) (hB _ q1_5) (by decide +kernel) ⟨Nat.le_of_ble_eq_true rfl, Nat.le_of_ble_eq_true rfl⟩, (hB _ q2_135), (hB _ qs2_5)⟩ (ro_preV (GS_ok ad) hK hP hG hS [1, 2, 3] rfl (va_recv hK hP (ci := 0) (q0 := 1) rfl rfl)) rfl rfl hl.1 rfl (lv_room (Nat.le_of_ble_eq_true rfl)) dPo_isAttacked_20 ⟨Nat.le_of_ble_eq_true rfl, Nat.le_of_ble_eq_true rfl⟩) ?_
  refine lv_lconst (v := 0) hx hb dPo_isAttacked_23 (by decide) ?_
  refine W.lcmp hx hb dPo_isAttacked_24 ?_
  refine lv_if_eq (tgt := 32) hx hb dPo_isAttacked_25 (by decide) (fun q => let_c (h := (f_Bo_attackersOf oS_board.2 (shl64 1 square) (1 - oS_side) (f_Bo_empty oS_board.2)) = 0) (lgc_eq.1 q) (fun c_1 => ?_)) (fun q => let_c (h := ¬ (f_Bo_attackersOf oS_board.2 (shl64 1 square) (1 - oS_side) (f_Bo_empty oS_board.2)) = 0) (lgc_eq.2 q) (fun c_1 => ?_))
  · refine lv_iconst (v := 0) hx hb dPo_isAttacked_32 (by decide) ?_
    exact ro_retz hx hb hr rfl hlocks dPo_isAttacked_33 (Eq.symm (by rw [f_Po_isAttacked_eq, if_pos c_1] <;> rfl))
  · refine lv_iconst (v := 1) hx hb dPo_isAttacked_28 (by decide) ?_
    refine lv_goto (tgt := 33) hx hb dPo_isAttacked_29 (by decide) ?_
    exact ro_retz hx hb hr rfl hlocks dPo_isAttacked_33 (Eq.symm (by rw [f_Po_isAttacked_eq, if_neg c_1] <;> rfl))

abbrev cPo_castlingTargets : ByteArray := prog_5_method_13_code
def yPo_castlingTargets : MethodName := ⟨"ChessRules$Position", "castlingTargets", "()J"⟩
def wsPo_castlingTargets : List Cond := Cond.code yPo_castlingTargets cPo_castlingTargets 4 (some .long) :: BIG
theorem dPo_castlingTargets_0 : decode cPo_castlingTargets 0 = .ok (.aload_n 0, 1) := by decide +kernel
theorem dPo_castlingTargets_1 : decode cPo_castlingTargets 1 = .ok (.getfield 18, 3) := by decide +kernel
theorem dPo_castlingTargets_4 : decode cPo_castlingTargets 4 = .ok (.invokestatic 101, 3) := by decide +kernel
theorem dPo_castlingTargets_7 : decode cPo_castlingTargets 7 = .ok (.istore_n 1, 1) := by decide +kernel
theorem dPo_castlingTargets_8 : decode cPo_castlingTargets 8 = .ok (.lconst 0, 1) := by decide +kernel
theorem dPo_castlingTargets_9 : decode cPo_castlingTargets 9 = .ok (.lstore_n 2, 1) := by decide +kernel
theorem dPo_castlingTargets_10 : decode cPo_castlingTargets 10 = .ok (.aload_n 0, 1) := by decide +kernel
theorem dPo_castlingTargets_11 : decode cPo_castlingTargets 11 = .ok (.aload_n 0, 1) := by decide +kernel
theorem dPo_castlingTargets_12 : decode cPo_castlingTargets 12 = .ok (.getfield 18, 3) := by decide +kernel
theorem dPo_castlingTargets_15 : decode cPo_castlingTargets 15 = .ok (.iconst 0, 1) := by decide +kernel
theorem dPo_castlingTargets_16 : decode cPo_castlingTargets 16 = .ok (.invokevirtual 104, 3) := by decide +kernel
theorem dPo_castlingTargets_19 : decode cPo_castlingTargets 19 = .ok (.ifCond .eq 55, 3) := by decide +kernel
theorem dPo_castlingTargets_22 : decode cPo_castlingTargets 22 = .ok (.aload_n 0, 1) := by decide +kernel
theorem dPo_castlingTargets_23 : decode cPo_castlingTargets 23 = .ok (.getfield 12, 3) := by decide +kernel
theorem dPo_castlingTargets_26 : decode cPo_castlingTargets 26 = .ok (.iload_n 1, 1) := by decide +kernel
theorem dPo_castlingTargets_27 : decode cPo_castlingTargets 27 = .ok (.iconst 1, 1) := by decide +kernel
theorem dPo_castlingTargets_28 : decode cPo_castlingTargets 28 = .ok (.iadd, 1) := by decide +kernel
theorem dPo_castlingTargets_29 : decode cPo_castlingTargets 29 = .ok (.invokevirtual 107, 3) := by decide +kernel
theorem dPo_castlingTargets_32 : decode cPo_castlingTargets 32 = .ok (.ifCond .eq 42, 3) := by decide +kernel
theorem dPo_castlingTargets_35 : decode cPo_castlingTargets 35 = .ok (.aload_n 0, 1) := by decide +kernel
theorem dPo_castlingTargets_36 : decode cPo_castlingTargets 36 = .ok (.getfield 12, 3) := by decide +kernel
theorem dPo_castlingTargets_39 : decode cPo_castlingTargets 39 = .ok (.iload_n 1, 1) := by decide +kernel
theorem dPo_castlingTargets_40 : decode cPo_castlingTargets 40 = .ok (.iconst 2, 1) := by decide +kernel
theorem dPo_castlingTargets_41 : decode cPo_castlingTargets 41 = .ok (.iadd, 1) := by decide +kernel
theorem dPo_castlingTargets_42 : decode cPo_castlingTargets 42 = .ok (.invokevirtual 107, 3) := by decide +kernel
theorem dPo_castlingTargets_45 : decode cPo_castlingTargets 45 = .ok (.ifCond .eq 29, 3) := by decide +kernel
theorem dPo_castlingTargets_48 : decode cPo_castlingTargets 48 = .ok (.aload_n 0, 1) := by decide +kernel
theorem dPo_castlingTargets_49 : decode cPo_castlingTargets 49 = .ok (.iload_n 1, 1) := by decide +kernel
theorem dPo_castlingTargets_50 : decode cPo_castlingTargets 50 = .ok (.invokevirtual 110, 3) := by decide +kernel
theorem dPo_castlingTargets_53 : decode cPo_castlingTargets 53 = .ok (.ifCond .ne 21, 3) := by decide +kernel
theorem dPo_castlingTargets_56 : decode cPo_castlingTargets 56 = .ok (.aload_n 0, 1) := by decide +kernel
theorem dPo_castlingTargets_57 : decode cPo_castlingTargets 57 = .ok (.iload_n 1, 1) := by decide +kernel
theorem dPo_castlingTargets_58 : decode cPo_castlingTargets 58 = .ok (.iconst 1, 1) := by decide +kernel
theorem dPo_castlingTargets_59 : decode cPo_castlingTargets 59 = .ok (.iadd, 1) := by decide +kernel
theorem dPo_castlingTargets_60 : decode cPo_castlingTargets 60 = .ok (.invokevirtual 110, 3) := by decide +kernel
theorem dPo_castlingTargets_63 : decode cPo_castlingTargets 63 = .ok (.ifCond .ne 11, 3) := by decide +kernel
theorem dPo_castlingTargets_66 : decode cPo_castlingTargets 66 = .ok (.lload_n 2, 1) := by decide +kernel
theorem dPo_castlingTargets_67 : decode cPo_castlingTargets 67 = .ok (.lconst 1, 1) := by decide +kernel
theorem dPo_castlingTargets_68 : decode cPo_castlingTargets 68 = .ok (.iload_n 1, 1) := by decide +kernel
theorem dPo_castlingTargets_69 : decode cPo_castlingTargets 69 = .ok (.iconst 2, 1) := by decide +kernel
theorem dPo_castlingTargets_70 : decode cPo_castlingTargets 70 = .ok (.iadd, 1) := by decide +kernel
theorem dPo_castlingTargets_71 : decode cPo_castlingTargets 71 = .ok (.lshl, 1) := by decide +kernel
theorem dPo_castlingTargets_72 : decode cPo_castlingTargets 72 = .ok (.lor, 1) := by decide +kernel
theorem dPo_castlingTargets_73 : decode cPo_castlingTargets 73 = .ok (.lstore_n 2, 1) := by decide +kernel
theorem dPo_castlingTargets_74 : decode cPo_castlingTargets 74 = .ok (.aload_n 0, 1) := by decide +kernel
theorem dPo_castlingTargets_75 : decode cPo_castlingTargets 75 = .ok (.aload_n 0, 1) := by decide +kernel
theorem dPo_castlingTargets_76 : decode cPo_castlingTargets 76 = .ok (.getfield 18, 3) := by decide +kernel
theorem dPo_castlingTargets_79 : decode cPo_castlingTargets 79 = .ok (.iconst 1, 1) := by decide +kernel
theorem dPo_castlingTargets_80 : decode cPo_castlingTargets 80 = .ok (.invokevirtual 104, 3) := by decide +kernel
theorem dPo_castlingTargets_83 : decode cPo_castlingTargets 83 = .ok (.ifCond .eq 68, 3) := by decide +kernel
theorem dPo_castlingTargets_86 : decode cPo_castlingTargets 86 = .ok (.aload_n 0, 1) := by decide +kernel
theorem dPo_castlingTargets_87 : decode cPo_castlingTargets 87 = .ok (.getfield 12, 3) := by decide +kernel
theorem dPo_castlingTargets_90 : decode cPo_castlingTargets 90 = .ok (.iload_n 1, 1) := by decide +kernel
theorem dPo_castlingTargets_91 : decode cPo_castlingTargets 91 = .ok (.iconst 1, 1) := by decide +kernel
theorem dPo_castlingTargets_92 : decode cPo_castlingTargets 92 = .ok (.isub, 1) := by decide +kernel
theorem dPo_castlingTargets_93 : decode cPo_castlingTargets 93 = .ok (.invokevirtual 107, 3) := by decide +kernel
theorem dPo_castlingTargets_96 : decode cPo_castlingTargets 96 = .ok (.ifCond .eq 55, 3) := by decide +kernel
theorem dPo_castlingTargets_99 : decode cPo_castlingTargets 99 = .ok (.aload_n 0, 1) := by decide +kernel
theorem dPo_castlingTargets_100 : decode cPo_castlingTargets 100 = .ok (.getfield 12, 3) := by decide +kernel
theorem dPo_castlingTargets_103 : decode cPo_castlingTargets 103 = .ok (.iload_n 1, 1) := by decide +kernel
theorem dPo_castlingTargets_104 : decode cPo_castlingTargets 104 = .ok (.iconst 2, 1) := by decide +kernel
theorem dPo_castlingTargets_105 : decode cPo_castlingTargets 105 = .ok (.isub, 1) := by decide +kernel
theorem dPo_castlingTargets_106 : decode cPo_castlingTargets 106 = .ok (.invokevirtual 107, 3) := by decide +kernel
theorem dPo_castlingTargets_109 : decode cPo_castlingTargets 109 = .ok (.ifCond .eq 42, 3) := by decide +kernel
theorem dPo_castlingTargets_112 : decode cPo_castlingTargets 112 = .ok (.aload_n 0, 1) := by decide +kernel
theorem dPo_castlingTargets_113 : decode cPo_castlingTargets 113 = .ok (.getfield 12, 3) := by decide +kernel
theorem dPo_castlingTargets_116 : decode cPo_castlingTargets 116 = .ok (.iload_n 1, 1) := by decide +kernel
theorem dPo_castlingTargets_117 : decode cPo_castlingTargets 117 = .ok (.iconst 3, 1) := by decide +kernel
theorem dPo_castlingTargets_118 : decode cPo_castlingTargets 118 = .ok (.isub, 1) := by decide +kernel
theorem dPo_castlingTargets_119 : decode cPo_castlingTargets 119 = .ok (.invokevirtual 107, 3) := by decide +kernel
theorem dPo_castlingTargets_122 : decode cPo_castlingTargets 122 = .ok (.ifCond .eq 29, 3) := by decide +kernel
theorem dPo_castlingTargets_125 : decode cPo_castlingTargets 125 = .ok (.aload_n 0, 1) := by decide +kernel
theorem dPo_castlingTargets_126 : decode cPo_castlingTargets 126 = .ok (.iload_n 1, 1) := by decide +kernel
theorem dPo_castlingTargets_127 : decode cPo_castlingTargets 127 = .ok (.invokevirtual 110, 3) := by decide +kernel
theorem dPo_castlingTargets_130 : decode cPo_castlingTargets 130 = .ok (.ifCond .ne 21, 3) := by decide +kernel
theorem dPo_castlingTargets_133 : decode cPo_castlingTargets 133 = .ok (.aload_n 0, 1) := by decide +kernel
theorem dPo_castlingTargets_134 : decode cPo_castlingTargets 134 = .ok (.iload_n 1, 1) := by decide +kernel
theorem dPo_castlingTargets_135 : decode cPo_castlingTargets 135 = .ok (.iconst 1, 1) := by decide +kernel
theorem dPo_castlingTargets_136 : decode cPo_castlingTargets 136 = .ok (.isub, 1) := by decide +kernel
theorem dPo_castlingTargets_137 : decode cPo_castlingTargets 137 = .ok (.invokevirtual 110, 3) := by decide +kernel
theorem dPo_castlingTargets_140 : decode cPo_castlingTargets 140 = .ok (.ifCond .ne 11, 3) := by decide +kernel
theorem dPo_castlingTargets_143 : decode cPo_castlingTargets 143 = .ok (.lload_n 2, 1) := by decide +kernel
theorem dPo_castlingTargets_144 : decode cPo_castlingTargets 144 = .ok (.lconst 1, 1) := by decide +kernel
theorem dPo_castlingTargets_145 : decode cPo_castlingTargets 145 = .ok (.iload_n 1, 1) := by decide +kernel
theorem dPo_castlingTargets_146 : decode cPo_castlingTargets 146 = .ok (.iconst 2, 1) := by decide +kernel
theorem dPo_castlingTargets_147 : decode cPo_castlingTargets 147 = .ok (.isub, 1) := by decide +kernel
theorem dPo_castlingTargets_148 : decode cPo_castlingTargets 148 = .ok (.lshl, 1) := by decide +kernel
theorem dPo_castlingTargets_149 : decode cPo_castlingTargets 149 = .ok (.lor, 1) := by decide +kernel
theorem dPo_castlingTargets_150 : decode cPo_castlingTargets 150 = .ok (.lstore_n 2, 1) := by decide +kernel
theorem dPo_castlingTargets_151 : decode cPo_castlingTargets 151 = .ok (.lload_n 2, 1) := by decide +kernel
theorem dPo_castlingTargets_152 : decode cPo_castlingTargets 152 = .ok (.lreturn, 1) := by decide +kernel

def f_Po_castlingTargets_74 (oS_board : St_Bo) (oS_side : Int32) (oS_rights : Int32) (v2_74 : Int64) : Int64 :=
  (if (f_Po_hasRight oS_rights oS_side 1) = 0 then v2_74 else (if (f_Bo_isFree oS_board.1 ((f_Po_kingHome oS_side) - 1)) = 0 then v2_74 else (if (f_Bo_isFree oS_board.1 ((f_Po_kingHome oS_side) - 2)) = 0 then v2_74 else (if (f_Bo_isFree oS_board.1 ((f_Po_kingHome oS_side) - 3)) = 0 then v2_74 else (if (f_Po_isAttacked oS_board oS_side (f_Po_kingHome oS_side)) = 0 then (if (f_Po_isAttacked oS_board oS_side ((f_Po_kingHome oS_side) - 1)) = 0 then v2_74 ||| (shl64 1 ((f_Po_kingHome oS_side) - 2)) else v2_74) else v2_74)))))
theorem f_Po_castlingTargets_74_eq (oS_board : St_Bo) (oS_side : Int32) (oS_rights : Int32) (v2_74 : Int64) : f_Po_castlingTargets_74 oS_board oS_side oS_rights v2_74 =
  (if (f_Po_hasRight oS_rights oS_side 1) = 0 then v2_74 else (if (f_Bo_isFree oS_board.1 ((f_Po_kingHome oS_side) - 1)) = 0 then v2_74 else (if (f_Bo_isFree oS_board.1 ((f_Po_kingHome oS_side) - 2)) = 0 then v2_74 else (if (f_Bo_isFree oS_board.1 ((f_Po_kingHome oS_side) - 3)) = 0 then v2_74 else (if (f_Po_isAttacked oS_board oS_side (f_Po_kingHome oS_side)) = 0 then (if (f_Po_isAttacked oS_board oS_side ((f_Po_kingHome oS_side) - 1)) = 0 then v2_74 ||| (shl64 1 ((f_Po_kingHome oS_side) - 2)) else v2_74) else v2_74))))) := rfl

def f_Po_castlingTargets (oS_board : St_Bo) (oS_side : Int32) (oS_rights : Int32) : Int64 :=
  (if (f_Po_hasRight oS_rights oS_side 0) = 0 then f_Po_castlingTargets_74 oS_board oS_side oS_rights 0 else (if (f_Bo_isFree oS_board.1 ((f_Po_kingHome oS_side) + 1)) = 0 then f_Po_castlingTargets_74 oS_board oS_side oS_rights 0 else (if (f_Bo_isFree oS_board.1 ((f_Po_kingHome oS_side) + 2)) = 0 then f_Po_castlingTargets_74 oS_board oS_side oS_rights 0 else (if (f_Po_isAttacked oS_board oS_side (f_Po_kingHome oS_side)) = 0 then (if (f_Po_isAttacked oS_board oS_side ((f_Po_kingHome oS_side) + 1)) = 0 then f_Po_castlingTargets_74 oS_board oS_side oS_rights (0 ||| (shl64 1 ((f_Po_kingHome oS_side) + 2))) else f_Po_castlingTargets_74 oS_board oS_side oS_rights 0) else f_Po_castlingTargets_74 oS_board oS_side oS_rights 0))))
theorem f_Po_castlingTargets_eq (oS_board : St_Bo) (oS_side : Int32) (oS_rights : Int32) : f_Po_castlingTargets oS_board oS_side oS_rights =
  (if (f_Po_hasRight oS_rights oS_side 0) = 0 then f_Po_castlingTargets_74 oS_board oS_side oS_rights 0 else (if (f_Bo_isFree oS_board.1 ((f_Po_kingHome oS_side) + 1)) = 0 then f_Po_castlingTargets_74 oS_board oS_side oS_rights 0 else (if (f_Bo_isFree oS_board.1 ((f_Po_kingHome oS_side) + 2)) = 0 then f_Po_castlingTargets_74 oS_board oS_side oS_rights 0 else (if (f_Po_isAttacked oS_board oS_side (f_Po_kingHome oS_side)) = 0 then (if (f_Po_isAttacked oS_board oS_side ((f_Po_kingHome oS_side) + 1)) = 0 then f_Po_castlingTargets_74 oS_board oS_side oS_rights (0 ||| (shl64 1 ((f_Po_kingHome oS_side) + 2))) else f_Po_castlingTargets_74 oS_board oS_side oS_rights 0) else f_Po_castlingTargets_74 oS_board oS_side oS_rights 0)))) := rfl

set_option maxHeartbeats 4000000 in
set_option maxRecDepth 100000 in
theorem c_Po_castlingTargets (l : Launch) (dC : Nat → ClassId) (dI : Nat → Nat → Nat) (cI cJ cC : ClassId) (ad : Nat → Nat) (o o_board o_board_men o_board_sets : Nat) (oS_board : St_Bo) (oS_side : Int32) (oS_rights : Int32) (oS_passed : Int32) (oS_clock : Int32) (oS_number : Int32) : Met l yPo_castlingTargets wsPo_castlingTargets { frames := 3, cells := 0, slots := 0, locals := 85 } (roP dC dI (TYS cI cJ cC) [.ref o] [(o, .inr (3, [.ref o_board, .int oS_side, .int oS_rights, .int oS_passed, .int oS_clock, .int oS_number])), (o_board, .inr (0, [.ref o_board_men, .ref o_board_sets])), (o_board_men, .inl (cI, 64, .inl oS_board.1)), (o_board_sets, .inl (cJ, 16, .inr (.inl oS_board.2)))] (GS ad)) (vp_Sl (fun r => r = f_Po_castlingTargets oS_board oS_side oS_rights)) 0 0 (fun _ => False) := by
  refine Met.ofW (cc := cPo_castlingTargets) (maxL := 4) (ret := (some .long)) (by decide) rfl ?_
  intro p e s m args below meth c s₁ B hml hv
  obtain ⟨rfl, hP, hK, hG⟩ := hv
  have hx := B.exec
  have hb := B.bytes
  have hr := B.returns
  have hB : ∀ w9 ∈ BIG, w9.before ([.ref o]).toArray s = true := fun w9 h => atoms_spec (ws := wsPo_castlingTargets) B.pre w9 (List.mem_cons_of_mem _ h)
  have hown : s.vm.findClass "ChessRules$Position" = some m.cls := findClass_of_methodNamed B.named
  have hlocks := B.notSynchronized
  have hS : va_S (fun _ => False) s.heap s.heap [] := va_S.rf
  have hP : va_P (dC, dI) vwCl [(o, .inr (3, [.ref o_board, .int oS_side, .int oS_rights, .int oS_passed, .int oS_clock, .int oS_number])), (o_board, .inr (0, [.ref o_board_men, .ref o_board_sets])), (o_board_men, .inl (cI, 64, .inl oS_board.1)), (o_board_sets, .inl (cJ, 16, .inr (.inl oS_board.2)))] s.heap := hP
  have hl := lv_entry ([.ref o]) (n := 4) (Nat.le_of_ble_eq_true rfl)
  rw [lg_entry_eq]
  generalize (lg_sl ([.ref o]) ++ List.replicate (4 - (lg_sl ([.ref o])).length) Slot.unset).toArray = ls at hl ⊢
  have hl : lv_has ls 4 [(0, .ref o)] := hl
  refine lv_aload_n hx hb dPo_castlingTargets_0 rfl (lv_at hl 0 rfl) ?_
  refine va_get (D := (dC, dI)) (ci := 3) (v := .int oS_side) (C := RPo) (T := TPo) (N := 6) hx hb hB inPo hown hK hP 0 rfl rfl 1 (by decide) (hB _ q1_83) (fun _ h9 => h9) rfl dPo_castlingTargets_1 ?_
  refine ro_goi (va_runS (As := [.int oS_side]) (rest := []) ⟨hx, hb, hml, hown, hB⟩ (c_Po_kingHome l dC dI cI cJ cC ad oS_side) ⟨callB_of 1 hB (big_self q2_164) rfl rfl rfl (hB _ q1_4) (hB _ q3_119) (by decide +kernel) ⟨Nat.le_of_ble_eq_true rfl, Nat.le_of_ble_eq_true rfl⟩, (hB _ q2_163)⟩ (ro_preS (GS_ok ad) hK hP hG hS [] rfl) rfl rfl hl.1 rfl (lv_room (Nat.le_of_ble_eq_true rfl)) dPo_castlingTargets_4 ⟨Nat.le_of_ble_eq_true rfl, Nat.le_of_ble_eq_true rfl⟩) ?_
  refine lv_istore_n (lv' := [(1, .int (f_Po_kingHome oS_side)), (0, .ref o)]) hx hb dPo_castlingTargets_7 rfl hl (by decide) rfl (fun ls hl => ?_)
  refine lv_lconst (v := 0) hx hb dPo_castlingTargets_8 (by decide) ?_
  refine lv_lstore_n (lv' := [(2, .long 0), (1, .int (f_Po_kingHome oS_side)), (0, .ref o)]) hx hb dPo_castlingTargets_9 rfl hl (by decide) rfl (fun ls hl => ?_)
  refine lv_aload_n hx hb dPo_castlingTargets_10 rfl (lv_at hl 2 rfl) ?_
  refine lv_aload_n hx hb dPo_castlingTargets_11 rfl (lv_at hl 2 rfl) ?_
  refine va_get (D := (dC, dI)) (ci := 3) (v := .int oS_side) (C := RPo) (T := TPo) (N := 6) hx hb hB inPo hown hK hP 0 rfl rfl 1 (by decide) (hB _ q1_83) (fun _ h9 => h9) rfl dPo_castlingTargets_12 ?_
  refine lv_iconst (v := 0) hx hb dPo_castlingTargets_15 (by decide) ?_
  refine ro_goi (va_runV (C := "ChessRules$Position") (As := [.int oS_side, .int 0]) (rest := []) ⟨hx, hb, hml, hown, hB⟩ (c_Po_hasRight l dC dI cI cJ cC ad o o_board o_board_men o_board_sets oS_board oS_side oS_rights oS_passed oS_clock oS_number oS_side 0) ⟨callB_of 2 hB (big_self q2_175) rfl rfl rfl (hB _ q1_4) (hB _ q3_120) (by decide +kernel) ⟨Nat.le_of_ble_eq_true rfl, Nat.le_of_ble_eq_true rfl⟩, (hB _ q2_174), (hB _ qs2_8)⟩ (ro_preV (GS_ok ad) hK hP hG hS [0, 1, 2, 3] rfl (va_recv hK hP (ci := 3) (q0 := 0) rfl rfl)) rfl rfl hl.1 rfl (lv_room (Nat.le_of_ble_eq_true rfl)) dPo_castlingTargets_16 ⟨Nat.le_of_ble_eq_true rfl, Nat.le_of_ble_eq_true rfl⟩) ?_
  have J_74 : ∀ (v2_74 : Int64), f_Po_castlingTargets oS_board oS_side oS_rights = f_Po_castlingTargets_74 oS_board oS_side oS_rights v2_74 → ∀ ls : Array Slot, lv_has ls 4 [(0, .ref o), (1, .int (f_Po_kingHome oS_side)), (2, .long v2_74)] → W p l e (headSpec wsPo_castlingTargets { frames := 3, cells := 0, slots := 0, locals := 85 }).room s m ([.ref o]).toArray below meth c s.heap [] 0 0 (MQ below (vp_Sl (fun r => r = f_Po_castlingTargets oS_board oS_side oS_rights)) ([.ref o]).toArray s 0 0 (fun _ => False)) (F0 m 74 ls []) := by
    intro v2_74 he_74 ls hl
    refine lv_aload_n hx hb dPo_castlingTargets_74 rfl (lv_at hl 0 rfl) ?_
    refine lv_aload_n hx hb dPo_castlingTargets_75 rfl (lv_at hl 0 rfl) ?_
    refine va_get (D := (dC, dI)) (ci := 3) (v := .int oS_side) (C := RPo) (T := TPo) (N := 6) hx hb hB inPo hown hK hP 0 rfl rfl 1 (by decide) (hB _ q1_83) (fun _ h9 => h9) rfl dPo_castlingTargets_76 ?_
    refine lv_iconst (v := 1) hx hb dPo_castlingTargets_79 (by decide) ?_
    refine ro_goi (va_runV (C := "ChessRules$Position") (As := [.int oS_side, .int 1]) (rest := []) ⟨hx, hb, hml, hown, hB⟩ (c_Po_hasRight l dC dI cI cJ cC ad o o_board o_board_men o_board_sets oS_board oS_side oS_rights oS_passed oS_clock oS_number oS_side 1) ⟨callB_of 2 hB (big_self q2_175) rfl rfl rfl (hB _ q1_4) (hB _ q3_120) (by decide +kernel) ⟨Nat.le_of_ble_eq_true rfl, Nat.le_of_ble_eq_true rfl⟩, (hB _ q2_174), (hB _ qs2_8)⟩ (ro_preV (GS_ok ad) hK hP hG hS [0, 1, 2, 3] rfl (va_recv hK hP (ci := 3) (q0 := 0) rfl rfl)) rfl rfl hl.1 rfl (lv_room (Nat.le_of_ble_eq_true rfl)) dPo_castlingTargets_80 ⟨Nat.le_of_ble_eq_true rfl, Nat.le_of_ble_eq_true rfl⟩) ?_
    refine lv_if_eq (tgt := 151) hx hb dPo_castlingTargets_83 (by decide) (fun c_1 => ?_) (fun c_1 => ?_)
    · refine lv_lload_n hx hb dPo_castlingTargets_151 rfl (lv_at hl 2 rfl) ?_
      exact ro_retl hx hb hr hlocks dPo_castlingTargets_152 (Eq.symm (he_74.trans (by rw [f_Po_castlingTargets_74_eq, if_pos c_1] <;> rfl)))
    · refine lv_aload_n hx hb dPo_castlingTargets_86 rfl (lv_at hl 0 rfl) ?_
      refine va_get (D := (dC, dI)) (ci := 3) (v := .ref o_board) (C := RPo) (T := TPo) (N := 6) hx hb hB inPo hown hK hP 0 rfl rfl 0 (by decide) (hB _ q1_77) (fun _ h9 => h9) rfl dPo_castlingTargets_87 ?_
      refine lv_iload_n hx hb dPo_castlingTargets_90 rfl (lv_at hl 1 rfl) ?_
      refine lv_iconst (v := 1) hx hb dPo_castlingTargets_91 (by decide) ?_
      refine lv_isub hx hb dPo_castlingTargets_92 ?_
      refine ro_goi (va_runVN (C := "ChessRules$Board") (As := [.int ((f_Po_kingHome oS_side) - 1)]) (rest := []) ⟨hx, hb, hml, hown, hB⟩ (c_Bo_isFree l dC dI cI cJ cC ad o_board o_board_men o_board_sets oS_board.1 oS_board.2 ((f_Po_kingHome oS_side) - 1)) ⟨va_cnB 1 hB (big_self q2_183) rfl rfl rfl (hG.1 _ q3_121) (hB _ q1_5) (by decide +kernel) ⟨Nat.le_of_ble_eq_true rfl, Nat.le_of_ble_eq_true rfl⟩, (hB _ q2_182), (hB _ qs2_10)⟩ (ro_preV (GS_ok ad) hK hP hG hS [1, 2, 3] rfl (va_recv hK hP (ci := 0) (q0 := 1) rfl rfl)) rfl rfl hl.1 rfl (lv_room (Nat.le_of_ble_eq_true rfl)) dPo_castlingTargets_93 ⟨Nat.le_of_ble_eq_true rfl, Nat.le_of_ble_eq_true rfl⟩) ?_
      refine lv_if_eq (tgt := 151) hx hb dPo_castlingTargets_96 (by decide) (fun c_2 => ?_) (fun c_2 => ?_)
      · refine lv_lload_n hx hb dPo_castlingTargets_151 rfl (lv_at hl 2 rfl) ?_
        exact ro_retl hx hb hr hlocks dPo_castlingTargets_152 (Eq.symm (he_74.trans (by rw [f_Po_castlingTargets_74_eq, if_neg c_1, if_pos c_2] <;> rfl)))
      · refine lv_aload_n hx hb dPo_castlingTargets_99 rfl (lv_at hl 0 rfl) ?_
        refine va_get (D := (dC, dI)) (ci := 3) (v := .ref o_board) (C := RPo) (T := TPo) (N := 6) hx hb hB inPo hown hK hP 0 rfl rfl 0 (by decide) (hB _ q1_77) (fun _ h9 => h9) rfl dPo_castlingTargets_100 ?_
        refine lv_iload_n hx hb dPo_castlingTargets_103 rfl (lv_at hl 1 rfl) ?_
        refine lv_iconst (v := 2) hx hb dPo_castlingTargets_104 (by decide) ?_
        refine lv_isub hx hb dPo_castlingTargets_105 ?_
        refine ro_goi (va_runVN (C := "ChessRules$Board") (As := [.int ((f_Po_kingHome oS_side) - 2)]) (rest := []) ⟨hx, hb, hml, hown, hB⟩ (c_Bo_isFree l dC dI cI cJ cC ad o_board o_board_men o_board_sets oS_board.1 oS_board.2 ((f_Po_kingHome oS_side) - 2)) ⟨va_cnB 1 hB (big_self q2_183) rfl rfl rfl (hG.1 _ q3_121) (hB _ q1_5) (by decide +kernel) ⟨Nat.le_of_ble_eq_true rfl, Nat.le_of_ble_eq_true rfl⟩, (hB _ q2_182), (hB _ qs2_10)⟩ (ro_preV (GS_ok ad) hK hP hG hS [1, 2, 3] rfl (va_recv hK hP (ci := 0) (q0 := 1) rfl rfl)) rfl rfl hl.1 rfl (lv_room (Nat.le_of_ble_eq_true rfl)) dPo_castlingTargets_106 ⟨Nat.le_of_ble_eq_true rfl, Nat.le_of_ble_eq_true rfl⟩) ?_
        refine lv_if_eq (tgt := 151) hx hb dPo_castlingTargets_109 (by decide) (fun c_3 => ?_) (fun c_3 => ?_)
        · refine lv_lload_n hx hb dPo_castlingTargets_151 rfl (lv_at hl 2 rfl) ?_
          exact ro_retl hx hb hr hlocks dPo_castlingTargets_152 (Eq.symm (he_74.trans (by rw [f_Po_castlingTargets_74_eq, if_neg c_1, if_neg c_2, if_pos c_3] <;> rfl)))
        · refine lv_aload_n hx hb dPo_castlingTargets_112 rfl (lv_at hl 0 rfl) ?_
          refine va_get (D := (dC, dI)) (ci := 3) (v := .ref o_board) (C := RPo) (T := TPo) (N := 6) hx hb hB inPo hown hK hP 0 rfl rfl 0 (by decide) (hB _ q1_77) (fun _ h9 => h9) rfl dPo_castlingTargets_113 ?_
          refine lv_iload_n hx hb dPo_castlingTargets_116 rfl (lv_at hl 1 rfl) ?_
          refine lv_iconst (v := 3) hx hb dPo_castlingTargets_117 (by decide) ?_
          refine lv_isub hx hb dPo_castlingTargets_118 ?_
          refine ro_goi (va_runVN (C := "ChessRules$Board") (As := [.int ((f_Po_kingHome oS_side) - 3)]) (rest := []) ⟨hx, hb, hml, hown, hB⟩ (c_Bo_isFree l dC dI cI cJ cC ad o_board o_board_men o_board_sets oS_board.1 oS_board.2 ((f_Po_kingHome oS_side) - 3)) ⟨va_cnB 1 hB (big_self q2_183) rfl rfl rfl (hG.1 _ q3_121) (hB _ q1_5) (by decide +kernel) ⟨Nat.le_of_ble_eq_true rfl, Nat.le_of_ble_eq_true rfl⟩, (hB _ q2_182), (hB _ qs2_10)⟩ (ro_preV (GS_ok ad) hK hP hG hS [1, 2, 3] rfl (va_recv hK hP (ci := 0) (q0 := 1) rfl rfl)) rfl rfl hl.1 rfl (lv_room (Nat.le_of_ble_eq_true rfl)) dPo_castlingTargets_119 ⟨Nat.le_of_ble_eq_true rfl, Nat.le_of_ble_eq_true rfl⟩) ?_
          refine lv_if_eq (tgt := 151) hx hb dPo_castlingTargets_122 (by decide) (fun c_4 => ?_) (fun c_4 => ?_)
          · refine lv_lload_n hx hb dPo_castlingTargets_151 rfl (lv_at hl 2 rfl) ?_
            exact ro_retl hx hb hr hlocks dPo_castlingTargets_152 (Eq.symm (he_74.trans (by rw [f_Po_castlingTargets_74_eq, if_neg c_1, if_neg c_2, if_neg c_3, if_pos c_4] <;> rfl)))
          · refine lv_aload_n hx hb dPo_castlingTargets_125 rfl (lv_at hl 0 rfl) ?_
            refine lv_iload_n hx hb dPo_castlingTargets_126 rfl (lv_at hl 1 rfl) ?_
            refine ro_goi (va_runV (C := "ChessRules$Position") (As := [.int (f_Po_kingHome oS_side)]) (rest := []) ⟨hx, hb, hml, hown, hB⟩ (c_Po_isAttacked l dC dI cI cJ cC ad o o_board o_board_men o_board_sets oS_board oS_side oS_rights oS_passed oS_clock oS_number (f_Po_kingHome oS_side)) ⟨callB_of 1 hB (big_self q3_125) rfl rfl rfl (hB _ q1_4) (hB _ q3_122) (by decide +kernel) ⟨Nat.le_of_ble_eq_true rfl, Nat.le_of_ble_eq_true rfl⟩, (hB _ q3_124), (hB _ qs3_13)⟩ (ro_preV (GS_ok ad) hK hP hG hS [0, 1, 2, 3] rfl (va_recv hK hP (ci := 3) (q0 := 0) rfl rfl)) rfl rfl hl.1 rfl (lv_room (Nat.le_of_ble_eq_true rfl)) dPo_castlingTargets_127 ⟨Nat.le_of_ble_eq_true rfl, Nat.le_of_ble_eq_true rfl⟩) ?_
            refine lv_if_ne (tgt := 151) hx hb dPo_castlingTargets_130 (by decide) (fun c_5 => ?_) (fun c_5 => ?_)
            · refine lv_lload_n hx hb dPo_castlingTargets_151 rfl (lv_at hl 2 rfl) ?_
              exact ro_retl hx hb hr hlocks dPo_castlingTargets_152 (Eq.symm (he_74.trans (by rw [f_Po_castlingTargets_74_eq, if_neg c_1, if_neg c_2, if_neg c_3, if_neg c_4, if_neg c_5] <;> rfl)))
            · refine lv_aload_n hx hb dPo_castlingTargets_133 rfl (lv_at hl 0 rfl) ?_
              refine lv_iload_n hx hb dPo_castlingTargets_134 rfl (lv_at hl 1 rfl) ?_
              refine lv_iconst (v := 1) hx hb dPo_castlingTargets_135 (by decide) ?_
              refine lv_isub hx hb dPo_castlingTargets_136 ?_
              refine ro_goi (va_runV (C := "ChessRules$Position") (As := [.int ((f_Po_kingHome oS_side) - 1)]) (rest := []) ⟨hx, hb, hml, hown, hB⟩ (c_Po_isAttacked l dC dI cI cJ cC ad o o_board o_board_men o_board_sets oS_board oS_side oS_rights oS_passed oS_clock oS_number ((f_Po_kingHome oS_side) - 1)) ⟨callB_of 1 hB (big_self q3_125) rfl rfl rfl (hB _ q1_4) (hB _ q3_122) (by decide +kernel) ⟨Nat.le_of_ble_eq_true rfl, Nat.le_of_ble_eq_true rfl⟩, (hB _ q3_124), (hB _ qs3_13)⟩ (ro_preV (GS_ok ad) hK hP hG hS [0, 1, 2, 3] rfl (va_recv hK hP (ci := 3) (q0 := 0) rfl rfl)) rfl rfl hl.1 rfl (lv_room (Nat.le_of_ble_eq_true rfl)) dPo_castlingTargets_137 ⟨Nat.le_of_ble_eq_true rfl, Nat.le_of_ble_eq_true rfl⟩) ?_
              refine lv_if_ne (tgt := 151) hx hb dPo_castlingTargets_140 (by decide) (fun c_6 => ?_) (fun c_6 => ?_)
              · refine lv_lload_n hx hb dPo_castlingTargets_151 rfl (lv_at hl 2 rfl) ?_
                exact ro_retl hx hb hr hlocks dPo_castlingTargets_152 (Eq.symm (he_74.trans (by rw [f_Po_castlingTargets_74_eq, if_neg c_1, if_neg c_2, if_neg c_3, if_neg c_4, if_pos c_5, if_neg c_6] <;> rfl)))
              · refine lv_lload_n hx hb dPo_castlingTargets_143 rfl (lv_at hl 2 rfl) ?_
                refine lv_lconst (v := 1) hx hb dPo_castlingTargets_144 (by decide) ?_
                refine lv_iload_n hx hb dPo_castlingTargets_145 rfl (lv_at hl 1 rfl) ?_
                refine lv_iconst (v := 2) hx hb dPo_castlingTargets_146 (by decide) ?_
                refine lv_isub hx hb dPo_castlingTargets_147 ?_
                refine lv_lshl (v := shl64 1 ((f_Po_kingHome oS_side) - 2)) hx hb dPo_castlingTargets_148 rfl ?_
                refine lv_lor hx hb dPo_castlingTargets_149 ?_
                refine lv_lstore_n (lv' := [(2, .long (v2_74 ||| (shl64 1 ((f_Po_kingHome oS_side) - 2)))), (0, .ref o), (1, .int (f_Po_kingHome oS_side))]) hx hb dPo_castlingTargets_150 rfl hl (by decide) rfl (fun ls hl => ?_)
                refine lv_lload_n hx hb dPo_castlingTargets_151 rfl (lv_at hl 0 rfl) ?_
                exact ro_retl hx hb hr hlocks dPo_castlingTargets_152 (Eq.symm (he_74.trans (by rw [f_Po_castlingTargets_74_eq, if_neg c_1, if_neg c_2, if_neg c_3, if_neg c_4, if_pos c_5, if_pos c_6] <;> rfl)))
  refine lv_if_eq (tgt := 74) hx hb dPo_castlingTargets_19 (by decide) (fun c_7 => ?_) (fun c_7 => ?_)
  · exact J_74 0 (by rw [f_Po_castlingTargets_eq, if_pos c_7] <;> rfl) ls (lv_sub hl [2, 1, 0] rfl)
  · refine lv_aload_n hx hb dPo_castlingTargets_22 rfl (lv_at hl 2 rfl) ?_
    refine va_get (D := (dC, dI)) (ci := 3) (v := .ref o_board) (C := RPo) (T := TPo) (N := 6) hx hb hB inPo hown hK hP 0 rfl rfl 0 (by decide) (hB _ q1_77) (fun _ h9 => h9) rfl dPo_castlingTargets_23 ?_
    refine lv_iload_n hx hb dPo_castlingTargets_26 rfl (lv_at hl 1 rfl) ?_
    refine lv_iconst (v := 1) hx hb dPo_castlingTargets_27 (by decide) ?_
    refine lv_iadd hx hb dPo_castlingTargets_28 ?_
    refine ro_goi (va_runVN (C := "ChessRules$Board") (As := [.int ((f_Po_kingHome oS_side) + 1)]) (rest := []) ⟨hx, hb, hml, hown, hB⟩ (c_Bo_isFree l dC dI cI cJ cC ad o_board o_board_men o_board_sets oS_board.1 oS_board.2 ((f_Po_kingHome oS_side) + 1)) ⟨va_cnB 1 hB (big_self q2_183) rfl rfl rfl (hG.1 _ q3_121) (hB _ q1_5) (by decide +kernel) ⟨Nat.le_of_ble_eq_true rfl, Nat.le_of_ble_eq_true rfl⟩, (hB _ q2_182), (hB _ qs2_10)⟩ (ro_preV (GS_ok ad) hK hP hG hS [1, 2, 3] rfl (va_recv hK hP (ci := 0) (q0 := 1) rfl rfl)) rfl rfl hl.1 rfl (lv_room (Nat.le_of_ble_eq_true rfl)) dPo_castlingTargets_29 ⟨Nat.le_of_ble_eq_true rfl, Nat.le_of_ble_eq_true rfl⟩) ?_
    refine lv_if_eq (tgt := 74) hx hb dPo_castlingTargets_32 (by decide) (fun c_8 => ?_) (fun c_8 => ?_)
    · exact J_74 0 (by rw [f_Po_castlingTargets_eq, if_neg c_7, if_pos c_8] <;> rfl) ls (lv_sub hl [2, 1, 0] rfl)
    · refine lv_aload_n hx hb dPo_castlingTargets_35 rfl (lv_at hl 2 rfl) ?_
      refine va_get (D := (dC, dI)) (ci := 3) (v := .ref o_board) (C := RPo) (T := TPo) (N := 6) hx hb hB inPo hown hK hP 0 rfl rfl 0 (by decide) (hB _ q1_77) (fun _ h9 => h9) rfl dPo_castlingTargets_36 ?_
      refine lv_iload_n hx hb dPo_castlingTargets_39 rfl (lv_at hl 1 rfl) ?_
      refine lv_iconst (v := 2) hx hb dPo_castlingTargets_40 (by decide) ?_
      refine lv_iadd hx hb dPo_castlingTargets_41 ?_
      refine ro_goi (va_runVN (C := "ChessRules$Board") (As := [.int ((f_Po_kingHome oS_side) + 2)]) (rest := []) ⟨hx, hb, hml, hown, hB⟩ (c_Bo_isFree l dC dI cI cJ cC ad o_board o_board_men o_board_sets oS_board.1 oS_board.2 ((f_Po_kingHome oS_side) + 2)) ⟨va_cnB 1 hB (big_self q2_183) rfl rfl rfl (hG.1 _ q3_121) (hB _ q1_5) (by decide +kernel) ⟨Nat.le_of_ble_eq_true rfl, Nat.le_of_ble_eq_true rfl⟩, (hB _ q2_182), (hB _ qs2_10)⟩ (ro_preV (GS_ok ad) hK hP hG hS [1, 2, 3] rfl (va_recv hK hP (ci := 0) (q0 := 1) rfl rfl)) rfl rfl hl.1 rfl (lv_room (Nat.le_of_ble_eq_true rfl)) dPo_castlingTargets_42 ⟨Nat.le_of_ble_eq_true rfl, Nat.le_of_ble_eq_true rfl⟩) ?_
      refine lv_if_eq (tgt := 74) hx hb dPo_castlingTargets_45 (by decide) (fun c_9 => ?_) (fun c_9 => ?_)
      · exact J_74 0 (by rw [f_Po_castlingTargets_eq, if_neg c_7, if_neg c_8, if_pos c_9] <;> rfl) ls (lv_sub hl [2, 1, 0] rfl)
      · refine lv_aload_n hx hb dPo_castlingTargets_48 rfl (lv_at hl 2 rfl) ?_
        refine lv_iload_n hx hb dPo_castlingTargets_49 rfl (lv_at hl 1 rfl) ?_
        refine ro_goi (va_runV (C := "ChessRules$Position") (As := [.int (f_Po_kingHome oS_side)]) (rest := []) ⟨hx, hb, hml, hown, hB⟩ (c_Po_isAttacked l dC dI cI cJ cC ad o o_board o_board_men o_board_sets oS_board oS_side oS_rights oS_passed oS_clock oS_number (f_Po_kingHome oS_side)) ⟨callB_of 1 hB (big_self q3_125) rfl rfl rfl (hB _ q1_4) (hB _ q3_122) (by decide +kernel) ⟨Nat.le_of_ble_eq_true rfl, Nat.le_of_ble_eq_true rfl⟩, (hB _ q3_124), (hB _ qs3_13)⟩ (ro_preV (GS_ok ad) hK hP hG hS [0, 1, 2, 3] rfl (va_recv hK hP (ci := 3) (q0 := 0) rfl rfl)) rfl rfl hl.1 rfl (lv_room (Nat.le_of_ble_eq_true rfl)) dPo_castlingTargets_50 ⟨Nat.le_of_ble_eq_true rfl, Nat.le_of_ble_eq_true rfl⟩) ?_
        refine lv_if_ne (tgt := 74) hx hb dPo_castlingTargets_53 (by decide) (fun c_10 => ?_) (fun c_10 => ?_)
        · exact J_74 0 (by rw [f_Po_castlingTargets_eq, if_neg c_7, if_neg c_8, if_neg c_9, if_neg c_10] <;> rfl) ls (lv_sub hl [2, 1, 0] rfl)
        · refine lv_aload_n hx hb dPo_castlingTargets_56 rfl (lv_at hl 2 rfl) ?_
          refine lv_iload_n hx hb dPo_castlingTargets_57 rfl (lv_at hl 1 rfl) ?_
          refine lv_iconst (v := 1) hx hb dPo_castlingTargets_58 (by decide) ?_
          refine lv_iadd hx hb dPo_castlingTargets_59 ?_
          refine ro_goi (va_runV (C := "ChessRules$Position") (As := [.int ((f_Po_kingHome oS_side) + 1)]) (rest := []) ⟨hx, hb, hml, hown, hB⟩ (c_Po_isAttacked l dC dI cI cJ cC ad o o_board o_board_men o_board_sets oS_board oS_side oS_rights oS_passed oS_clock oS_number ((f_Po_kingHome oS_side) + 1)) ⟨callB_of 1 hB (big_self q3_125) rfl rfl rfl (hB _ q1_4) (hB _ q3_122) (by decide +kernel) ⟨Nat.le_of_ble_eq_true rfl, Nat.le_of_ble_eq_true rfl⟩, (hB _ q3_124), (hB _ qs3_13)⟩ (ro_preV (GS_ok ad) hK hP hG hS [0, 1, 2, 3] rfl (va_recv hK hP (ci := 3) (q0 := 0) rfl rfl)) rfl rfl hl.1 rfl (lv_room (Nat.le_of_ble_eq_true rfl)) dPo_castlingTargets_60 ⟨Nat.le_of_ble_eq_true rfl, Nat.le_of_ble_eq_true rfl⟩) ?_
          refine lv_if_ne (tgt := 74) hx hb dPo_castlingTargets_63 (by decide) (fun c_11 => ?_) (fun c_11 => ?_)
          · exact J_74 0 (by rw [f_Po_castlingTargets_eq, if_neg c_7, if_neg c_8, if_neg c_9, if_pos c_10, if_neg c_11] <;> rfl) ls (lv_sub hl [2, 1, 0] rfl)
          · refine lv_lload_n hx hb dPo_castlingTargets_66 rfl (lv_at hl 0 rfl) ?_
            refine lv_lconst (v := 1) hx hb dPo_castlingTargets_67 (by decide) ?_
            refine lv_iload_n hx hb dPo_castlingTargets_68 rfl (lv_at hl 1 rfl) ?_
            refine lv_iconst (v := 2) hx hb dPo_castlingTargets_69 (by decide) ?_
            refine lv_iadd hx hb dPo_castlingTargets_70 ?_
            refine lv_lshl (v := shl64 1 ((f_Po_kingHome oS_side) + 2)) hx hb dPo_castlingTargets_71 rfl ?_
            refine lv_lor hx hb dPo_castlingTargets_72 ?_
            refine lv_lstore_n (lv' := [(2, .long (0 ||| (shl64 1 ((f_Po_kingHome oS_side) + 2)))), (1, .int (f_Po_kingHome oS_side)), (0, .ref o)]) hx hb dPo_castlingTargets_73 rfl hl (by decide) rfl (fun ls hl => ?_)
            exact J_74 (0 ||| (shl64 1 ((f_Po_kingHome oS_side) + 2))) (by rw [f_Po_castlingTargets_eq, if_neg c_7, if_neg c_8, if_neg c_9, if_pos c_10, if_pos c_11] <;> rfl) ls (lv_sub hl [2, 1, 0] rfl)

abbrev cPo_exposed : ByteArray := prog_5_method_15_code
def yPo_exposed : MethodName := ⟨"ChessRules$Position", "exposed", "()J"⟩
def wsPo_exposed : List Cond := Cond.code yPo_exposed cPo_exposed 1 (some .long) :: BIG
theorem dPo_exposed_0 : decode cPo_exposed 0 = .ok (.aload_n 0, 1) := by decide +kernel
theorem dPo_exposed_1 : decode cPo_exposed 1 = .ok (.getfield 12, 3) := by decide +kernel
theorem dPo_exposed_4 : decode cPo_exposed 4 = .ok (.aload_n 0, 1) := by decide +kernel
theorem dPo_exposed_5 : decode cPo_exposed 5 = .ok (.getfield 18, 3) := by decide +kernel
theorem dPo_exposed_8 : decode cPo_exposed 8 = .ok (.invokevirtual 42, 3) := by decide +kernel
theorem dPo_exposed_11 : decode cPo_exposed 11 = .ok (.ifCond .eq 15, 3) := by decide +kernel
theorem dPo_exposed_14 : decode cPo_exposed 14 = .ok (.aload_n 0, 1) := by decide +kernel
theorem dPo_exposed_15 : decode cPo_exposed 15 = .ok (.getfield 12, 3) := by decide +kernel
theorem dPo_exposed_18 : decode cPo_exposed 18 = .ok (.aload_n 0, 1) := by decide +kernel
theorem dPo_exposed_19 : decode cPo_exposed 19 = .ok (.getfield 18, 3) := by decide +kernel
theorem dPo_exposed_22 : decode cPo_exposed 22 = .ok (.invokevirtual 78, 3) := by decide +kernel
theorem dPo_exposed_25 : decode cPo_exposed 25 = .ok (.lreturn, 1) := by decide +kernel
theorem dPo_exposed_26 : decode cPo_exposed 26 = .ok (.aload_n 0, 1) := by decide +kernel
theorem dPo_exposed_27 : decode cPo_exposed 27 = .ok (.getfield 12, 3) := by decide +kernel
theorem dPo_exposed_30 : decode cPo_exposed 30 = .ok (.bipush 6, 2) := by decide +kernel
theorem dPo_exposed_32 : decode cPo_exposed 32 = .ok (.aload_n 0, 1) := by decide +kernel
theorem dPo_exposed_33 : decode cPo_exposed 33 = .ok (.getfield 18, 3) := by decide +kernel
theorem dPo_exposed_36 : decode cPo_exposed 36 = .ok (.invokevirtual 56, 3) := by decide +kernel
theorem dPo_exposed_39 : decode cPo_exposed 39 = .ok (.aload_n 0, 1) := by decide +kernel
theorem dPo_exposed_40 : decode cPo_exposed 40 = .ok (.getfield 12, 3) := by decide +kernel
theorem dPo_exposed_43 : decode cPo_exposed 43 = .ok (.aload_n 0, 1) := by decide +kernel
theorem dPo_exposed_44 : decode cPo_exposed 44 = .ok (.getfield 18, 3) := by decide +kernel
theorem dPo_exposed_47 : decode cPo_exposed 47 = .ok (.invokevirtual 117, 3) := by decide +kernel
theorem dPo_exposed_50 : decode cPo_exposed 50 = .ok (.lor, 1) := by decide +kernel
theorem dPo_exposed_51 : decode cPo_exposed 51 = .ok (.aload_n 0, 1) := by decide +kernel
theorem dPo_exposed_52 : decode cPo_exposed 52 = .ok (.invokevirtual 60, 3) := by decide +kernel
theorem dPo_exposed_55 : decode cPo_exposed 55 = .ok (.lor, 1) := by decide +kernel
theorem dPo_exposed_56 : decode cPo_exposed 56 = .ok (.lreturn, 1) := by decide +kernel

def f_Po_exposed (oS_board : St_Bo) (oS_side : Int32) (oS_passed : Int32) : Int64 :=
  (if (f_Bo_isInCheck oS_board.2 oS_side) = 0 then ((f_Bo_setOf oS_board.2 6 oS_side) ||| (f_Bo_shieldsOf oS_board.2 oS_side)) ||| (f_Po_pawnsThatAttackPassed oS_board oS_side oS_passed) else f_Bo_allOf oS_board.2 oS_side)
theorem f_Po_exposed_eq (oS_board : St_Bo) (oS_side : Int32) (oS_passed : Int32) : f_Po_exposed oS_board oS_side oS_passed =
  (if (f_Bo_isInCheck oS_board.2 oS_side) = 0 then ((f_Bo_setOf oS_board.2 6 oS_side) ||| (f_Bo_shieldsOf oS_board.2 oS_side)) ||| (f_Po_pawnsThatAttackPassed oS_board oS_side oS_passed) else f_Bo_allOf oS_board.2 oS_side) := rfl

set_option maxHeartbeats 4000000 in
set_option maxRecDepth 100000 in
theorem c_Po_exposed (l : Launch) (dC : Nat → ClassId) (dI : Nat → Nat → Nat) (cI cJ cC : ClassId) (ad : Nat → Nat) (o o_board o_board_men o_board_sets : Nat) (oS_board : St_Bo) (oS_side : Int32) (oS_rights : Int32) (oS_passed : Int32) (oS_clock : Int32) (oS_number : Int32) : Met l yPo_exposed wsPo_exposed { frames := 3, cells := 0, slots := 0, locals := 85 } (roP dC dI (TYS cI cJ cC) [.ref o] [(o, .inr (3, [.ref o_board, .int oS_side, .int oS_rights, .int oS_passed, .int oS_clock, .int oS_number])), (o_board, .inr (0, [.ref o_board_men, .ref o_board_sets])), (o_board_men, .inl (cI, 64, .inl oS_board.1)), (o_board_sets, .inl (cJ, 16, .inr (.inl oS_board.2)))] (GS ad)) (vp_Sl (fun r => r = f_Po_exposed oS_board oS_side oS_passed)) 0 0 (fun _ => False) := by
  refine Met.ofW (cc := cPo_exposed) (maxL := 1) (ret := (some .long)) (by decide) rfl ?_
  intro p e s m args below meth c s₁ B hml hv
  obtain ⟨rfl, hP, hK, hG⟩ := hv
  have hx := B.exec
  have hb := B.bytes
  have hr := B.returns
  have hB : ∀ w9 ∈ BIG, w9.before ([.ref o]).toArray s = true := fun w9 h => atoms_spec (ws := wsPo_exposed) B.pre w9 (List.mem_cons_of_mem _ h)
  have hown : s.vm.findClass "ChessRules$Position" = some m.cls := findClass_of_methodNamed B.named
  have hlocks := B.notSynchronized
  have hS : va_S (fun _ => False) s.heap s.heap [] := va_S.rf
  have hP : va_P (dC, dI) vwCl [(o, .inr (3, [.ref o_board, .int oS_side, .int oS_rights, .int oS_passed, .int oS_clock, .int oS_number])), (o_board, .inr (0, [.ref o_board_men, .ref o_board_sets])), (o_board_men, .inl (cI, 64, .inl oS_board.1)), (o_board_sets, .inl (cJ, 16, .inr (.inl oS_board.2)))] s.heap := hP
  have hl := lv_entry ([.ref o]) (n := 1) (Nat.le_of_ble_eq_true rfl)
  rw [lg_entry_eq]
  generalize (lg_sl ([.ref o]) ++ List.replicate (1 - (lg_sl ([.ref o])).length) Slot.unset).toArray = ls at hl ⊢
  have hl : lv_has ls 1 [(0, .ref o)] := hl
  refine lv_aload_n hx hb dPo_exposed_0 rfl (lv_at hl 0 rfl) ?_
  refine va_get (D := (dC, dI)) (ci := 3) (v := .ref o_board) (C := RPo) (T := TPo) (N := 6) hx hb hB inPo hown hK hP 0 rfl rfl 0 (by decide) (hB _ q1_77) (fun _ h9 => h9) rfl dPo_exposed_1 ?_
  refine lv_aload_n hx hb dPo_exposed_4 rfl (lv_at hl 0 rfl) ?_
  refine va_get (D := (dC, dI)) (ci := 3) (v := .int oS_side) (C := RPo) (T := TPo) (N := 6) hx hb hB inPo hown hK hP 0 rfl rfl 1 (by decide) (hB _ q1_83) (fun _ h9 => h9) rfl dPo_exposed_5 ?_
  refine ro_goi (va_runVN (C := "ChessRules$Board") (As := [.int oS_side]) (rest := []) ⟨hx, hb, hml, hown, hB⟩ (c_Bo_isInCheck l dC dI cI cJ cC ad o_board o_board_men o_board_sets oS_board.1 oS_board.2 oS_side) ⟨va_cnB 1 hB (big_self q2_128) rfl rfl rfl (hG.1 _ q3_79) (hB _ q1_5) (by decide +kernel) ⟨Nat.le_of_ble_eq_true rfl, Nat.le_of_ble_eq_true rfl⟩, (hB _ q2_127), (hB _ qs2_3)⟩ (ro_preV (GS_ok ad) hK hP hG hS [1, 2, 3] rfl (va_recv hK hP (ci := 0) (q0 := 1) rfl rfl)) rfl rfl hl.1 rfl (lv_room (Nat.le_of_ble_eq_true rfl)) dPo_exposed_8 ⟨Nat.le_of_ble_eq_true rfl, Nat.le_of_ble_eq_true rfl⟩) ?_
  refine lv_if_eq (tgt := 26) hx hb dPo_exposed_11 (by decide) (fun c_1 => ?_) (fun c_1 => ?_)
  · refine lv_aload_n hx hb dPo_exposed_26 rfl (lv_at hl 0 rfl) ?_
    refine va_get (D := (dC, dI)) (ci := 3) (v := .ref o_board) (C := RPo) (T := TPo) (N := 6) hx hb hB inPo hown hK hP 0 rfl rfl 0 (by decide) (hB _ q1_77) (fun _ h9 => h9) rfl dPo_exposed_27 ?_
    refine lv_bipush (v := 6) hx hb dPo_exposed_30 (by decide) ?_
    refine lv_aload_n hx hb dPo_exposed_32 rfl (lv_at hl 0 rfl) ?_
    refine va_get (D := (dC, dI)) (ci := 3) (v := .int oS_side) (C := RPo) (T := TPo) (N := 6) hx hb hB inPo hown hK hP 0 rfl rfl 1 (by decide) (hB _ q1_83) (fun _ h9 => h9) rfl dPo_exposed_33 ?_
    refine ro_gol (va_runVN (C := "ChessRules$Board") (As := [.int 6, .int oS_side]) (rest := []) ⟨hx, hb, hml, hown, hB⟩ (c_Bo_setOf l dC dI cI cJ cC ad o_board o_board_men o_board_sets oS_board.1 oS_board.2 6 oS_side) ⟨va_cnB 2 hB (big_self q2_112) rfl rfl rfl (hG.1 _ q2_197) (hB _ q1_5) (by decide +kernel) ⟨Nat.le_of_ble_eq_true rfl, Nat.le_of_ble_eq_true rfl⟩, (hB _ q2_111), (hB _ qs2_1)⟩ (ro_preV (GS_ok ad) hK hP hG hS [1, 2, 3] rfl (va_recv hK hP (ci := 0) (q0 := 1) rfl rfl)) rfl rfl hl.1 rfl (lv_room (Nat.le_of_ble_eq_true rfl)) dPo_exposed_36 ⟨Nat.le_of_ble_eq_true rfl, Nat.le_of_ble_eq_true rfl⟩) ?_
    refine lv_aload_n hx hb dPo_exposed_39 rfl (lv_at hl 0 rfl) ?_
    refine va_get (D := (dC, dI)) (ci := 3) (v := .ref o_board) (C := RPo) (T := TPo) (N := 6) hx hb hB inPo hown hK hP 0 rfl rfl 0 (by decide) (hB _ q1_77) (fun _ h9 => h9) rfl dPo_exposed_40 ?_
    refine lv_aload_n hx hb dPo_exposed_43 rfl (lv_at hl 0 rfl) ?_
    refine va_get (D := (dC, dI)) (ci := 3) (v := .int oS_side) (C := RPo) (T := TPo) (N := 6) hx hb hB inPo hown hK hP 0 rfl rfl 1 (by decide) (hB _ q1_83) (fun _ h9 => h9) rfl dPo_exposed_44 ?_
    refine ro_gol (va_runVN (C := "ChessRules$Board") (As := [.int oS_side]) (rest := [.long (f_Bo_setOf oS_board.2 6 oS_side)]) ⟨hx, hb, hml, hown, hB⟩ (c_Bo_shieldsOf l dC dI cI cJ cC ad o_board o_board_men o_board_sets oS_board.1 oS_board.2 oS_side) ⟨va_cnB 1 hB (big_self q3_87) rfl rfl rfl (hG.1 _ q3_84) (hB _ q1_5) (by decide +kernel) ⟨Nat.le_of_ble_eq_true rfl, Nat.le_of_ble_eq_true rfl⟩, (hB _ q3_86), (hB _ qs3_8)⟩ (ro_preV (GS_ok ad) hK hP hG hS [1, 2, 3] rfl (va_recv hK hP (ci := 0) (q0 := 1) rfl rfl)) rfl rfl hl.1 rfl (lv_room (Nat.le_of_ble_eq_true rfl)) dPo_exposed_47 ⟨Nat.le_of_ble_eq_true rfl, Nat.le_of_ble_eq_true rfl⟩) ?_
    refine lv_lor hx hb dPo_exposed_50 ?_
    refine lv_aload_n hx hb dPo_exposed_51 rfl (lv_at hl 0 rfl) ?_
    refine ro_gol (va_runV (C := "ChessRules$Position") (As := []) (rest := [.long ((f_Bo_setOf oS_board.2 6 oS_side) ||| (f_Bo_shieldsOf oS_board.2 oS_side))]) ⟨hx, hb, hml, hown, hB⟩ (c_Po_pawnsThatAttackPassed l dC dI cI cJ cC ad o o_board o_board_men o_board_sets oS_board oS_side oS_rights oS_passed oS_clock oS_number) ⟨callB_of 0 hB (big_self q2_191) rfl rfl rfl (hB _ q1_4) (hB _ q2_215) (by decide +kernel) ⟨Nat.le_of_ble_eq_true rfl, Nat.le_of_ble_eq_true rfl⟩, (hB _ q2_190), (hB _ qs2_11)⟩ (ro_preV (GS_ok ad) hK hP hG hS [0, 1, 2, 3] rfl (va_recv hK hP (ci := 3) (q0 := 0) rfl rfl)) rfl rfl hl.1 rfl (lv_room (Nat.le_of_ble_eq_true rfl)) dPo_exposed_52 ⟨Nat.le_of_ble_eq_true rfl, Nat.le_of_ble_eq_true rfl⟩) ?_
    refine lv_lor hx hb dPo_exposed_55 ?_
    exact ro_retl hx hb hr hlocks dPo_exposed_56 (Eq.symm (by rw [f_Po_exposed_eq, if_pos c_1] <;> rfl))
  · refine lv_aload_n hx hb dPo_exposed_14 rfl (lv_at hl 0 rfl) ?_
    refine va_get (D := (dC, dI)) (ci := 3) (v := .ref o_board) (C := RPo) (T := TPo) (N := 6) hx hb hB inPo hown hK hP 0 rfl rfl 0 (by decide) (hB _ q1_77) (fun _ h9 => h9) rfl dPo_exposed_15 ?_
    refine lv_aload_n hx hb dPo_exposed_18 rfl (lv_at hl 0 rfl) ?_
    refine va_get (D := (dC, dI)) (ci := 3) (v := .int oS_side) (C := RPo) (T := TPo) (N := 6) hx hb hB inPo hown hK hP 0 rfl rfl 1 (by decide) (hB _ q1_83) (fun _ h9 => h9) rfl dPo_exposed_19 ?_
    refine ro_gol (va_runVN (C := "ChessRules$Board") (As := [.int oS_side]) (rest := []) ⟨hx, hb, hml, hown, hB⟩ (c_Bo_allOf l dC dI cI cJ cC ad o_board o_board_men o_board_sets oS_board.1 oS_board.2 oS_side) ⟨va_cnB 1 hB (big_self q3_83) rfl rfl rfl (hG.1 _ q3_80) (hB _ q1_5) (by decide +kernel) ⟨Nat.le_of_ble_eq_true rfl, Nat.le_of_ble_eq_true rfl⟩, (hB _ q3_82), (hB _ qs3_7)⟩ (ro_preV (GS_ok ad) hK hP hG hS [1, 2, 3] rfl (va_recv hK hP (ci := 0) (q0 := 1) rfl rfl)) rfl rfl hl.1 rfl (lv_room (Nat.le_of_ble_eq_true rfl)) dPo_exposed_22 ⟨Nat.le_of_ble_eq_true rfl, Nat.le_of_ble_eq_true rfl⟩) ?_
    exact ro_retl hx hb hr hlocks dPo_exposed_25 (Eq.symm (by rw [f_Po_exposed_eq, if_neg c_1] <;> rfl))

theorem isSq_iff {x : Int32} : ¬ f_Ch_isSquare x = 0 ↔ 0 ≤ x.toInt ∧ x.toInt < 64 := by
  have y : (64 : Int32).toInt = 64 := rfl
  have z : (0 : Int32).toInt = 0 := rfl
  unfold f_Ch_isSquare
  by_cases h : x < 0
  · rw [if_pos h]; have := tl h; exact ⟨fun q => absurd rfl q, fun q => by omega⟩
  · rw [if_neg h]
    have h' := tnl h
    by_cases g : 64 ≤ x
    · rw [if_pos g]; have := tle g; exact ⟨fun q => absurd rfl q, fun q => by omega⟩
    · rw [if_neg g]; have := tnle g; exact ⟨fun _ => by omega, fun _ => by decide⟩
theorem isSq_in {x : Int32} (h : ¬ f_Ch_isSquare x = 0) : vp_in x 64 := vp_in_iff.mpr (by have := isSq_iff.mp h; omega)

abbrev cBo_manAt : ByteArray := prog_2_method_2_code
def yBo_manAt : MethodName := ⟨"ChessRules$Board", "manAt", "(I)I"⟩
def wsBo_manAt : List Cond := Cond.code yBo_manAt cBo_manAt 2 (some .int) :: BIG
theorem dBo_manAt_0 : decode cBo_manAt 0 = .ok (.iload_n 1, 1) := by decide +kernel
theorem dBo_manAt_1 : decode cBo_manAt 1 = .ok (.invokestatic 21, 3) := by decide +kernel
theorem dBo_manAt_4 : decode cBo_manAt 4 = .ok (.ifCond .eq 12, 3) := by decide +kernel
theorem dBo_manAt_7 : decode cBo_manAt 7 = .ok (.aload_n 0, 1) := by decide +kernel
theorem dBo_manAt_8 : decode cBo_manAt 8 = .ok (.getfield 9, 3) := by decide +kernel
theorem dBo_manAt_11 : decode cBo_manAt 11 = .ok (.iload_n 1, 1) := by decide +kernel
theorem dBo_manAt_12 : decode cBo_manAt 12 = .ok (.iaload, 1) := by decide +kernel
theorem dBo_manAt_13 : decode cBo_manAt 13 = .ok (.goto 4, 3) := by decide +kernel
theorem dBo_manAt_16 : decode cBo_manAt 16 = .ok (.iconst 0, 1) := by decide +kernel
theorem dBo_manAt_17 : decode cBo_manAt 17 = .ok (.ireturn, 1) := by decide +kernel

def f_Bo_manAt (oS_men : Nat → Int32) (square : Int32) : Int32 :=
  (if (f_Ch_isSquare square) = 0 then 0 else oS_men square.toNatClampNeg)
theorem f_Bo_manAt_eq (oS_men : Nat → Int32) (square : Int32) : f_Bo_manAt oS_men square =
  (if (f_Ch_isSquare square) = 0 then 0 else oS_men square.toNatClampNeg) := rfl

set_option maxHeartbeats 4000000 in
set_option maxRecDepth 100000 in
theorem c_Bo_manAt (l : Launch) (dC : Nat → ClassId) (dI : Nat → Nat → Nat) (cI cJ cC : ClassId) (ad : Nat → Nat) (o o_men o_sets : Nat) (oS_men : Nat → Int32) (oS_sets : Nat → Int64) (square : Int32) : Met l yBo_manAt wsBo_manAt { frames := 1, cells := 0, slots := 0, locals := 20 } (roP dC dI (TYS cI cJ cC) [.ref o, .int square] [(o, .inr (0, [.ref o_men, .ref o_sets])), (o_men, .inl (cI, 64, .inl oS_men)), (o_sets, .inl (cJ, 16, .inr (.inl oS_sets)))] (GS ad)) (vp_Si (fun r => r = f_Bo_manAt oS_men square)) 0 0 (fun _ => False) := by
  refine Met.ofW (cc := cBo_manAt) (maxL := 2) (ret := (some .int)) (by decide) rfl ?_
  intro p e s m args below meth c s₁ B hml hv
  obtain ⟨rfl, hP, hK, hG⟩ := hv
  have hx := B.exec
  have hb := B.bytes
  have hr := B.returns
  have hB : ∀ w9 ∈ BIG, w9.before ([.ref o, .int square]).toArray s = true := fun w9 h => atoms_spec (ws := wsBo_manAt) B.pre w9 (List.mem_cons_of_mem _ h)
  have hown : s.vm.findClass "ChessRules$Board" = some m.cls := findClass_of_methodNamed B.named
  have hlocks := B.notSynchronized
  have hS : va_S (fun _ => False) s.heap s.heap [] := va_S.rf
  have hP : va_P (dC, dI) vwCl [(o, .inr (0, [.ref o_men, .ref o_sets])), (o_men, .inl (cI, 64, .inl oS_men)), (o_sets, .inl (cJ, 16, .inr (.inl oS_sets)))] s.heap := hP
  have hl := lv_entry ([.ref o, .int square]) (n := 2) (Nat.le_of_ble_eq_true rfl)
  rw [lg_entry_eq]
  generalize (lg_sl ([.ref o, .int square]) ++ List.replicate (2 - (lg_sl ([.ref o, .int square])).length) Slot.unset).toArray = ls at hl ⊢
  have hl : lv_has ls 2 [(0, .ref o), (1, .int square)] := hl
  refine lv_iload_n hx hb dBo_manAt_0 rfl (lv_at hl 1 rfl) ?_
  refine ro_goi (va_runSN (As := [.int square]) (rest := []) ⟨hx, hb, hml, hown, hB⟩ (c_Ch_isSquare l dC dI cI cJ cC ad square) ⟨va_cnB 1 hB (big_self q1_231) rfl rfl rfl (hG.1 _ q1_229) (hB _ q1_1) (by decide +kernel) ⟨Nat.le_of_ble_eq_true rfl, Nat.le_of_ble_eq_true rfl⟩, (hB _ q1_230), trivial⟩ (ro_preS (GS_ok ad) hK hP hG hS [] rfl) rfl rfl hl.1 rfl (lv_room (Nat.le_of_ble_eq_true rfl)) dBo_manAt_1 ⟨Nat.le_of_ble_eq_true rfl, Nat.le_of_ble_eq_true rfl⟩) ?_
  refine lv_if_eq (tgt := 16) hx hb dBo_manAt_4 (by decide) (fun c_1 => ?_) (fun c_1 => ?_)
  · refine lv_iconst (v := 0) hx hb dBo_manAt_16 (by decide) ?_
    exact ro_reti hx hb hr hlocks dBo_manAt_17 (Eq.symm (by rw [f_Bo_manAt_eq, if_pos c_1] <;> rfl))
  · refine lv_aload_n hx hb dBo_manAt_7 rfl (lv_at hl 0 rfl) ?_
    refine va_get (D := (dC, dI)) (ci := 0) (v := .ref o_men) (C := RBo) (T := TBo) (N := 2) hx hb hB inBo hown hK hP 0 rfl rfl 0 (by decide) (hB _ q1_68) (fun _ h9 => h9) rfl dBo_manAt_8 ?_
    refine lv_iload_n hx hb dBo_manAt_11 rfl (lv_at hl 1 rfl) ?_
    refine va_iald hx hb hK hP 1 0 rfl rfl (isSq_in c_1) dBo_manAt_12 ?_
    refine lv_goto (tgt := 17) hx hb dBo_manAt_13 (by decide) ?_
    exact ro_reti hx hb hr hlocks dBo_manAt_17 (Eq.symm (by rw [f_Bo_manAt_eq, if_neg c_1] <;> rfl))

abbrev cBo_isFree : ByteArray := prog_2_method_3_code
def yBo_isFree : MethodName := ⟨"ChessRules$Board", "isFree", "(I)Z"⟩
def wsBo_isFree : List Cond := Cond.code yBo_isFree cBo_isFree 2 (some .boolean) :: BIG
theorem dBo_isFree_0 : decode cBo_isFree 0 = .ok (.aload_n 0, 1) := by decide +kernel
theorem dBo_isFree_1 : decode cBo_isFree 1 = .ok (.iload_n 1, 1) := by decide +kernel
theorem dBo_isFree_2 : decode cBo_isFree 2 = .ok (.invokevirtual 25, 3) := by decide +kernel
theorem dBo_isFree_5 : decode cBo_isFree 5 = .ok (.ifCond .ne 7, 3) := by decide +kernel
theorem dBo_isFree_8 : decode cBo_isFree 8 = .ok (.iconst 1, 1) := by decide +kernel
theorem dBo_isFree_9 : decode cBo_isFree 9 = .ok (.goto 4, 3) := by decide +kernel
theorem dBo_isFree_12 : decode cBo_isFree 12 = .ok (.iconst 0, 1) := by decide +kernel
theorem dBo_isFree_13 : decode cBo_isFree 13 = .ok (.ireturn, 1) := by decide +kernel

def f_Bo_isFree (oS_men : Nat → Int32) (square : Int32) : Int32 :=
  (if (f_Bo_manAt oS_men square) = 0 then 1 else 0)
theorem f_Bo_isFree_eq (oS_men : Nat → Int32) (square : Int32) : f_Bo_isFree oS_men square =
  (if (f_Bo_manAt oS_men square) = 0 then 1 else 0) := rfl

set_option maxHeartbeats 4000000 in
set_option maxRecDepth 100000 in
theorem c_Bo_isFree (l : Launch) (dC : Nat → ClassId) (dI : Nat → Nat → Nat) (cI cJ cC : ClassId) (ad : Nat → Nat) (o o_men o_sets : Nat) (oS_men : Nat → Int32) (oS_sets : Nat → Int64) (square : Int32) : Met l yBo_isFree wsBo_isFree { frames := 2, cells := 0, slots := 0, locals := 41 } (roP dC dI (TYS cI cJ cC) [.ref o, .int square] [(o, .inr (0, [.ref o_men, .ref o_sets])), (o_men, .inl (cI, 64, .inl oS_men)), (o_sets, .inl (cJ, 16, .inr (.inl oS_sets)))] (GS ad)) (vp_Si (fun r => r = f_Bo_isFree oS_men square)) 0 0 (fun _ => False) := by
  refine Met.ofW (cc := cBo_isFree) (maxL := 2) (ret := (some .boolean)) (by decide) rfl ?_
  intro p e s m args below meth c s₁ B hml hv
  obtain ⟨rfl, hP, hK, hG⟩ := hv
  have hx := B.exec
  have hb := B.bytes
  have hr := B.returns
  have hB : ∀ w9 ∈ BIG, w9.before ([.ref o, .int square]).toArray s = true := fun w9 h => atoms_spec (ws := wsBo_isFree) B.pre w9 (List.mem_cons_of_mem _ h)
  have hown : s.vm.findClass "ChessRules$Board" = some m.cls := findClass_of_methodNamed B.named
  have hlocks := B.notSynchronized
  have hS : va_S (fun _ => False) s.heap s.heap [] := va_S.rf
  have hP : va_P (dC, dI) vwCl [(o, .inr (0, [.ref o_men, .ref o_sets])), (o_men, .inl (cI, 64, .inl oS_men)), (o_sets, .inl (cJ, 16, .inr (.inl oS_sets)))] s.heap := hP
  have hl := lv_entry ([.ref o, .int square]) (n := 2) (Nat.le_of_ble_eq_true rfl)
  rw [lg_entry_eq]
  generalize (lg_sl ([.ref o, .int square]) ++ List.replicate (2 - (lg_sl ([.ref o, .int square])).length) Slot.unset).toArray = ls at hl ⊢
  have hl : lv_has ls 2 [(0, .ref o), (1, .int square)] := hl
  refine lv_aload_n hx hb dBo_isFree_0 rfl (lv_at hl 0 rfl) ?_
  refine lv_iload_n hx hb dBo_isFree_1 rfl (lv_at hl 1 rfl) ?_
  refine ro_goi (va_runV (C := "ChessRules$Board") (As := [.int square]) (rest := []) ⟨hx, hb, hml, hown, hB⟩ (c_Bo_manAt l dC dI cI cJ cC ad o o_men o_sets oS_men oS_sets square) ⟨callB_of 1 hB (big_self q2_168) rfl rfl rfl (hB _ q1_5) (hB _ q2_184) (by decide +kernel) ⟨Nat.le_of_ble_eq_true rfl, Nat.le_of_ble_eq_true rfl⟩, (hB _ q2_167), (hB _ qs2_7)⟩ (ro_preV (GS_ok ad) hK hP hG hS [0, 1, 2] rfl (va_recv hK hP (ci := 0) (q0 := 0) rfl rfl)) rfl rfl hl.1 rfl (lv_room (Nat.le_of_ble_eq_true rfl)) dBo_isFree_2 ⟨Nat.le_of_ble_eq_true rfl, Nat.le_of_ble_eq_true rfl⟩) ?_
  refine lv_if_ne (tgt := 12) hx hb dBo_isFree_5 (by decide) (fun c_1 => ?_) (fun c_1 => ?_)
  · refine lv_iconst (v := 0) hx hb dBo_isFree_12 (by decide) ?_
    exact ro_retz hx hb hr rfl hlocks dBo_isFree_13 (Eq.symm (by rw [f_Bo_isFree_eq, if_neg c_1] <;> rfl))
  · refine lv_iconst (v := 1) hx hb dBo_isFree_8 (by decide) ?_
    refine lv_goto (tgt := 13) hx hb dBo_isFree_9 (by decide) ?_
    exact ro_retz hx hb hr rfl hlocks dBo_isFree_13 (Eq.symm (by rw [f_Bo_isFree_eq, if_pos c_1] <;> rfl))

abbrev cBo_put : ByteArray := prog_2_method_4_code
def yBo_put : MethodName := ⟨"ChessRules$Board", "put", "(II)V"⟩
def wsBo_put : List Cond := Cond.code yBo_put cBo_put 5 none :: BIG
theorem dBo_put_0 : decode cBo_put 0 = .ok (.iload_n 1, 1) := by decide +kernel
theorem dBo_put_1 : decode cBo_put 1 = .ok (.invokestatic 21, 3) := by decide +kernel
theorem dBo_put_4 : decode cBo_put 4 = .ok (.ifCond .eq 52, 3) := by decide +kernel
theorem dBo_put_7 : decode cBo_put 7 = .ok (.lconst 1, 1) := by decide +kernel
theorem dBo_put_8 : decode cBo_put 8 = .ok (.iload_n 1, 1) := by decide +kernel
theorem dBo_put_9 : decode cBo_put 9 = .ok (.lshl, 1) := by decide +kernel
theorem dBo_put_10 : decode cBo_put 10 = .ok (.lstore_n 3, 1) := by decide +kernel
theorem dBo_put_11 : decode cBo_put 11 = .ok (.aload_n 0, 1) := by decide +kernel
theorem dBo_put_12 : decode cBo_put 12 = .ok (.getfield 15, 3) := by decide +kernel
theorem dBo_put_15 : decode cBo_put 15 = .ok (.aload_n 0, 1) := by decide +kernel
theorem dBo_put_16 : decode cBo_put 16 = .ok (.getfield 9, 3) := by decide +kernel
theorem dBo_put_19 : decode cBo_put 19 = .ok (.iload_n 1, 1) := by decide +kernel
theorem dBo_put_20 : decode cBo_put 20 = .ok (.iaload, 1) := by decide +kernel
theorem dBo_put_21 : decode cBo_put 21 = .ok (.bipush 15, 2) := by decide +kernel
theorem dBo_put_23 : decode cBo_put 23 = .ok (.iand, 1) := by decide +kernel
theorem dBo_put_24 : decode cBo_put 24 = .ok (.dup2, 1) := by decide +kernel
theorem dBo_put_25 : decode cBo_put 25 = .ok (.laload, 1) := by decide +kernel
theorem dBo_put_26 : decode cBo_put 26 = .ok (.lload_n 3, 1) := by decide +kernel
theorem dBo_put_27 : decode cBo_put 27 = .ok (.ldc2_w 19, 3) := by decide +kernel
theorem dBo_put_30 : decode cBo_put 30 = .ok (.lxor, 1) := by decide +kernel
theorem dBo_put_31 : decode cBo_put 31 = .ok (.land, 1) := by decide +kernel
theorem dBo_put_32 : decode cBo_put 32 = .ok (.lastore, 1) := by decide +kernel
theorem dBo_put_33 : decode cBo_put 33 = .ok (.aload_n 0, 1) := by decide +kernel
theorem dBo_put_34 : decode cBo_put 34 = .ok (.getfield 9, 3) := by decide +kernel
theorem dBo_put_37 : decode cBo_put 37 = .ok (.iload_n 1, 1) := by decide +kernel
theorem dBo_put_38 : decode cBo_put 38 = .ok (.iload_n 2, 1) := by decide +kernel
theorem dBo_put_39 : decode cBo_put 39 = .ok (.bipush 15, 2) := by decide +kernel
theorem dBo_put_41 : decode cBo_put 41 = .ok (.iand, 1) := by decide +kernel
theorem dBo_put_42 : decode cBo_put 42 = .ok (.iastore, 1) := by decide +kernel
theorem dBo_put_43 : decode cBo_put 43 = .ok (.aload_n 0, 1) := by decide +kernel
theorem dBo_put_44 : decode cBo_put 44 = .ok (.getfield 15, 3) := by decide +kernel
theorem dBo_put_47 : decode cBo_put 47 = .ok (.iload_n 2, 1) := by decide +kernel
theorem dBo_put_48 : decode cBo_put 48 = .ok (.bipush 15, 2) := by decide +kernel
theorem dBo_put_50 : decode cBo_put 50 = .ok (.iand, 1) := by decide +kernel
theorem dBo_put_51 : decode cBo_put 51 = .ok (.dup2, 1) := by decide +kernel
theorem dBo_put_52 : decode cBo_put 52 = .ok (.laload, 1) := by decide +kernel
theorem dBo_put_53 : decode cBo_put 53 = .ok (.lload_n 3, 1) := by decide +kernel
theorem dBo_put_54 : decode cBo_put 54 = .ok (.lor, 1) := by decide +kernel
theorem dBo_put_55 : decode cBo_put 55 = .ok (.lastore, 1) := by decide +kernel
theorem dBo_put_56 : decode cBo_put 56 = .ok (.return_, 1) := by decide +kernel

def f_Bo_put (oS_men : Nat → Int32) (oS_sets : Nat → Int64) (square : Int32) (man : Int32) : (Nat → Int32) × (Nat → Int64) :=
  (if (f_Ch_isSquare square) = 0 then (oS_men, oS_sets) else (upd oS_men square.toNatClampNeg (man &&& 15), vp_updL (vp_updL oS_sets ((oS_men square.toNatClampNeg) &&& 15).toNatClampNeg ((oS_sets ((oS_men square.toNatClampNeg) &&& 15).toNatClampNeg) &&& ((shl64 1 square) ^^^ (-1)))) (man &&& 15).toNatClampNeg (((vp_updL oS_sets ((oS_men square.toNatClampNeg) &&& 15).toNatClampNeg ((oS_sets ((oS_men square.toNatClampNeg) &&& 15).toNatClampNeg) &&& ((shl64 1 square) ^^^ (-1)))) (man &&& 15).toNatClampNeg) ||| (shl64 1 square))))
theorem f_Bo_put_eq (oS_men : Nat → Int32) (oS_sets : Nat → Int64) (square : Int32) (man : Int32) : f_Bo_put oS_men oS_sets square man =
  (if (f_Ch_isSquare square) = 0 then (oS_men, oS_sets) else (upd oS_men square.toNatClampNeg (man &&& 15), vp_updL (vp_updL oS_sets ((oS_men square.toNatClampNeg) &&& 15).toNatClampNeg ((oS_sets ((oS_men square.toNatClampNeg) &&& 15).toNatClampNeg) &&& ((shl64 1 square) ^^^ (-1)))) (man &&& 15).toNatClampNeg (((vp_updL oS_sets ((oS_men square.toNatClampNeg) &&& 15).toNatClampNeg ((oS_sets ((oS_men square.toNatClampNeg) &&& 15).toNatClampNeg) &&& ((shl64 1 square) ^^^ (-1)))) (man &&& 15).toNatClampNeg) ||| (shl64 1 square)))) := rfl

set_option maxHeartbeats 4000000 in
set_option maxRecDepth 100000 in
theorem c_Bo_put (l : Launch) (dC : Nat → ClassId) (dI : Nat → Nat → Nat) (cI cJ cC : ClassId) (ad : Nat → Nat) (o o_men o_sets : Nat) (sz : Nat) (oS_men : Nat → Int32) (oS_sets : Nat → Int64) (square : Int32) (man : Int32) : Met l yBo_put wsBo_put { frames := 1, cells := 0, slots := 0, locals := 20 } (rwP dC dI (TYS cI cJ cC) [.ref o, .int square, .int man] [(o, .inr (0, [.ref o_men, .ref o_sets])), (o_men, .inl (cI, 64, .inl oS_men)), (o_sets, .inl (cJ, 16, .inr (.inl oS_sets)))] sz (GS ad)) (va_Qv (fun _ : Unit => True) (rwB dC dI (TYS cI cJ cC) [(o, .inr (0, [.ref o_men, .ref o_sets])), (o_men, .inl (cI, 64, .inl ((f_Bo_put oS_men oS_sets square man).1))), (o_sets, .inl (cJ, 16, .inr (.inl ((f_Bo_put oS_men oS_sets square man).2))))] (va_A [(o, .inr (0, [.ref o_men, .ref o_sets])), (o_men, .inl (cI, 64, .inl oS_men)), (o_sets, .inl (cJ, 16, .inr (.inl oS_sets)))] sz)) (va_A [(o, .inr (0, [.ref o_men, .ref o_sets])), (o_men, .inl (cI, 64, .inl oS_men)), (o_sets, .inl (cJ, 16, .inr (.inl oS_sets)))] sz)) 0 0 (va_A [(o, .inr (0, [.ref o_men, .ref o_sets])), (o_men, .inl (cI, 64, .inl oS_men)), (o_sets, .inl (cJ, 16, .inr (.inl oS_sets)))] sz) := by
  refine Met.ofW (cc := cBo_put) (maxL := 5) (ret := none) (by decide) rfl ?_
  intro p e s m args below meth c s₁ B hml hv
  obtain ⟨rfl, hsz, hP, hK, hD0, hG⟩ := hv
  have hx := B.exec
  have hb := B.bytes
  have hr := B.returns
  have hB : ∀ w9 ∈ BIG, w9.before ([.ref o, .int square, .int man]).toArray s = true := fun w9 h => atoms_spec (ws := wsBo_put) B.pre w9 (List.mem_cons_of_mem _ h)
  have hown : s.vm.findClass "ChessRules$Board" = some m.cls := findClass_of_methodNamed B.named
  have hlocks := B.notSynchronized
  subst hsz
  have hD := hD0.self (sz := s.heap.size)
  generalize hAe : va_A [(o, .inr (0, [.ref o_men, .ref o_sets])), (o_men, .inl (cI, 64, .inl oS_men)), (o_sets, .inl (cJ, 16, .inr (.inl oS_sets)))] s.heap.size = A at hD hG ⊢
  have hA : ∀ q : Nat, s.heap.size ≤ q → A q := fun q h => by rw [← hAe]; exact Or.inr h
  have hS : va_S A s.heap s.heap [] := va_S.rf
  have hP : va_P (dC, dI) vwCl [(o, .inr (0, [.ref o_men, .ref o_sets])), (o_men, .inl (cI, 64, .inl oS_men)), (o_sets, .inl (cJ, 16, .inr (.inl oS_sets)))] s.heap := hP
  have hl := lv_entry ([.ref o, .int square, .int man]) (n := 5) (Nat.le_of_ble_eq_true rfl)
  rw [lg_entry_eq]
  generalize (lg_sl ([.ref o, .int square, .int man]) ++ List.replicate (5 - (lg_sl ([.ref o, .int square, .int man])).length) Slot.unset).toArray = ls at hl ⊢
  have hl : lv_has ls 5 [(0, .ref o), (1, .int square), (2, .int man)] := hl
  refine lv_iload_n hx hb dBo_put_0 rfl (lv_at hl 1 rfl) ?_
  refine ro_goi (va_runSN (As := [.int square]) (rest := []) ⟨hx, hb, hml, hown, hB⟩ (c_Ch_isSquare l dC dI cI cJ cC ad square) ⟨va_cnB 1 hB (big_self q1_231) rfl rfl rfl (hG.1 _ q1_229) (hB _ q1_1) (by decide +kernel) ⟨Nat.le_of_ble_eq_true rfl, Nat.le_of_ble_eq_true rfl⟩, (hB _ q1_230), trivial⟩ (ro_preS (GS_ok ad) hK hP hG hS [] rfl) rfl rfl hl.1 rfl (lv_room (Nat.le_of_ble_eq_true rfl)) dBo_put_1 ⟨Nat.le_of_ble_eq_true rfl, Nat.le_of_ble_eq_true rfl⟩) ?_
  refine lv_if_eq (tgt := 56) hx hb dBo_put_4 (by decide) (fun c_1 => ?_) (fun c_1 => ?_)
  · have hv : f_Bo_put oS_men oS_sets square man = (oS_men, oS_sets) := (by rw [f_Bo_put_eq, if_pos c_1] <;> rfl)
    have hP9 : va_P (dC, dI) vwCl [(o, .inr (0, [.ref o_men, .ref o_sets])), (o_men, .inl (cI, 64, .inl ((f_Bo_put oS_men oS_sets square man).1))), (o_sets, .inl (cJ, 16, .inr (.inl ((f_Bo_put oS_men oS_sets square man).2))))] s.heap := by first | (rw [hv]; exact hP.sub [0, 1, 2] rfl) | exact hP.sub [0, 1, 2] rfl
    have hD9 : va_D A [(o, .inr (0, [.ref o_men, .ref o_sets])), (o_men, .inl (cI, 64, .inl ((f_Bo_put oS_men oS_sets square man).1))), (o_sets, .inl (cJ, 16, .inr (.inl ((f_Bo_put oS_men oS_sets square man).2))))] := by first | (rw [hv]; exact hD.sub [0, 1, 2] (by decide) rfl) | exact hD.sub [0, 1, 2] (by decide) rfl
    exact rw_retv hx hb hr hlocks hK hP9 hD9 hS dBo_put_56
  · refine lv_lconst (v := 1) hx hb dBo_put_7 (by decide) ?_
    refine lv_iload_n hx hb dBo_put_8 rfl (lv_at hl 1 rfl) ?_
    refine lv_lshl (v := shl64 1 square) hx hb dBo_put_9 rfl ?_
    refine lv_lstore_n (lv' := [(3, .long (shl64 1 square)), (0, .ref o), (1, .int square), (2, .int man)]) hx hb dBo_put_10 rfl hl (by decide) rfl (fun ls hl => ?_)
    refine lv_aload_n hx hb dBo_put_11 rfl (lv_at hl 1 rfl) ?_
    refine va_get (D := (dC, dI)) (ci := 0) (v := .ref o_sets) (C := RBo) (T := TBo) (N := 2) hx hb hB inBo hown hK hP 0 rfl rfl 1 (by decide) (hB _ q1_69) (fun _ h9 => h9) rfl dBo_put_12 ?_
    refine lv_aload_n hx hb dBo_put_15 rfl (lv_at hl 1 rfl) ?_
    refine va_get (D := (dC, dI)) (ci := 0) (v := .ref o_men) (C := RBo) (T := TBo) (N := 2) hx hb hB inBo hown hK hP 0 rfl rfl 0 (by decide) (hB _ q1_68) (fun _ h9 => h9) rfl dBo_put_16 ?_
    refine lv_iload_n hx hb dBo_put_19 rfl (lv_at hl 2 rfl) ?_
    refine va_iald hx hb hK hP 1 0 rfl rfl (isSq_in c_1) dBo_put_20 ?_
    refine lv_bipush (v := 15) hx hb dBo_put_21 (by decide) ?_
    refine lv_iand hx hb dBo_put_23 ?_
    refine lv_dup2_11 hx hb dBo_put_24 rfl rfl ?_
    refine va_lald hx hb hK hP 2 1 rfl rfl (pk_andIn _ 4 rfl (by decide)) dBo_put_25 ?_
    refine lv_lload_n hx hb dBo_put_26 rfl (lv_at hl 0 rfl) ?_
    refine lv_ldc2 (v := (-1)) hx hb hown (hB _ q1_67) dBo_put_27 ?_
    refine lv_lxor hx hb dBo_put_30 ?_
    refine lv_land hx hb dBo_put_31 ?_
    refine va_last hx hb hK hP hD hS 2 1 rfl rfl (pk_andIn _ 4 rfl (by decide)) dBo_put_32 (fun H locs hP hD hS => ?_)
    have hP : va_P (dC, dI) vwCl [(o, .inr (0, [.ref o_men, .ref o_sets])), (o_men, .inl (cI, 64, .inl oS_men)), (o_sets, .inl (cJ, 16, .inr (.inl (vp_updL oS_sets ((oS_men square.toNatClampNeg) &&& 15).toNatClampNeg ((oS_sets ((oS_men square.toNatClampNeg) &&& 15).toNatClampNeg) &&& ((shl64 1 square) ^^^ (-1)))))))] H := hP
    have hD : va_D A [(o, .inr (0, [.ref o_men, .ref o_sets])), (o_men, .inl (cI, 64, .inl oS_men)), (o_sets, .inl (cJ, 16, .inr (.inl (vp_updL oS_sets ((oS_men square.toNatClampNeg) &&& 15).toNatClampNeg ((oS_sets ((oS_men square.toNatClampNeg) &&& 15).toNatClampNeg) &&& ((shl64 1 square) ^^^ (-1)))))))] := hD
    refine lv_aload_n hx hb dBo_put_33 rfl (lv_at hl 1 rfl) ?_
    refine va_get (D := (dC, dI)) (ci := 0) (v := .ref o_men) (C := RBo) (T := TBo) (N := 2) hx hb hB inBo hown hK hP 0 rfl rfl 0 (by decide) (hB _ q1_68) (fun _ h9 => h9) rfl dBo_put_34 ?_
    refine lv_iload_n hx hb dBo_put_37 rfl (lv_at hl 2 rfl) ?_
    refine lv_iload_n hx hb dBo_put_38 rfl (lv_at hl 3 rfl) ?_
    refine lv_bipush (v := 15) hx hb dBo_put_39 (by decide) ?_
    refine lv_iand hx hb dBo_put_41 ?_
    refine va_iast hx hb hK hP hD hS 1 0 rfl rfl (isSq_in c_1) dBo_put_42 (fun H locs hP hD hS => ?_)
    have hP : va_P (dC, dI) vwCl [(o, .inr (0, [.ref o_men, .ref o_sets])), (o_men, .inl (cI, 64, .inl (upd oS_men square.toNatClampNeg (man &&& 15)))), (o_sets, .inl (cJ, 16, .inr (.inl (vp_updL oS_sets ((oS_men square.toNatClampNeg) &&& 15).toNatClampNeg ((oS_sets ((oS_men square.toNatClampNeg) &&& 15).toNatClampNeg) &&& ((shl64 1 square) ^^^ (-1)))))))] H := hP
    have hD : va_D A [(o, .inr (0, [.ref o_men, .ref o_sets])), (o_men, .inl (cI, 64, .inl (upd oS_men square.toNatClampNeg (man &&& 15)))), (o_sets, .inl (cJ, 16, .inr (.inl (vp_updL oS_sets ((oS_men square.toNatClampNeg) &&& 15).toNatClampNeg ((oS_sets ((oS_men square.toNatClampNeg) &&& 15).toNatClampNeg) &&& ((shl64 1 square) ^^^ (-1)))))))] := hD
    refine lv_aload_n hx hb dBo_put_43 rfl (lv_at hl 1 rfl) ?_
    refine va_get (D := (dC, dI)) (ci := 0) (v := .ref o_sets) (C := RBo) (T := TBo) (N := 2) hx hb hB inBo hown hK hP 0 rfl rfl 1 (by decide) (hB _ q1_69) (fun _ h9 => h9) rfl dBo_put_44 ?_
    refine lv_iload_n hx hb dBo_put_47 rfl (lv_at hl 3 rfl) ?_
    refine lv_bipush (v := 15) hx hb dBo_put_48 (by decide) ?_
    refine lv_iand hx hb dBo_put_50 ?_
    refine lv_dup2_11 hx hb dBo_put_51 rfl rfl ?_
    refine va_lald hx hb hK hP 2 1 rfl rfl (pk_andIn _ 4 rfl (by decide)) dBo_put_52 ?_
    refine lv_lload_n hx hb dBo_put_53 rfl (lv_at hl 0 rfl) ?_
    refine lv_lor hx hb dBo_put_54 ?_
    refine va_last hx hb hK hP hD hS 2 1 rfl rfl (pk_andIn _ 4 rfl (by decide)) dBo_put_55 (fun H locs hP hD hS => ?_)
    have hP : va_P (dC, dI) vwCl [(o, .inr (0, [.ref o_men, .ref o_sets])), (o_men, .inl (cI, 64, .inl (upd oS_men square.toNatClampNeg (man &&& 15)))), (o_sets, .inl (cJ, 16, .inr (.inl (vp_updL (vp_updL oS_sets ((oS_men square.toNatClampNeg) &&& 15).toNatClampNeg ((oS_sets ((oS_men square.toNatClampNeg) &&& 15).toNatClampNeg) &&& ((shl64 1 square) ^^^ (-1)))) (man &&& 15).toNatClampNeg (((vp_updL oS_sets ((oS_men square.toNatClampNeg) &&& 15).toNatClampNeg ((oS_sets ((oS_men square.toNatClampNeg) &&& 15).toNatClampNeg) &&& ((shl64 1 square) ^^^ (-1)))) (man &&& 15).toNatClampNeg) ||| (shl64 1 square))))))] H := hP
    have hD : va_D A [(o, .inr (0, [.ref o_men, .ref o_sets])), (o_men, .inl (cI, 64, .inl (upd oS_men square.toNatClampNeg (man &&& 15)))), (o_sets, .inl (cJ, 16, .inr (.inl (vp_updL (vp_updL oS_sets ((oS_men square.toNatClampNeg) &&& 15).toNatClampNeg ((oS_sets ((oS_men square.toNatClampNeg) &&& 15).toNatClampNeg) &&& ((shl64 1 square) ^^^ (-1)))) (man &&& 15).toNatClampNeg (((vp_updL oS_sets ((oS_men square.toNatClampNeg) &&& 15).toNatClampNeg ((oS_sets ((oS_men square.toNatClampNeg) &&& 15).toNatClampNeg) &&& ((shl64 1 square) ^^^ (-1)))) (man &&& 15).toNatClampNeg) ||| (shl64 1 square))))))] := hD
    have hv : f_Bo_put oS_men oS_sets square man = (upd oS_men square.toNatClampNeg (man &&& 15), vp_updL (vp_updL oS_sets ((oS_men square.toNatClampNeg) &&& 15).toNatClampNeg ((oS_sets ((oS_men square.toNatClampNeg) &&& 15).toNatClampNeg) &&& ((shl64 1 square) ^^^ (-1)))) (man &&& 15).toNatClampNeg (((vp_updL oS_sets ((oS_men square.toNatClampNeg) &&& 15).toNatClampNeg ((oS_sets ((oS_men square.toNatClampNeg) &&& 15).toNatClampNeg) &&& ((shl64 1 square) ^^^ (-1)))) (man &&& 15).toNatClampNeg) ||| (shl64 1 square))) := (by rw [f_Bo_put_eq, if_neg c_1] <;> rfl)
    have hP9 : va_P (dC, dI) vwCl [(o, .inr (0, [.ref o_men, .ref o_sets])), (o_men, .inl (cI, 64, .inl ((f_Bo_put oS_men oS_sets square man).1))), (o_sets, .inl (cJ, 16, .inr (.inl ((f_Bo_put oS_men oS_sets square man).2))))] H := by first | (rw [hv]; exact hP.sub [0, 1, 2] rfl) | exact hP.sub [0, 1, 2] rfl
    have hD9 : va_D A [(o, .inr (0, [.ref o_men, .ref o_sets])), (o_men, .inl (cI, 64, .inl ((f_Bo_put oS_men oS_sets square man).1))), (o_sets, .inl (cJ, 16, .inr (.inl ((f_Bo_put oS_men oS_sets square man).2))))] := by first | (rw [hv]; exact hD.sub [0, 1, 2] (by decide) rfl) | exact hD.sub [0, 1, 2] (by decide) rfl
    exact rw_retv hx hb hr hlocks hK hP9 hD9 hS dBo_put_56

abbrev cBo_empty : ByteArray := prog_2_method_5_code
def yBo_empty : MethodName := ⟨"ChessRules$Board", "empty", "()J"⟩
def wsBo_empty : List Cond := Cond.code yBo_empty cBo_empty 1 (some .long) :: BIG
theorem dBo_empty_0 : decode cBo_empty 0 = .ok (.aload_n 0, 1) := by decide +kernel
theorem dBo_empty_1 : decode cBo_empty 1 = .ok (.getfield 15, 3) := by decide +kernel
theorem dBo_empty_4 : decode cBo_empty 4 = .ok (.iconst 0, 1) := by decide +kernel
theorem dBo_empty_5 : decode cBo_empty 5 = .ok (.laload, 1) := by decide +kernel
theorem dBo_empty_6 : decode cBo_empty 6 = .ok (.lreturn, 1) := by decide +kernel

def f_Bo_empty (oS_sets : Nat → Int64) : Int64 :=
  oS_sets (0 : Int32).toNatClampNeg
theorem f_Bo_empty_eq (oS_sets : Nat → Int64) : f_Bo_empty oS_sets =
  oS_sets (0 : Int32).toNatClampNeg := rfl

set_option maxHeartbeats 4000000 in
set_option maxRecDepth 100000 in
theorem c_Bo_empty (l : Launch) (dC : Nat → ClassId) (dI : Nat → Nat → Nat) (cI cJ cC : ClassId) (ad : Nat → Nat) (o o_men o_sets : Nat) (oS_men : Nat → Int32) (oS_sets : Nat → Int64) : Met l yBo_empty wsBo_empty { frames := 0, cells := 0, slots := 0, locals := 0 } (roP dC dI (TYS cI cJ cC) [.ref o] [(o, .inr (0, [.ref o_men, .ref o_sets])), (o_men, .inl (cI, 64, .inl oS_men)), (o_sets, .inl (cJ, 16, .inr (.inl oS_sets)))] (GS ad)) (vp_Sl (fun r => r = f_Bo_empty oS_sets)) 0 0 (fun _ => False) := by
  refine Met.ofW (cc := cBo_empty) (maxL := 1) (ret := (some .long)) (by decide) rfl ?_
  intro p e s m args below meth c s₁ B hml hv
  obtain ⟨rfl, hP, hK, hG⟩ := hv
  have hx := B.exec
  have hb := B.bytes
  have hr := B.returns
  have hB : ∀ w9 ∈ BIG, w9.before ([.ref o]).toArray s = true := fun w9 h => atoms_spec (ws := wsBo_empty) B.pre w9 (List.mem_cons_of_mem _ h)
  have hown : s.vm.findClass "ChessRules$Board" = some m.cls := findClass_of_methodNamed B.named
  have hlocks := B.notSynchronized
  have hS : va_S (fun _ => False) s.heap s.heap [] := va_S.rf
  have hP : va_P (dC, dI) vwCl [(o, .inr (0, [.ref o_men, .ref o_sets])), (o_men, .inl (cI, 64, .inl oS_men)), (o_sets, .inl (cJ, 16, .inr (.inl oS_sets)))] s.heap := hP
  have hl := lv_entry ([.ref o]) (n := 1) (Nat.le_of_ble_eq_true rfl)
  rw [lg_entry_eq]
  generalize (lg_sl ([.ref o]) ++ List.replicate (1 - (lg_sl ([.ref o])).length) Slot.unset).toArray = ls at hl ⊢
  have hl : lv_has ls 1 [(0, .ref o)] := hl
  refine lv_aload_n hx hb dBo_empty_0 rfl (lv_at hl 0 rfl) ?_
  refine va_get (D := (dC, dI)) (ci := 0) (v := .ref o_sets) (C := RBo) (T := TBo) (N := 2) hx hb hB inBo hown hK hP 0 rfl rfl 1 (by decide) (hB _ q1_69) (fun _ h9 => h9) rfl dBo_empty_1 ?_
  refine lv_iconst (v := 0) hx hb dBo_empty_4 (by decide) ?_
  refine va_lald hx hb hK hP 2 1 rfl rfl (vp_in_nI (n := 0) (by decide) (by decide)) dBo_empty_5 ?_
  exact ro_retl hx hb hr hlocks dBo_empty_6 (Eq.symm (by rw [f_Bo_empty_eq] <;> rfl))

abbrev cBo_setOf : ByteArray := prog_2_method_6_code
def yBo_setOf : MethodName := ⟨"ChessRules$Board", "setOf", "(II)J"⟩
def wsBo_setOf : List Cond := Cond.code yBo_setOf cBo_setOf 3 (some .long) :: BIG
theorem dBo_setOf_0 : decode cBo_setOf 0 = .ok (.aload_n 0, 1) := by decide +kernel
theorem dBo_setOf_1 : decode cBo_setOf 1 = .ok (.getfield 15, 3) := by decide +kernel
theorem dBo_setOf_4 : decode cBo_setOf 4 = .ok (.iload_n 1, 1) := by decide +kernel
theorem dBo_setOf_5 : decode cBo_setOf 5 = .ok (.bipush 8, 2) := by decide +kernel
theorem dBo_setOf_7 : decode cBo_setOf 7 = .ok (.iload_n 2, 1) := by decide +kernel
theorem dBo_setOf_8 : decode cBo_setOf 8 = .ok (.imul, 1) := by decide +kernel
theorem dBo_setOf_9 : decode cBo_setOf 9 = .ok (.iadd, 1) := by decide +kernel
theorem dBo_setOf_10 : decode cBo_setOf 10 = .ok (.bipush 15, 2) := by decide +kernel
theorem dBo_setOf_12 : decode cBo_setOf 12 = .ok (.iand, 1) := by decide +kernel
theorem dBo_setOf_13 : decode cBo_setOf 13 = .ok (.laload, 1) := by decide +kernel
theorem dBo_setOf_14 : decode cBo_setOf 14 = .ok (.lreturn, 1) := by decide +kernel

def f_Bo_setOf (oS_sets : Nat → Int64) (kind : Int32) (side : Int32) : Int64 :=
  oS_sets ((kind + (8 * side)) &&& 15).toNatClampNeg
theorem f_Bo_setOf_eq (oS_sets : Nat → Int64) (kind : Int32) (side : Int32) : f_Bo_setOf oS_sets kind side =
  oS_sets ((kind + (8 * side)) &&& 15).toNatClampNeg := rfl

set_option maxHeartbeats 4000000 in
set_option maxRecDepth 100000 in
theorem c_Bo_setOf (l : Launch) (dC : Nat → ClassId) (dI : Nat → Nat → Nat) (cI cJ cC : ClassId) (ad : Nat → Nat) (o o_men o_sets : Nat) (oS_men : Nat → Int32) (oS_sets : Nat → Int64) (kind : Int32) (side : Int32) : Met l yBo_setOf wsBo_setOf { frames := 0, cells := 0, slots := 0, locals := 0 } (roP dC dI (TYS cI cJ cC) [.ref o, .int kind, .int side] [(o, .inr (0, [.ref o_men, .ref o_sets])), (o_men, .inl (cI, 64, .inl oS_men)), (o_sets, .inl (cJ, 16, .inr (.inl oS_sets)))] (GS ad)) (vp_Sl (fun r => r = f_Bo_setOf oS_sets kind side)) 0 0 (fun _ => False) := by
  refine Met.ofW (cc := cBo_setOf) (maxL := 3) (ret := (some .long)) (by decide) rfl ?_
  intro p e s m args below meth c s₁ B hml hv
  obtain ⟨rfl, hP, hK, hG⟩ := hv
  have hx := B.exec
  have hb := B.bytes
  have hr := B.returns
  have hB : ∀ w9 ∈ BIG, w9.before ([.ref o, .int kind, .int side]).toArray s = true := fun w9 h => atoms_spec (ws := wsBo_setOf) B.pre w9 (List.mem_cons_of_mem _ h)
  have hown : s.vm.findClass "ChessRules$Board" = some m.cls := findClass_of_methodNamed B.named
  have hlocks := B.notSynchronized
  have hS : va_S (fun _ => False) s.heap s.heap [] := va_S.rf
  have hP : va_P (dC, dI) vwCl [(o, .inr (0, [.ref o_men, .ref o_sets])), (o_men, .inl (cI, 64, .inl oS_men)), (o_sets, .inl (cJ, 16, .inr (.inl oS_sets)))] s.heap := hP
  have hl := lv_entry ([.ref o, .int kind, .int side]) (n := 3) (Nat.le_of_ble_eq_true rfl)
  rw [lg_entry_eq]
  generalize (lg_sl ([.ref o, .int kind, .int side]) ++ List.replicate (3 - (lg_sl ([.ref o, .int kind, .int side])).length) Slot.unset).toArray = ls at hl ⊢
  have hl : lv_has ls 3 [(0, .ref o), (1, .int kind), (2, .int side)] := hl
  refine lv_aload_n hx hb dBo_setOf_0 rfl (lv_at hl 0 rfl) ?_
  refine va_get (D := (dC, dI)) (ci := 0) (v := .ref o_sets) (C := RBo) (T := TBo) (N := 2) hx hb hB inBo hown hK hP 0 rfl rfl 1 (by decide) (hB _ q1_69) (fun _ h9 => h9) rfl dBo_setOf_1 ?_
  refine lv_iload_n hx hb dBo_setOf_4 rfl (lv_at hl 1 rfl) ?_
  refine lv_bipush (v := 8) hx hb dBo_setOf_5 (by decide) ?_
  refine lv_iload_n hx hb dBo_setOf_7 rfl (lv_at hl 2 rfl) ?_
  refine lv_imul hx hb dBo_setOf_8 ?_
  refine lv_iadd hx hb dBo_setOf_9 ?_
  refine lv_bipush (v := 15) hx hb dBo_setOf_10 (by decide) ?_
  refine lv_iand hx hb dBo_setOf_12 ?_
  refine va_lald hx hb hK hP 2 1 rfl rfl (pk_andIn _ 4 rfl (by decide)) dBo_setOf_13 ?_
  exact ro_retl hx hb hr hlocks dBo_setOf_14 (Eq.symm (by rw [f_Bo_setOf_eq] <;> rfl))

abbrev cBo_bothOf : ByteArray := prog_2_method_7_code
def yBo_bothOf : MethodName := ⟨"ChessRules$Board", "bothOf", "(I)J"⟩
def wsBo_bothOf : List Cond := Cond.code yBo_bothOf cBo_bothOf 2 (some .long) :: BIG
theorem dBo_bothOf_0 : decode cBo_bothOf 0 = .ok (.aload_n 0, 1) := by decide +kernel
theorem dBo_bothOf_1 : decode cBo_bothOf 1 = .ok (.iload_n 1, 1) := by decide +kernel
theorem dBo_bothOf_2 : decode cBo_bothOf 2 = .ok (.iconst 0, 1) := by decide +kernel
theorem dBo_bothOf_3 : decode cBo_bothOf 3 = .ok (.invokevirtual 29, 3) := by decide +kernel
theorem dBo_bothOf_6 : decode cBo_bothOf 6 = .ok (.aload_n 0, 1) := by decide +kernel
theorem dBo_bothOf_7 : decode cBo_bothOf 7 = .ok (.iload_n 1, 1) := by decide +kernel
theorem dBo_bothOf_8 : decode cBo_bothOf 8 = .ok (.iconst 1, 1) := by decide +kernel
theorem dBo_bothOf_9 : decode cBo_bothOf 9 = .ok (.invokevirtual 29, 3) := by decide +kernel
theorem dBo_bothOf_12 : decode cBo_bothOf 12 = .ok (.lor, 1) := by decide +kernel
theorem dBo_bothOf_13 : decode cBo_bothOf 13 = .ok (.lreturn, 1) := by decide +kernel

def f_Bo_bothOf (oS_sets : Nat → Int64) (kind : Int32) : Int64 :=
  (f_Bo_setOf oS_sets kind 0) ||| (f_Bo_setOf oS_sets kind 1)
theorem f_Bo_bothOf_eq (oS_sets : Nat → Int64) (kind : Int32) : f_Bo_bothOf oS_sets kind =
  (f_Bo_setOf oS_sets kind 0) ||| (f_Bo_setOf oS_sets kind 1) := rfl

set_option maxHeartbeats 4000000 in
set_option maxRecDepth 100000 in
theorem c_Bo_bothOf (l : Launch) (dC : Nat → ClassId) (dI : Nat → Nat → Nat) (cI cJ cC : ClassId) (ad : Nat → Nat) (o o_men o_sets : Nat) (oS_men : Nat → Int32) (oS_sets : Nat → Int64) (kind : Int32) : Met l yBo_bothOf wsBo_bothOf { frames := 1, cells := 0, slots := 0, locals := 22 } (roP dC dI (TYS cI cJ cC) [.ref o, .int kind] [(o, .inr (0, [.ref o_men, .ref o_sets])), (o_men, .inl (cI, 64, .inl oS_men)), (o_sets, .inl (cJ, 16, .inr (.inl oS_sets)))] (GS ad)) (vp_Sl (fun r => r = f_Bo_bothOf oS_sets kind)) 0 0 (fun _ => False) := by
  refine Met.ofW (cc := cBo_bothOf) (maxL := 2) (ret := (some .long)) (by decide) rfl ?_
  intro p e s m args below meth c s₁ B hml hv
  obtain ⟨rfl, hP, hK, hG⟩ := hv
  have hx := B.exec
  have hb := B.bytes
  have hr := B.returns
  have hB : ∀ w9 ∈ BIG, w9.before ([.ref o, .int kind]).toArray s = true := fun w9 h => atoms_spec (ws := wsBo_bothOf) B.pre w9 (List.mem_cons_of_mem _ h)
  have hown : s.vm.findClass "ChessRules$Board" = some m.cls := findClass_of_methodNamed B.named
  have hlocks := B.notSynchronized
  have hS : va_S (fun _ => False) s.heap s.heap [] := va_S.rf
  have hP : va_P (dC, dI) vwCl [(o, .inr (0, [.ref o_men, .ref o_sets])), (o_men, .inl (cI, 64, .inl oS_men)), (o_sets, .inl (cJ, 16, .inr (.inl oS_sets)))] s.heap := hP
  have hl := lv_entry ([.ref o, .int kind]) (n := 2) (Nat.le_of_ble_eq_true rfl)
  rw [lg_entry_eq]
  generalize (lg_sl ([.ref o, .int kind]) ++ List.replicate (2 - (lg_sl ([.ref o, .int kind])).length) Slot.unset).toArray = ls at hl ⊢
  have hl : lv_has ls 2 [(0, .ref o), (1, .int kind)] := hl
  refine lv_aload_n hx hb dBo_bothOf_0 rfl (lv_at hl 0 rfl) ?_
  refine lv_iload_n hx hb dBo_bothOf_1 rfl (lv_at hl 1 rfl) ?_
  refine lv_iconst (v := 0) hx hb dBo_bothOf_2 (by decide) ?_
  refine ro_gol (va_runV (C := "ChessRules$Board") (As := [.int kind, .int 0]) (rest := []) ⟨hx, hb, hml, hown, hB⟩ (c_Bo_setOf l dC dI cI cJ cC ad o o_men o_sets oS_men oS_sets kind 0) ⟨callB_of 2 hB (big_self q2_112) rfl rfl rfl (hB _ q1_5) (hB _ q2_123) (by decide +kernel) ⟨Nat.le_of_ble_eq_true rfl, Nat.le_of_ble_eq_true rfl⟩, (hB _ q2_111), (hB _ qs2_1)⟩ (ro_preV (GS_ok ad) hK hP hG hS [0, 1, 2] rfl (va_recv hK hP (ci := 0) (q0 := 0) rfl rfl)) rfl rfl hl.1 rfl (lv_room (Nat.le_of_ble_eq_true rfl)) dBo_bothOf_3 ⟨Nat.le_of_ble_eq_true rfl, Nat.le_of_ble_eq_true rfl⟩) ?_
  refine lv_aload_n hx hb dBo_bothOf_6 rfl (lv_at hl 0 rfl) ?_
  refine lv_iload_n hx hb dBo_bothOf_7 rfl (lv_at hl 1 rfl) ?_
  refine lv_iconst (v := 1) hx hb dBo_bothOf_8 (by decide) ?_
  refine ro_gol (va_runV (C := "ChessRules$Board") (As := [.int kind, .int 1]) (rest := [.long (f_Bo_setOf oS_sets kind 0)]) ⟨hx, hb, hml, hown, hB⟩ (c_Bo_setOf l dC dI cI cJ cC ad o o_men o_sets oS_men oS_sets kind 1) ⟨callB_of 2 hB (big_self q2_112) rfl rfl rfl (hB _ q1_5) (hB _ q2_123) (by decide +kernel) ⟨Nat.le_of_ble_eq_true rfl, Nat.le_of_ble_eq_true rfl⟩, (hB _ q2_111), (hB _ qs2_1)⟩ (ro_preV (GS_ok ad) hK hP hG hS [0, 1, 2] rfl (va_recv hK hP (ci := 0) (q0 := 0) rfl rfl)) rfl rfl hl.1 rfl (lv_room (Nat.le_of_ble_eq_true rfl)) dBo_bothOf_9 ⟨Nat.le_of_ble_eq_true rfl, Nat.le_of_ble_eq_true rfl⟩) ?_
  refine lv_lor hx hb dBo_bothOf_12 ?_
  exact ro_retl hx hb hr hlocks dBo_bothOf_13 (Eq.symm (by rw [f_Bo_bothOf_eq] <;> rfl))

abbrev cBo_allOf : ByteArray := prog_2_method_8_code
def yBo_allOf : MethodName := ⟨"ChessRules$Board", "allOf", "(I)J"⟩
def wsBo_allOf : List Cond := Cond.code yBo_allOf cBo_allOf 5 (some .long) :: BIG
theorem dBo_allOf_0 : decode cBo_allOf 0 = .ok (.lconst 0, 1) := by decide +kernel
theorem dBo_allOf_1 : decode cBo_allOf 1 = .ok (.lstore_n 2, 1) := by decide +kernel
theorem dBo_allOf_2 : decode cBo_allOf 2 = .ok (.iconst 1, 1) := by decide +kernel
theorem dBo_allOf_3 : decode cBo_allOf 3 = .ok (.istore 4, 2) := by decide +kernel
theorem dBo_allOf_5 : decode cBo_allOf 5 = .ok (.iload 4, 2) := by decide +kernel
theorem dBo_allOf_7 : decode cBo_allOf 7 = .ok (.bipush 6, 2) := by decide +kernel
theorem dBo_allOf_9 : decode cBo_allOf 9 = .ok (.if_icmp .gt 27, 3) := by decide +kernel
theorem dBo_allOf_12 : decode cBo_allOf 12 = .ok (.lload_n 2, 1) := by decide +kernel
theorem dBo_allOf_13 : decode cBo_allOf 13 = .ok (.aload_n 0, 1) := by decide +kernel
theorem dBo_allOf_14 : decode cBo_allOf 14 = .ok (.getfield 15, 3) := by decide +kernel
theorem dBo_allOf_17 : decode cBo_allOf 17 = .ok (.iload 4, 2) := by decide +kernel
theorem dBo_allOf_19 : decode cBo_allOf 19 = .ok (.bipush 8, 2) := by decide +kernel
theorem dBo_allOf_21 : decode cBo_allOf 21 = .ok (.iload_n 1, 1) := by decide +kernel
theorem dBo_allOf_22 : decode cBo_allOf 22 = .ok (.imul, 1) := by decide +kernel
theorem dBo_allOf_23 : decode cBo_allOf 23 = .ok (.iadd, 1) := by decide +kernel
theorem dBo_allOf_24 : decode cBo_allOf 24 = .ok (.bipush 15, 2) := by decide +kernel
theorem dBo_allOf_26 : decode cBo_allOf 26 = .ok (.iand, 1) := by decide +kernel
theorem dBo_allOf_27 : decode cBo_allOf 27 = .ok (.laload, 1) := by decide +kernel
theorem dBo_allOf_28 : decode cBo_allOf 28 = .ok (.lor, 1) := by decide +kernel
theorem dBo_allOf_29 : decode cBo_allOf 29 = .ok (.lstore_n 2, 1) := by decide +kernel
theorem dBo_allOf_30 : decode cBo_allOf 30 = .ok (.iinc 4 1, 3) := by decide +kernel
theorem dBo_allOf_33 : decode cBo_allOf 33 = .ok (.goto (-28), 3) := by decide +kernel
theorem dBo_allOf_36 : decode cBo_allOf 36 = .ok (.lload_n 2, 1) := by decide +kernel
theorem dBo_allOf_37 : decode cBo_allOf 37 = .ok (.lreturn, 1) := by decide +kernel

def f_Bo_allOf_5 (oS_sets : Nat → Int64) (side : Int32) : Nat → Int64 → Int32 → Int64
  | 0 => fun _ _ => 0
  | n_5 + 1 => fun v2_5 v4_5 => (if 6 < v4_5 then v2_5 else (f_Bo_allOf_5 oS_sets side n_5) (v2_5 ||| (oS_sets ((v4_5 + (8 * side)) &&& 15).toNatClampNeg)) (v4_5 + 1))
theorem f_Bo_allOf_5_eq (oS_sets : Nat → Int64) (side : Int32) (n_5 : Nat) (v2_5 : Int64) (v4_5 : Int32) : f_Bo_allOf_5 oS_sets side (n_5 + 1) v2_5 v4_5 =
  (if 6 < v4_5 then v2_5 else (f_Bo_allOf_5 oS_sets side n_5) (v2_5 ||| (oS_sets ((v4_5 + (8 * side)) &&& 15).toNatClampNeg)) (v4_5 + 1)) := rfl

def f_Bo_allOf (oS_sets : Nat → Int64) (side : Int32) : Int64 :=
  f_Bo_allOf_5 oS_sets side (7) 0 1
theorem f_Bo_allOf_eq (oS_sets : Nat → Int64) (side : Int32) : f_Bo_allOf oS_sets side =
  f_Bo_allOf_5 oS_sets side (7) 0 1 := rfl

set_option maxHeartbeats 4000000 in
set_option maxRecDepth 100000 in
theorem c_Bo_allOf (l : Launch) (dC : Nat → ClassId) (dI : Nat → Nat → Nat) (cI cJ cC : ClassId) (ad : Nat → Nat) (o o_men o_sets : Nat) (oS_men : Nat → Int32) (oS_sets : Nat → Int64) (side : Int32) : Met l yBo_allOf wsBo_allOf { frames := 0, cells := 0, slots := 0, locals := 0 } (roP dC dI (TYS cI cJ cC) [.ref o, .int side] [(o, .inr (0, [.ref o_men, .ref o_sets])), (o_men, .inl (cI, 64, .inl oS_men)), (o_sets, .inl (cJ, 16, .inr (.inl oS_sets)))] (GS ad)) (vp_Sl (fun r => r = f_Bo_allOf oS_sets side)) 0 0 (fun _ => False) := by
  refine Met.ofW (cc := cBo_allOf) (maxL := 5) (ret := (some .long)) (by decide) rfl ?_
  intro p e s m args below meth c s₁ B hml hv
  obtain ⟨rfl, hP, hK, hG⟩ := hv
  have hx := B.exec
  have hb := B.bytes
  have hr := B.returns
  have hB : ∀ w9 ∈ BIG, w9.before ([.ref o, .int side]).toArray s = true := fun w9 h => atoms_spec (ws := wsBo_allOf) B.pre w9 (List.mem_cons_of_mem _ h)
  have hown : s.vm.findClass "ChessRules$Board" = some m.cls := findClass_of_methodNamed B.named
  have hlocks := B.notSynchronized
  have hS : va_S (fun _ => False) s.heap s.heap [] := va_S.rf
  have hP : va_P (dC, dI) vwCl [(o, .inr (0, [.ref o_men, .ref o_sets])), (o_men, .inl (cI, 64, .inl oS_men)), (o_sets, .inl (cJ, 16, .inr (.inl oS_sets)))] s.heap := hP
  have hl := lv_entry ([.ref o, .int side]) (n := 5) (Nat.le_of_ble_eq_true rfl)
  rw [lg_entry_eq]
  generalize (lg_sl ([.ref o, .int side]) ++ List.replicate (5 - (lg_sl ([.ref o, .int side])).length) Slot.unset).toArray = ls at hl ⊢
  have hl : lv_has ls 5 [(0, .ref o), (1, .int side)] := hl
  refine lv_lconst (v := 0) hx hb dBo_allOf_0 (by decide) ?_
  refine lv_lstore_n (lv' := [(2, .long 0), (0, .ref o), (1, .int side)]) hx hb dBo_allOf_1 rfl hl (by decide) rfl (fun ls hl => ?_)
  refine lv_iconst (v := 1) hx hb dBo_allOf_2 (by decide) ?_
  refine lv_istore (lv' := [(4, .int 1), (2, .long 0), (0, .ref o), (1, .int side)]) hx hb dBo_allOf_3 hl (by decide) rfl (fun ls hl => ?_)
  have J_5 : ∀ (n_5 : Nat) (v2_5 : Int64) (v4_5 : Int32), f_Bo_allOf oS_sets side = f_Bo_allOf_5 oS_sets side n_5 v2_5 v4_5 → ((1 : Int) ≤ v4_5.toInt ∧ (6 : Int32).toInt - v4_5.toInt + 2 ≤ (n_5 : Int) ∧ (1 : Int) ≤ (n_5 : Int)) → ∀ ls : Array Slot, lv_has ls 5 [(0, .ref o), (1, .int side), (2, .long v2_5), (4, .int v4_5)] → W p l e (headSpec wsBo_allOf { frames := 0, cells := 0, slots := 0, locals := 0 }).room s m ([.ref o, .int side]).toArray below meth c s.heap [] 0 0 (MQ below (vp_Sl (fun r => r = f_Bo_allOf oS_sets side)) ([.ref o, .int side]).toArray s 0 0 (fun _ => False)) (F0 m 5 ls []) := by
    intro n_5
    induction n_5 with
    | zero => intro v2_5 v4_5 _ hm_5; exact absurd hm_5 (by omega)
    | succ n_5 ih_5 =>
      intro v2_5 v4_5 he_5 hm_5 ls hl
      refine lv_iload hx hb dBo_allOf_5 (lv_at hl 3 rfl) ?_
      refine lv_bipush (v := 6) hx hb dBo_allOf_7 (by decide) ?_
      refine lv_icmp_gt (tgt := 36) hx hb dBo_allOf_9 (by decide) (fun c_1 => ?_) (fun c_1 => ?_)
      · refine lv_lload_n hx hb dBo_allOf_36 rfl (lv_at hl 2 rfl) ?_
        exact ro_retl hx hb hr hlocks dBo_allOf_37 (Eq.symm (he_5.trans (by rw [f_Bo_allOf_5_eq, if_pos c_1] <;> rfl)))
      · refine lv_lload_n hx hb dBo_allOf_12 rfl (lv_at hl 2 rfl) ?_
        refine lv_aload_n hx hb dBo_allOf_13 rfl (lv_at hl 0 rfl) ?_
        refine va_get (D := (dC, dI)) (ci := 0) (v := .ref o_sets) (C := RBo) (T := TBo) (N := 2) hx hb hB inBo hown hK hP 0 rfl rfl 1 (by decide) (hB _ q1_69) (fun _ h9 => h9) rfl dBo_allOf_14 ?_
        refine lv_iload hx hb dBo_allOf_17 (lv_at hl 3 rfl) ?_
        refine lv_bipush (v := 8) hx hb dBo_allOf_19 (by decide) ?_
        refine lv_iload_n hx hb dBo_allOf_21 rfl (lv_at hl 1 rfl) ?_
        refine lv_imul hx hb dBo_allOf_22 ?_
        refine lv_iadd hx hb dBo_allOf_23 ?_
        refine lv_bipush (v := 15) hx hb dBo_allOf_24 (by decide) ?_
        refine lv_iand hx hb dBo_allOf_26 ?_
        refine va_lald hx hb hK hP 2 1 rfl rfl (pk_andIn _ 4 rfl (by decide)) dBo_allOf_27 ?_
        refine lv_lor hx hb dBo_allOf_28 ?_
        refine lv_lstore_n (lv' := [(2, .long (v2_5 ||| (oS_sets ((v4_5 + (8 * side)) &&& 15).toNatClampNeg))), (0, .ref o), (1, .int side), (4, .int v4_5)]) hx hb dBo_allOf_29 rfl hl (by decide) rfl (fun ls hl => ?_)
        refine lv_iinc (v := v4_5 + 1) (lv' := [(4, .int (v4_5 + 1)), (2, .long (v2_5 ||| (oS_sets ((v4_5 + (8 * side)) &&& 15).toNatClampNeg))), (0, .ref o), (1, .int side)]) hx hb dBo_allOf_30 hl (k := 3) rfl rfl (by decide) rfl (fun ls hl => ?_)
        refine lv_goto (tgt := 5) hx hb dBo_allOf_33 (by decide) ?_
        exact ih_5 (v2_5 ||| (oS_sets ((v4_5 + (8 * side)) &&& 15).toNatClampNeg)) (v4_5 + 1) (he_5.trans (by rw [f_Bo_allOf_5_eq, if_neg c_1] <;> rfl)) (by have z1 := tnl c_1; have y6 : (6 : Int32).toInt = 6 := rfl; have zr := i_rng (6 : Int32); have zs := i_succ9 v4_5 (by omega); omega) ls (lv_sub hl [2, 3, 1, 0] rfl)
  exact J_5 (7) 0 1 (by rw [f_Bo_allOf_eq] <;> rfl) (by decide) ls (lv_sub hl [2, 3, 1, 0] rfl)

abbrev cBo_attackersOf : ByteArray := prog_2_method_9_code
def yBo_attackersOf : MethodName := ⟨"ChessRules$Board", "attackersOf", "(JIJ)J"⟩
def wsBo_attackersOf : List Cond := Cond.code yBo_attackersOf cBo_attackersOf 15 (some .long) :: BIG
theorem dBo_attackersOf_0 : decode cBo_attackersOf 0 = .ok (.aload_n 0, 1) := by decide +kernel
theorem dBo_attackersOf_1 : decode cBo_attackersOf 1 = .ok (.iconst 5, 1) := by decide +kernel
theorem dBo_attackersOf_2 : decode cBo_attackersOf 2 = .ok (.iload_n 3, 1) := by decide +kernel
theorem dBo_attackersOf_3 : decode cBo_attackersOf 3 = .ok (.invokevirtual 29, 3) := by decide +kernel
theorem dBo_attackersOf_6 : decode cBo_attackersOf 6 = .ok (.aload_n 0, 1) := by decide +kernel
theorem dBo_attackersOf_7 : decode cBo_attackersOf 7 = .ok (.iconst 4, 1) := by decide +kernel
theorem dBo_attackersOf_8 : decode cBo_attackersOf 8 = .ok (.iload_n 3, 1) := by decide +kernel
theorem dBo_attackersOf_9 : decode cBo_attackersOf 9 = .ok (.invokevirtual 29, 3) := by decide +kernel
theorem dBo_attackersOf_12 : decode cBo_attackersOf 12 = .ok (.lor, 1) := by decide +kernel
theorem dBo_attackersOf_13 : decode cBo_attackersOf 13 = .ok (.lstore 6, 2) := by decide +kernel
theorem dBo_attackersOf_15 : decode cBo_attackersOf 15 = .ok (.aload_n 0, 1) := by decide +kernel
theorem dBo_attackersOf_16 : decode cBo_attackersOf 16 = .ok (.iconst 5, 1) := by decide +kernel
theorem dBo_attackersOf_17 : decode cBo_attackersOf 17 = .ok (.iload_n 3, 1) := by decide +kernel
theorem dBo_attackersOf_18 : decode cBo_attackersOf 18 = .ok (.invokevirtual 29, 3) := by decide +kernel
theorem dBo_attackersOf_21 : decode cBo_attackersOf 21 = .ok (.aload_n 0, 1) := by decide +kernel
theorem dBo_attackersOf_22 : decode cBo_attackersOf 22 = .ok (.iconst 3, 1) := by decide +kernel
theorem dBo_attackersOf_23 : decode cBo_attackersOf 23 = .ok (.iload_n 3, 1) := by decide +kernel
theorem dBo_attackersOf_24 : decode cBo_attackersOf 24 = .ok (.invokevirtual 29, 3) := by decide +kernel
theorem dBo_attackersOf_27 : decode cBo_attackersOf 27 = .ok (.lor, 1) := by decide +kernel
theorem dBo_attackersOf_28 : decode cBo_attackersOf 28 = .ok (.lstore 8, 2) := by decide +kernel
theorem dBo_attackersOf_30 : decode cBo_attackersOf 30 = .ok (.lload_n 1, 1) := by decide +kernel
theorem dBo_attackersOf_31 : decode cBo_attackersOf 31 = .ok (.iconst 1, 1) := by decide +kernel
theorem dBo_attackersOf_32 : decode cBo_attackersOf 32 = .ok (.iload_n 3, 1) := by decide +kernel
theorem dBo_attackersOf_33 : decode cBo_attackersOf 33 = .ok (.isub, 1) := by decide +kernel
theorem dBo_attackersOf_34 : decode cBo_attackersOf 34 = .ok (.invokestatic 33, 3) := by decide +kernel
theorem dBo_attackersOf_37 : decode cBo_attackersOf 37 = .ok (.aload_n 0, 1) := by decide +kernel
theorem dBo_attackersOf_38 : decode cBo_attackersOf 38 = .ok (.iconst 1, 1) := by decide +kernel
theorem dBo_attackersOf_39 : decode cBo_attackersOf 39 = .ok (.iload_n 3, 1) := by decide +kernel
theorem dBo_attackersOf_40 : decode cBo_attackersOf 40 = .ok (.invokevirtual 29, 3) := by decide +kernel
theorem dBo_attackersOf_43 : decode cBo_attackersOf 43 = .ok (.land, 1) := by decide +kernel
theorem dBo_attackersOf_44 : decode cBo_attackersOf 44 = .ok (.lload_n 1, 1) := by decide +kernel
theorem dBo_attackersOf_45 : decode cBo_attackersOf 45 = .ok (.invokestatic 39, 3) := by decide +kernel
theorem dBo_attackersOf_48 : decode cBo_attackersOf 48 = .ok (.aload_n 0, 1) := by decide +kernel
theorem dBo_attackersOf_49 : decode cBo_attackersOf 49 = .ok (.iconst 2, 1) := by decide +kernel
theorem dBo_attackersOf_50 : decode cBo_attackersOf 50 = .ok (.iload_n 3, 1) := by decide +kernel
theorem dBo_attackersOf_51 : decode cBo_attackersOf 51 = .ok (.invokevirtual 29, 3) := by decide +kernel
theorem dBo_attackersOf_54 : decode cBo_attackersOf 54 = .ok (.land, 1) := by decide +kernel
theorem dBo_attackersOf_55 : decode cBo_attackersOf 55 = .ok (.lor, 1) := by decide +kernel
theorem dBo_attackersOf_56 : decode cBo_attackersOf 56 = .ok (.lload_n 1, 1) := by decide +kernel
theorem dBo_attackersOf_57 : decode cBo_attackersOf 57 = .ok (.invokestatic 43, 3) := by decide +kernel
theorem dBo_attackersOf_60 : decode cBo_attackersOf 60 = .ok (.aload_n 0, 1) := by decide +kernel
theorem dBo_attackersOf_61 : decode cBo_attackersOf 61 = .ok (.bipush 6, 2) := by decide +kernel
theorem dBo_attackersOf_63 : decode cBo_attackersOf 63 = .ok (.iload_n 3, 1) := by decide +kernel
theorem dBo_attackersOf_64 : decode cBo_attackersOf 64 = .ok (.invokevirtual 29, 3) := by decide +kernel
theorem dBo_attackersOf_67 : decode cBo_attackersOf 67 = .ok (.land, 1) := by decide +kernel
theorem dBo_attackersOf_68 : decode cBo_attackersOf 68 = .ok (.lor, 1) := by decide +kernel
theorem dBo_attackersOf_69 : decode cBo_attackersOf 69 = .ok (.lstore 10, 2) := by decide +kernel
theorem dBo_attackersOf_71 : decode cBo_attackersOf 71 = .ok (.iconst 0, 1) := by decide +kernel
theorem dBo_attackersOf_72 : decode cBo_attackersOf 72 = .ok (.istore 12, 2) := by decide +kernel
theorem dBo_attackersOf_74 : decode cBo_attackersOf 74 = .ok (.iload 12, 2) := by decide +kernel
theorem dBo_attackersOf_76 : decode cBo_attackersOf 76 = .ok (.bipush 8, 2) := by decide +kernel
theorem dBo_attackersOf_78 : decode cBo_attackersOf 78 = .ok (.if_icmp .ge 40, 3) := by decide +kernel
theorem dBo_attackersOf_81 : decode cBo_attackersOf 81 = .ok (.iload 12, 2) := by decide +kernel
theorem dBo_attackersOf_83 : decode cBo_attackersOf 83 = .ok (.iconst 4, 1) := by decide +kernel
theorem dBo_attackersOf_84 : decode cBo_attackersOf 84 = .ok (.if_icmp .ge 8, 3) := by decide +kernel
theorem dBo_attackersOf_87 : decode cBo_attackersOf 87 = .ok (.lload 6, 2) := by decide +kernel
theorem dBo_attackersOf_89 : decode cBo_attackersOf 89 = .ok (.goto 5, 3) := by decide +kernel
theorem dBo_attackersOf_92 : decode cBo_attackersOf 92 = .ok (.lload 8, 2) := by decide +kernel
theorem dBo_attackersOf_94 : decode cBo_attackersOf 94 = .ok (.lstore 13, 2) := by decide +kernel
theorem dBo_attackersOf_96 : decode cBo_attackersOf 96 = .ok (.lload 10, 2) := by decide +kernel
theorem dBo_attackersOf_98 : decode cBo_attackersOf 98 = .ok (.iload 12, 2) := by decide +kernel
theorem dBo_attackersOf_100 : decode cBo_attackersOf 100 = .ok (.lload_n 1, 1) := by decide +kernel
theorem dBo_attackersOf_101 : decode cBo_attackersOf 101 = .ok (.lload 4, 2) := by decide +kernel
theorem dBo_attackersOf_103 : decode cBo_attackersOf 103 = .ok (.invokestatic 46, 3) := by decide +kernel
theorem dBo_attackersOf_106 : decode cBo_attackersOf 106 = .ok (.lload 13, 2) := by decide +kernel
theorem dBo_attackersOf_108 : decode cBo_attackersOf 108 = .ok (.land, 1) := by decide +kernel
theorem dBo_attackersOf_109 : decode cBo_attackersOf 109 = .ok (.lor, 1) := by decide +kernel
theorem dBo_attackersOf_110 : decode cBo_attackersOf 110 = .ok (.lstore 10, 2) := by decide +kernel
theorem dBo_attackersOf_112 : decode cBo_attackersOf 112 = .ok (.iinc 12 1, 3) := by decide +kernel
theorem dBo_attackersOf_115 : decode cBo_attackersOf 115 = .ok (.goto (-41), 3) := by decide +kernel
theorem dBo_attackersOf_118 : decode cBo_attackersOf 118 = .ok (.lload 10, 2) := by decide +kernel
theorem dBo_attackersOf_120 : decode cBo_attackersOf 120 = .ok (.lreturn, 1) := by decide +kernel

def f_Bo_attackersOf_94 (r_74 : Int64 → Int32 → Int64) (oS_sets : Nat → Int64) (square : Int64) (side : Int32) (empty : Int64) (v10_74 : Int64) (v12_74 : Int32) (k0_94 : Int64) : Int64 :=
  r_74 (v10_74 ||| ((f_Ra_along v12_74 square empty) &&& k0_94)) (v12_74 + 1)
theorem f_Bo_attackersOf_94_eq (r_74 : Int64 → Int32 → Int64) (oS_sets : Nat → Int64) (square : Int64) (side : Int32) (empty : Int64) (v10_74 : Int64) (v12_74 : Int32) (k0_94 : Int64) : f_Bo_attackersOf_94 r_74 oS_sets square side empty v10_74 v12_74 k0_94 =
  r_74 (v10_74 ||| ((f_Ra_along v12_74 square empty) &&& k0_94)) (v12_74 + 1) := rfl

def f_Bo_attackersOf_74 (oS_sets : Nat → Int64) (square : Int64) (side : Int32) (empty : Int64) : Nat → Int64 → Int32 → Int64
  | 0 => fun _ _ => 0
  | n_74 + 1 => fun v10_74 v12_74 => (if 8 ≤ v12_74 then v10_74 else (if 4 ≤ v12_74 then f_Bo_attackersOf_94 (f_Bo_attackersOf_74 oS_sets square side empty n_74) oS_sets square side empty v10_74 v12_74 ((f_Bo_setOf oS_sets 5 side) ||| (f_Bo_setOf oS_sets 3 side)) else f_Bo_attackersOf_94 (f_Bo_attackersOf_74 oS_sets square side empty n_74) oS_sets square side empty v10_74 v12_74 ((f_Bo_setOf oS_sets 5 side) ||| (f_Bo_setOf oS_sets 4 side))))
theorem f_Bo_attackersOf_74_eq (oS_sets : Nat → Int64) (square : Int64) (side : Int32) (empty : Int64) (n_74 : Nat) (v10_74 : Int64) (v12_74 : Int32) : f_Bo_attackersOf_74 oS_sets square side empty (n_74 + 1) v10_74 v12_74 =
  (if 8 ≤ v12_74 then v10_74 else (if 4 ≤ v12_74 then f_Bo_attackersOf_94 (f_Bo_attackersOf_74 oS_sets square side empty n_74) oS_sets square side empty v10_74 v12_74 ((f_Bo_setOf oS_sets 5 side) ||| (f_Bo_setOf oS_sets 3 side)) else f_Bo_attackersOf_94 (f_Bo_attackersOf_74 oS_sets square side empty n_74) oS_sets square side empty v10_74 v12_74 ((f_Bo_setOf oS_sets 5 side) ||| (f_Bo_setOf oS_sets 4 side)))) := rfl

def f_Bo_attackersOf (oS_sets : Nat → Int64) (square : Int64) (side : Int32) (empty : Int64) : Int64 :=
  f_Bo_attackersOf_74 oS_sets square side empty (9) ((((f_Ra_byPawn square (1 - side)) &&& (f_Bo_setOf oS_sets 1 side)) ||| ((f_Ra_byKnight square) &&& (f_Bo_setOf oS_sets 2 side))) ||| ((f_Ra_byKing square) &&& (f_Bo_setOf oS_sets 6 side))) 0
theorem f_Bo_attackersOf_eq (oS_sets : Nat → Int64) (square : Int64) (side : Int32) (empty : Int64) : f_Bo_attackersOf oS_sets square side empty =
  f_Bo_attackersOf_74 oS_sets square side empty (9) ((((f_Ra_byPawn square (1 - side)) &&& (f_Bo_setOf oS_sets 1 side)) ||| ((f_Ra_byKnight square) &&& (f_Bo_setOf oS_sets 2 side))) ||| ((f_Ra_byKing square) &&& (f_Bo_setOf oS_sets 6 side))) 0 := rfl

set_option maxHeartbeats 4000000 in
set_option maxRecDepth 100000 in
theorem c_Bo_attackersOf (l : Launch) (dC : Nat → ClassId) (dI : Nat → Nat → Nat) (cI cJ cC : ClassId) (ad : Nat → Nat) (o o_men o_sets : Nat) (oS_men : Nat → Int32) (oS_sets : Nat → Int64) (square : Int64) (side : Int32) (empty : Int64) : Met l yBo_attackersOf wsBo_attackersOf { frames := 1, cells := 0, slots := 0, locals := 30 } (roP dC dI (TYS cI cJ cC) [.ref o, .long square, .int side, .long empty] [(o, .inr (0, [.ref o_men, .ref o_sets])), (o_men, .inl (cI, 64, .inl oS_men)), (o_sets, .inl (cJ, 16, .inr (.inl oS_sets)))] (GS ad)) (vp_Sl (fun r => r = f_Bo_attackersOf oS_sets square side empty)) 0 0 (fun _ => False) := by
  refine Met.ofW (cc := cBo_attackersOf) (maxL := 15) (ret := (some .long)) (by decide) rfl ?_
  intro p e s m args below meth c s₁ B hml hv
  obtain ⟨rfl, hP, hK, hG⟩ := hv
  have hx := B.exec
  have hb := B.bytes
  have hr := B.returns
  have hB : ∀ w9 ∈ BIG, w9.before ([.ref o, .long square, .int side, .long empty]).toArray s = true := fun w9 h => atoms_spec (ws := wsBo_attackersOf) B.pre w9 (List.mem_cons_of_mem _ h)
  have hown : s.vm.findClass "ChessRules$Board" = some m.cls := findClass_of_methodNamed B.named
  have hlocks := B.notSynchronized
  have hS : va_S (fun _ => False) s.heap s.heap [] := va_S.rf
  have hP : va_P (dC, dI) vwCl [(o, .inr (0, [.ref o_men, .ref o_sets])), (o_men, .inl (cI, 64, .inl oS_men)), (o_sets, .inl (cJ, 16, .inr (.inl oS_sets)))] s.heap := hP
  have hl := lv_entry ([.ref o, .long square, .int side, .long empty]) (n := 15) (Nat.le_of_ble_eq_true rfl)
  rw [lg_entry_eq]
  generalize (lg_sl ([.ref o, .long square, .int side, .long empty]) ++ List.replicate (15 - (lg_sl ([.ref o, .long square, .int side, .long empty])).length) Slot.unset).toArray = ls at hl ⊢
  have hl : lv_has ls 15 [(0, .ref o), (1, .long square), (3, .int side), (4, .long empty)] := hl
  refine lv_aload_n hx hb dBo_attackersOf_0 rfl (lv_at hl 0 rfl) ?_
  refine lv_iconst (v := 5) hx hb dBo_attackersOf_1 (by decide) ?_
  refine lv_iload_n hx hb dBo_attackersOf_2 rfl (lv_at hl 2 rfl) ?_
  refine ro_gol (va_runV (C := "ChessRules$Board") (As := [.int 5, .int side]) (rest := []) ⟨hx, hb, hml, hown, hB⟩ (c_Bo_setOf l dC dI cI cJ cC ad o o_men o_sets oS_men oS_sets 5 side) ⟨callB_of 2 hB (big_self q2_112) rfl rfl rfl (hB _ q1_5) (hB _ q2_123) (by decide +kernel) ⟨Nat.le_of_ble_eq_true rfl, Nat.le_of_ble_eq_true rfl⟩, (hB _ q2_111), (hB _ qs2_1)⟩ (ro_preV (GS_ok ad) hK hP hG hS [0, 1, 2] rfl (va_recv hK hP (ci := 0) (q0 := 0) rfl rfl)) rfl rfl hl.1 rfl (lv_room (Nat.le_of_ble_eq_true rfl)) dBo_attackersOf_3 ⟨Nat.le_of_ble_eq_true rfl, Nat.le_of_ble_eq_true rfl⟩) ?_
  refine lv_aload_n hx hb dBo_attackersOf_6 rfl (lv_at hl 0 rfl) ?_
  refine lv_iconst (v := 4) hx hb dBo_attackersOf_7 (by decide) ?_
  refine lv_iload_n hx hb dBo_attackersOf_8 rfl (lv_at hl 2 rfl) ?_
  refine ro_gol (va_runV (C := "ChessRules$Board") (As := [.int 4, .int side]) (rest := [.long (f_Bo_setOf oS_sets 5 side)]) ⟨hx, hb, hml, hown, hB⟩ (c_Bo_setOf l dC dI cI cJ cC ad o o_men o_sets oS_men oS_sets 4 side) ⟨callB_of 2 hB (big_self q2_112) rfl rfl rfl (hB _ q1_5) (hB _ q2_123) (by decide +kernel) ⟨Nat.le_of_ble_eq_true rfl, Nat.le_of_ble_eq_true rfl⟩, (hB _ q2_111), (hB _ qs2_1)⟩ (ro_preV (GS_ok ad) hK hP hG hS [0, 1, 2] rfl (va_recv hK hP (ci := 0) (q0 := 0) rfl rfl)) rfl rfl hl.1 rfl (lv_room (Nat.le_of_ble_eq_true rfl)) dBo_attackersOf_9 ⟨Nat.le_of_ble_eq_true rfl, Nat.le_of_ble_eq_true rfl⟩) ?_
  refine lv_lor hx hb dBo_attackersOf_12 ?_
  refine lv_lstore (lv' := [(6, .long ((f_Bo_setOf oS_sets 5 side) ||| (f_Bo_setOf oS_sets 4 side))), (0, .ref o), (1, .long square), (3, .int side), (4, .long empty)]) hx hb dBo_attackersOf_13 hl (by decide) rfl (fun ls hl => ?_)
  refine lv_aload_n hx hb dBo_attackersOf_15 rfl (lv_at hl 1 rfl) ?_
  refine lv_iconst (v := 5) hx hb dBo_attackersOf_16 (by decide) ?_
  refine lv_iload_n hx hb dBo_attackersOf_17 rfl (lv_at hl 3 rfl) ?_
  refine ro_gol (va_runV (C := "ChessRules$Board") (As := [.int 5, .int side]) (rest := []) ⟨hx, hb, hml, hown, hB⟩ (c_Bo_setOf l dC dI cI cJ cC ad o o_men o_sets oS_men oS_sets 5 side) ⟨callB_of 2 hB (big_self q2_112) rfl rfl rfl (hB _ q1_5) (hB _ q2_123) (by decide +kernel) ⟨Nat.le_of_ble_eq_true rfl, Nat.le_of_ble_eq_true rfl⟩, (hB _ q2_111), (hB _ qs2_1)⟩ (ro_preV (GS_ok ad) hK hP hG hS [0, 1, 2] rfl (va_recv hK hP (ci := 0) (q0 := 0) rfl rfl)) rfl rfl hl.1 rfl (lv_room (Nat.le_of_ble_eq_true rfl)) dBo_attackersOf_18 ⟨Nat.le_of_ble_eq_true rfl, Nat.le_of_ble_eq_true rfl⟩) ?_
  refine lv_aload_n hx hb dBo_attackersOf_21 rfl (lv_at hl 1 rfl) ?_
  refine lv_iconst (v := 3) hx hb dBo_attackersOf_22 (by decide) ?_
  refine lv_iload_n hx hb dBo_attackersOf_23 rfl (lv_at hl 3 rfl) ?_
  refine ro_gol (va_runV (C := "ChessRules$Board") (As := [.int 3, .int side]) (rest := [.long (f_Bo_setOf oS_sets 5 side)]) ⟨hx, hb, hml, hown, hB⟩ (c_Bo_setOf l dC dI cI cJ cC ad o o_men o_sets oS_men oS_sets 3 side) ⟨callB_of 2 hB (big_self q2_112) rfl rfl rfl (hB _ q1_5) (hB _ q2_123) (by decide +kernel) ⟨Nat.le_of_ble_eq_true rfl, Nat.le_of_ble_eq_true rfl⟩, (hB _ q2_111), (hB _ qs2_1)⟩ (ro_preV (GS_ok ad) hK hP hG hS [0, 1, 2] rfl (va_recv hK hP (ci := 0) (q0 := 0) rfl rfl)) rfl rfl hl.1 rfl (lv_room (Nat.le_of_ble_eq_true rfl)) dBo_attackersOf_24 ⟨Nat.le_of_ble_eq_true rfl, Nat.le_of_ble_eq_true rfl⟩) ?_
  refine lv_lor hx hb dBo_attackersOf_27 ?_
  refine lv_lstore (lv' := [(8, .long ((f_Bo_setOf oS_sets 5 side) ||| (f_Bo_setOf oS_sets 3 side))), (6, .long ((f_Bo_setOf oS_sets 5 side) ||| (f_Bo_setOf oS_sets 4 side))), (0, .ref o), (1, .long square), (3, .int side), (4, .long empty)]) hx hb dBo_attackersOf_28 hl (by decide) rfl (fun ls hl => ?_)
  refine lv_lload_n hx hb dBo_attackersOf_30 rfl (lv_at hl 3 rfl) ?_
  refine lv_iconst (v := 1) hx hb dBo_attackersOf_31 (by decide) ?_
  refine lv_iload_n hx hb dBo_attackersOf_32 rfl (lv_at hl 4 rfl) ?_
  refine lv_isub hx hb dBo_attackersOf_33 ?_
  refine ro_gol (va_runSN (As := [.long square, .int (1 - side)]) (rest := []) ⟨hx, hb, hml, hown, hB⟩ (c_Ra_byPawn l dC dI cI cJ cC ad square (1 - side)) ⟨va_cnB 2 hB (big_self q2_139) rfl rfl rfl (hG.1 _ q2_137) (hB _ q1_14) (by decide +kernel) ⟨Nat.le_of_ble_eq_true rfl, Nat.le_of_ble_eq_true rfl⟩, (hB _ q2_138), trivial⟩ (ro_preS (GS_ok ad) hK hP hG hS [] rfl) rfl rfl hl.1 rfl (lv_room (Nat.le_of_ble_eq_true rfl)) dBo_attackersOf_34 ⟨Nat.le_of_ble_eq_true rfl, Nat.le_of_ble_eq_true rfl⟩) ?_
  refine lv_aload_n hx hb dBo_attackersOf_37 rfl (lv_at hl 2 rfl) ?_
  refine lv_iconst (v := 1) hx hb dBo_attackersOf_38 (by decide) ?_
  refine lv_iload_n hx hb dBo_attackersOf_39 rfl (lv_at hl 4 rfl) ?_
  refine ro_gol (va_runV (C := "ChessRules$Board") (As := [.int 1, .int side]) (rest := [.long (f_Ra_byPawn square (1 - side))]) ⟨hx, hb, hml, hown, hB⟩ (c_Bo_setOf l dC dI cI cJ cC ad o o_men o_sets oS_men oS_sets 1 side) ⟨callB_of 2 hB (big_self q2_112) rfl rfl rfl (hB _ q1_5) (hB _ q2_123) (by decide +kernel) ⟨Nat.le_of_ble_eq_true rfl, Nat.le_of_ble_eq_true rfl⟩, (hB _ q2_111), (hB _ qs2_1)⟩ (ro_preV (GS_ok ad) hK hP hG hS [0, 1, 2] rfl (va_recv hK hP (ci := 0) (q0 := 0) rfl rfl)) rfl rfl hl.1 rfl (lv_room (Nat.le_of_ble_eq_true rfl)) dBo_attackersOf_40 ⟨Nat.le_of_ble_eq_true rfl, Nat.le_of_ble_eq_true rfl⟩) ?_
  refine lv_land hx hb dBo_attackersOf_43 ?_
  refine lv_lload_n hx hb dBo_attackersOf_44 rfl (lv_at hl 3 rfl) ?_
  refine ro_gol (va_runSN (As := [.long square]) (rest := [.long ((f_Ra_byPawn square (1 - side)) &&& (f_Bo_setOf oS_sets 1 side))]) ⟨hx, hb, hml, hown, hB⟩ (c_Ra_byKnight l dC dI cI cJ cC ad square) ⟨va_cnB 1 hB (big_self q2_144) rfl rfl rfl (hG.1 _ q2_142) (hB _ q1_14) (by decide +kernel) ⟨Nat.le_of_ble_eq_true rfl, Nat.le_of_ble_eq_true rfl⟩, (hB _ q2_143), trivial⟩ (ro_preS (GS_ok ad) hK hP hG hS [] rfl) rfl rfl hl.1 rfl (lv_room (Nat.le_of_ble_eq_true rfl)) dBo_attackersOf_45 ⟨Nat.le_of_ble_eq_true rfl, Nat.le_of_ble_eq_true rfl⟩) ?_
  refine lv_aload_n hx hb dBo_attackersOf_48 rfl (lv_at hl 2 rfl) ?_
  refine lv_iconst (v := 2) hx hb dBo_attackersOf_49 (by decide) ?_
  refine lv_iload_n hx hb dBo_attackersOf_50 rfl (lv_at hl 4 rfl) ?_
  refine ro_gol (va_runV (C := "ChessRules$Board") (As := [.int 2, .int side]) (rest := [.long (f_Ra_byKnight square), .long ((f_Ra_byPawn square (1 - side)) &&& (f_Bo_setOf oS_sets 1 side))]) ⟨hx, hb, hml, hown, hB⟩ (c_Bo_setOf l dC dI cI cJ cC ad o o_men o_sets oS_men oS_sets 2 side) ⟨callB_of 2 hB (big_self q2_112) rfl rfl rfl (hB _ q1_5) (hB _ q2_123) (by decide +kernel) ⟨Nat.le_of_ble_eq_true rfl, Nat.le_of_ble_eq_true rfl⟩, (hB _ q2_111), (hB _ qs2_1)⟩ (ro_preV (GS_ok ad) hK hP hG hS [0, 1, 2] rfl (va_recv hK hP (ci := 0) (q0 := 0) rfl rfl)) rfl rfl hl.1 rfl (lv_room (Nat.le_of_ble_eq_true rfl)) dBo_attackersOf_51 ⟨Nat.le_of_ble_eq_true rfl, Nat.le_of_ble_eq_true rfl⟩) ?_
  refine lv_land hx hb dBo_attackersOf_54 ?_
  refine lv_lor hx hb dBo_attackersOf_55 ?_
  refine lv_lload_n hx hb dBo_attackersOf_56 rfl (lv_at hl 3 rfl) ?_
  refine ro_gol (va_runSN (As := [.long square]) (rest := [.long (((f_Ra_byPawn square (1 - side)) &&& (f_Bo_setOf oS_sets 1 side)) ||| ((f_Ra_byKnight square) &&& (f_Bo_setOf oS_sets 2 side)))]) ⟨hx, hb, hml, hown, hB⟩ (c_Ra_byKing l dC dI cI cJ cC ad square) ⟨va_cnB 1 hB (big_self q2_149) rfl rfl rfl (hG.1 _ q2_147) (hB _ q1_14) (by decide +kernel) ⟨Nat.le_of_ble_eq_true rfl, Nat.le_of_ble_eq_true rfl⟩, (hB _ q2_148), trivial⟩ (ro_preS (GS_ok ad) hK hP hG hS [] rfl) rfl rfl hl.1 rfl (lv_room (Nat.le_of_ble_eq_true rfl)) dBo_attackersOf_57 ⟨Nat.le_of_ble_eq_true rfl, Nat.le_of_ble_eq_true rfl⟩) ?_
  refine lv_aload_n hx hb dBo_attackersOf_60 rfl (lv_at hl 2 rfl) ?_
  refine lv_bipush (v := 6) hx hb dBo_attackersOf_61 (by decide) ?_
  refine lv_iload_n hx hb dBo_attackersOf_63 rfl (lv_at hl 4 rfl) ?_
  refine ro_gol (va_runV (C := "ChessRules$Board") (As := [.int 6, .int side]) (rest := [.long (f_Ra_byKing square), .long (((f_Ra_byPawn square (1 - side)) &&& (f_Bo_setOf oS_sets 1 side)) ||| ((f_Ra_byKnight square) &&& (f_Bo_setOf oS_sets 2 side)))]) ⟨hx, hb, hml, hown, hB⟩ (c_Bo_setOf l dC dI cI cJ cC ad o o_men o_sets oS_men oS_sets 6 side) ⟨callB_of 2 hB (big_self q2_112) rfl rfl rfl (hB _ q1_5) (hB _ q2_123) (by decide +kernel) ⟨Nat.le_of_ble_eq_true rfl, Nat.le_of_ble_eq_true rfl⟩, (hB _ q2_111), (hB _ qs2_1)⟩ (ro_preV (GS_ok ad) hK hP hG hS [0, 1, 2] rfl (va_recv hK hP (ci := 0) (q0 := 0) rfl rfl)) rfl rfl hl.1 rfl (lv_room (Nat.le_of_ble_eq_true rfl)) dBo_attackersOf_64 ⟨Nat.le_of_ble_eq_true rfl, Nat.le_of_ble_eq_true rfl⟩) ?_
  refine lv_land hx hb dBo_attackersOf_67 ?_
  refine lv_lor hx hb dBo_attackersOf_68 ?_
  refine lv_lstore (lv' := [(10, .long ((((f_Ra_byPawn square (1 - side)) &&& (f_Bo_setOf oS_sets 1 side)) ||| ((f_Ra_byKnight square) &&& (f_Bo_setOf oS_sets 2 side))) ||| ((f_Ra_byKing square) &&& (f_Bo_setOf oS_sets 6 side)))), (8, .long ((f_Bo_setOf oS_sets 5 side) ||| (f_Bo_setOf oS_sets 3 side))), (6, .long ((f_Bo_setOf oS_sets 5 side) ||| (f_Bo_setOf oS_sets 4 side))), (0, .ref o), (1, .long square), (3, .int side), (4, .long empty)]) hx hb dBo_attackersOf_69 hl (by decide) rfl (fun ls hl => ?_)
  refine lv_iconst (v := 0) hx hb dBo_attackersOf_71 (by decide) ?_
  refine lv_istore (lv' := [(12, .int 0), (10, .long ((((f_Ra_byPawn square (1 - side)) &&& (f_Bo_setOf oS_sets 1 side)) ||| ((f_Ra_byKnight square) &&& (f_Bo_setOf oS_sets 2 side))) ||| ((f_Ra_byKing square) &&& (f_Bo_setOf oS_sets 6 side)))), (8, .long ((f_Bo_setOf oS_sets 5 side) ||| (f_Bo_setOf oS_sets 3 side))), (6, .long ((f_Bo_setOf oS_sets 5 side) ||| (f_Bo_setOf oS_sets 4 side))), (0, .ref o), (1, .long square), (3, .int side), (4, .long empty)]) hx hb dBo_attackersOf_72 hl (by decide) rfl (fun ls hl => ?_)
  have J_74 : ∀ (n_74 : Nat) (v10_74 : Int64) (v12_74 : Int32), f_Bo_attackersOf oS_sets square side empty = f_Bo_attackersOf_74 oS_sets square side empty n_74 v10_74 v12_74 → ((0 : Int) ≤ v12_74.toInt ∧ (8 : Int32).toInt - v12_74.toInt + 1 ≤ (n_74 : Int) ∧ (1 : Int) ≤ (n_74 : Int)) → ∀ ls : Array Slot, lv_has ls 15 [(1, .long square), (4, .long empty), (6, .long ((f_Bo_setOf oS_sets 5 side) ||| (f_Bo_setOf oS_sets 4 side))), (8, .long ((f_Bo_setOf oS_sets 5 side) ||| (f_Bo_setOf oS_sets 3 side))), (10, .long v10_74), (12, .int v12_74)] → W p l e (headSpec wsBo_attackersOf { frames := 1, cells := 0, slots := 0, locals := 30 }).room s m ([.ref o, .long square, .int side, .long empty]).toArray below meth c s.heap [] 0 0 (MQ below (vp_Sl (fun r => r = f_Bo_attackersOf oS_sets square side empty)) ([.ref o, .long square, .int side, .long empty]).toArray s 0 0 (fun _ => False)) (F0 m 74 ls []) := by
    intro n_74
    induction n_74 with
    | zero => intro v10_74 v12_74 _ hm_74; exact absurd hm_74 (by omega)
    | succ n_74 ih_74 =>
      intro v10_74 v12_74 he_74 hm_74 ls hl
      refine lv_iload hx hb dBo_attackersOf_74 (lv_at hl 5 rfl) ?_
      refine lv_bipush (v := 8) hx hb dBo_attackersOf_76 (by decide) ?_
      refine lv_icmp_ge (tgt := 118) hx hb dBo_attackersOf_78 (by decide) (fun c_1 => ?_) (fun c_1 => ?_)
      · refine lv_lload hx hb dBo_attackersOf_118 (lv_at hl 4 rfl) ?_
        exact ro_retl hx hb hr hlocks dBo_attackersOf_120 (Eq.symm (he_74.trans (by rw [f_Bo_attackersOf_74_eq, if_pos c_1] <;> rfl)))
      · refine lv_iload hx hb dBo_attackersOf_81 (lv_at hl 5 rfl) ?_
        refine lv_iconst (v := 4) hx hb dBo_attackersOf_83 (by decide) ?_
        have J_94 : ∀ (k0_94 : Int64), f_Bo_attackersOf oS_sets square side empty = f_Bo_attackersOf_94 (f_Bo_attackersOf_74 oS_sets square side empty n_74) oS_sets square side empty v10_74 v12_74 k0_94 → ∀ ls : Array Slot, lv_has ls 15 [(1, .long square), (4, .long empty), (6, .long ((f_Bo_setOf oS_sets 5 side) ||| (f_Bo_setOf oS_sets 4 side))), (8, .long ((f_Bo_setOf oS_sets 5 side) ||| (f_Bo_setOf oS_sets 3 side))), (10, .long v10_74), (12, .int v12_74)] → W p l e (headSpec wsBo_attackersOf { frames := 1, cells := 0, slots := 0, locals := 30 }).room s m ([.ref o, .long square, .int side, .long empty]).toArray below meth c s.heap [] 0 0 (MQ below (vp_Sl (fun r => r = f_Bo_attackersOf oS_sets square side empty)) ([.ref o, .long square, .int side, .long empty]).toArray s 0 0 (fun _ => False)) (F0 m 94 ls [.long k0_94]) := by
          intro k0_94 he_94 ls hl
          refine lv_lstore (lv' := [(13, .long k0_94), (1, .long square), (4, .long empty), (6, .long ((f_Bo_setOf oS_sets 5 side) ||| (f_Bo_setOf oS_sets 4 side))), (8, .long ((f_Bo_setOf oS_sets 5 side) ||| (f_Bo_setOf oS_sets 3 side))), (10, .long v10_74), (12, .int v12_74)]) hx hb dBo_attackersOf_94 hl (by decide) rfl (fun ls hl => ?_)
          refine lv_lload hx hb dBo_attackersOf_96 (lv_at hl 5 rfl) ?_
          refine lv_iload hx hb dBo_attackersOf_98 (lv_at hl 6 rfl) ?_
          refine lv_lload_n hx hb dBo_attackersOf_100 rfl (lv_at hl 1 rfl) ?_
          refine lv_lload hx hb dBo_attackersOf_101 (lv_at hl 2 rfl) ?_
          refine ro_gol (va_runSN (As := [.int v12_74, .long square, .long empty]) (rest := [.long v10_74]) ⟨hx, hb, hml, hown, hB⟩ (c_Ra_along l dC dI cI cJ cC ad v12_74 square empty) ⟨va_cnB 3 hB (big_self q2_153) rfl rfl rfl (hG.1 _ q2_151) (hB _ q1_14) (by decide +kernel) ⟨Nat.le_of_ble_eq_true rfl, Nat.le_of_ble_eq_true rfl⟩, (hB _ q2_152), trivial⟩ (ro_preS (GS_ok ad) hK hP hG hS [] rfl) rfl rfl hl.1 rfl (lv_room (Nat.le_of_ble_eq_true rfl)) dBo_attackersOf_103 ⟨Nat.le_of_ble_eq_true rfl, Nat.le_of_ble_eq_true rfl⟩) ?_
          refine lv_lload hx hb dBo_attackersOf_106 (lv_at hl 0 rfl) ?_
          refine lv_land hx hb dBo_attackersOf_108 ?_
          refine lv_lor hx hb dBo_attackersOf_109 ?_
          refine lv_lstore (lv' := [(10, .long (v10_74 ||| ((f_Ra_along v12_74 square empty) &&& k0_94))), (13, .long k0_94), (1, .long square), (4, .long empty), (6, .long ((f_Bo_setOf oS_sets 5 side) ||| (f_Bo_setOf oS_sets 4 side))), (8, .long ((f_Bo_setOf oS_sets 5 side) ||| (f_Bo_setOf oS_sets 3 side))), (12, .int v12_74)]) hx hb dBo_attackersOf_110 hl (by decide) rfl (fun ls hl => ?_)
          refine lv_iinc (v := v12_74 + 1) (lv' := [(12, .int (v12_74 + 1)), (10, .long (v10_74 ||| ((f_Ra_along v12_74 square empty) &&& k0_94))), (13, .long k0_94), (1, .long square), (4, .long empty), (6, .long ((f_Bo_setOf oS_sets 5 side) ||| (f_Bo_setOf oS_sets 4 side))), (8, .long ((f_Bo_setOf oS_sets 5 side) ||| (f_Bo_setOf oS_sets 3 side)))]) hx hb dBo_attackersOf_112 hl (k := 6) rfl rfl (by decide) rfl (fun ls hl => ?_)
          refine lv_goto (tgt := 74) hx hb dBo_attackersOf_115 (by decide) ?_
          exact ih_74 (v10_74 ||| ((f_Ra_along v12_74 square empty) &&& k0_94)) (v12_74 + 1) (he_94.trans (by rw [f_Bo_attackersOf_94_eq] <;> rfl)) (by have z1 := tnle c_1; have y8 : (8 : Int32).toInt = 8 := rfl; have zr := i_rng (8 : Int32); have zs := i_succ9 v12_74 (by omega); omega) ls (lv_sub hl [3, 4, 5, 6, 1, 0] rfl)
        refine lv_icmp_ge (tgt := 92) hx hb dBo_attackersOf_84 (by decide) (fun c_2 => ?_) (fun c_2 => ?_)
        · refine lv_lload hx hb dBo_attackersOf_92 (lv_at hl 3 rfl) ?_
          exact J_94 ((f_Bo_setOf oS_sets 5 side) ||| (f_Bo_setOf oS_sets 3 side)) (he_74.trans (by rw [f_Bo_attackersOf_74_eq, if_neg c_1, if_pos c_2] <;> rfl)) ls (lv_sub hl [0, 1, 2, 3, 4, 5] rfl)
        · refine lv_lload hx hb dBo_attackersOf_87 (lv_at hl 2 rfl) ?_
          refine lv_goto (tgt := 94) hx hb dBo_attackersOf_89 (by decide) ?_
          exact J_94 ((f_Bo_setOf oS_sets 5 side) ||| (f_Bo_setOf oS_sets 4 side)) (he_74.trans (by rw [f_Bo_attackersOf_74_eq, if_neg c_1, if_neg c_2] <;> rfl)) ls (lv_sub hl [0, 1, 2, 3, 4, 5] rfl)
  exact J_74 (9) ((((f_Ra_byPawn square (1 - side)) &&& (f_Bo_setOf oS_sets 1 side)) ||| ((f_Ra_byKnight square) &&& (f_Bo_setOf oS_sets 2 side))) ||| ((f_Ra_byKing square) &&& (f_Bo_setOf oS_sets 6 side))) 0 (by rw [f_Bo_attackersOf_eq] <;> rfl) (by decide) ls (lv_sub hl [5, 7, 3, 2, 1, 0] rfl)

abbrev cBo_isInCheck : ByteArray := prog_2_method_10_code
def yBo_isInCheck : MethodName := ⟨"ChessRules$Board", "isInCheck", "(I)Z"⟩
def wsBo_isInCheck : List Cond := Cond.code yBo_isInCheck cBo_isInCheck 2 (some .boolean) :: BIG
theorem dBo_isInCheck_0 : decode cBo_isInCheck 0 = .ok (.aload_n 0, 1) := by decide +kernel
theorem dBo_isInCheck_1 : decode cBo_isInCheck 1 = .ok (.aload_n 0, 1) := by decide +kernel
theorem dBo_isInCheck_2 : decode cBo_isInCheck 2 = .ok (.bipush 6, 2) := by decide +kernel
theorem dBo_isInCheck_4 : decode cBo_isInCheck 4 = .ok (.iload_n 1, 1) := by decide +kernel
theorem dBo_isInCheck_5 : decode cBo_isInCheck 5 = .ok (.invokevirtual 29, 3) := by decide +kernel
theorem dBo_isInCheck_8 : decode cBo_isInCheck 8 = .ok (.iconst 1, 1) := by decide +kernel
theorem dBo_isInCheck_9 : decode cBo_isInCheck 9 = .ok (.iload_n 1, 1) := by decide +kernel
theorem dBo_isInCheck_10 : decode cBo_isInCheck 10 = .ok (.isub, 1) := by decide +kernel
theorem dBo_isInCheck_11 : decode cBo_isInCheck 11 = .ok (.aload_n 0, 1) := by decide +kernel
theorem dBo_isInCheck_12 : decode cBo_isInCheck 12 = .ok (.invokevirtual 50, 3) := by decide +kernel
theorem dBo_isInCheck_15 : decode cBo_isInCheck 15 = .ok (.invokevirtual 54, 3) := by decide +kernel
theorem dBo_isInCheck_18 : decode cBo_isInCheck 18 = .ok (.lconst 0, 1) := by decide +kernel
theorem dBo_isInCheck_19 : decode cBo_isInCheck 19 = .ok (.lcmp, 1) := by decide +kernel
theorem dBo_isInCheck_20 : decode cBo_isInCheck 20 = .ok (.ifCond .eq 7, 3) := by decide +kernel
theorem dBo_isInCheck_23 : decode cBo_isInCheck 23 = .ok (.iconst 1, 1) := by decide +kernel
theorem dBo_isInCheck_24 : decode cBo_isInCheck 24 = .ok (.goto 4, 3) := by decide +kernel
theorem dBo_isInCheck_27 : decode cBo_isInCheck 27 = .ok (.iconst 0, 1) := by decide +kernel
theorem dBo_isInCheck_28 : decode cBo_isInCheck 28 = .ok (.ireturn, 1) := by decide +kernel

def f_Bo_isInCheck (oS_sets : Nat → Int64) (side : Int32) : Int32 :=
  (if (f_Bo_attackersOf oS_sets (f_Bo_setOf oS_sets 6 side) (1 - side) (f_Bo_empty oS_sets)) = 0 then 0 else 1)
theorem f_Bo_isInCheck_eq (oS_sets : Nat → Int64) (side : Int32) : f_Bo_isInCheck oS_sets side =
  (if (f_Bo_attackersOf oS_sets (f_Bo_setOf oS_sets 6 side) (1 - side) (f_Bo_empty oS_sets)) = 0 then 0 else 1) := rfl

set_option maxHeartbeats 4000000 in
set_option maxRecDepth 100000 in
theorem c_Bo_isInCheck (l : Launch) (dC : Nat → ClassId) (dI : Nat → Nat → Nat) (cI cJ cC : ClassId) (ad : Nat → Nat) (o o_men o_sets : Nat) (oS_men : Nat → Int32) (oS_sets : Nat → Int64) (side : Int32) : Met l yBo_isInCheck wsBo_isInCheck { frames := 2, cells := 0, slots := 0, locals := 64 } (roP dC dI (TYS cI cJ cC) [.ref o, .int side] [(o, .inr (0, [.ref o_men, .ref o_sets])), (o_men, .inl (cI, 64, .inl oS_men)), (o_sets, .inl (cJ, 16, .inr (.inl oS_sets)))] (GS ad)) (vp_Si (fun r => r = f_Bo_isInCheck oS_sets side)) 0 0 (fun _ => False) := by
  refine Met.ofW (cc := cBo_isInCheck) (maxL := 2) (ret := (some .boolean)) (by decide) rfl ?_
  intro p e s m args below meth c s₁ B hml hv
  obtain ⟨rfl, hP, hK, hG⟩ := hv
  have hx := B.exec
  have hb := B.bytes
  have hr := B.returns
  have hB : ∀ w9 ∈ BIG, w9.before ([.ref o, .int side]).toArray s = true := fun w9 h => atoms_spec (ws := wsBo_isInCheck) B.pre w9 (List.mem_cons_of_mem _ h)
  have hown : s.vm.findClass "ChessRules$Board" = some m.cls := findClass_of_methodNamed B.named
  have hlocks := B.notSynchronized
  have hS : va_S (fun _ => False) s.heap s.heap [] := va_S.rf
  have hP : va_P (dC, dI) vwCl [(o, .inr (0, [.ref o_men, .ref o_sets])), (o_men, .inl (cI, 64, .inl oS_men)), (o_sets, .inl (cJ, 16, .inr (.inl oS_sets)))] s.heap := hP
  have hl := lv_entry ([.ref o, .int side]) (n := 2) (Nat.le_of_ble_eq_true rfl)
  rw [lg_entry_eq]
  generalize (lg_sl ([.ref o, .int side]) ++ List.replicate (2 - (lg_sl ([.ref o, .int side])).length) Slot.unset).toArray = ls at hl ⊢
  have hl : lv_has ls 2 [(0, .ref o), (1, .int side)] := hl
  refine lv_aload_n hx hb dBo_isInCheck_0 rfl (lv_at hl 0 rfl) ?_
  refine lv_aload_n hx hb dBo_isInCheck_1 rfl (lv_at hl 0 rfl) ?_
  refine lv_bipush (v := 6) hx hb dBo_isInCheck_2 (by decide) ?_
  refine lv_iload_n hx hb dBo_isInCheck_4 rfl (lv_at hl 1 rfl) ?_
  refine ro_gol (va_runV (C := "ChessRules$Board") (As := [.int 6, .int side]) (rest := [.ref o]) ⟨hx, hb, hml, hown, hB⟩ (c_Bo_setOf l dC dI cI cJ cC ad o o_men o_sets oS_men oS_sets 6 side) ⟨callB_of 2 hB (big_self q2_112) rfl rfl rfl (hB _ q1_5) (hB _ q2_123) (by decide +kernel) ⟨Nat.le_of_ble_eq_true rfl, Nat.le_of_ble_eq_true rfl⟩, (hB _ q2_111), (hB _ qs2_1)⟩ (ro_preV (GS_ok ad) hK hP hG hS [0, 1, 2] rfl (va_recv hK hP (ci := 0) (q0 := 0) rfl rfl)) rfl rfl hl.1 rfl (lv_room (Nat.le_of_ble_eq_true rfl)) dBo_isInCheck_5 ⟨Nat.le_of_ble_eq_true rfl, Nat.le_of_ble_eq_true rfl⟩) ?_
  refine lv_iconst (v := 1) hx hb dBo_isInCheck_8 (by decide) ?_
  refine lv_iload_n hx hb dBo_isInCheck_9 rfl (lv_at hl 1 rfl) ?_
  refine lv_isub hx hb dBo_isInCheck_10 ?_
  refine lv_aload_n hx hb dBo_isInCheck_11 rfl (lv_at hl 0 rfl) ?_
  refine ro_gol (va_runV (C := "ChessRules$Board") (As := []) (rest := [.int (1 - side), .long (f_Bo_setOf oS_sets 6 side), .ref o]) ⟨hx, hb, hml, hown, hB⟩ (c_Bo_empty l dC dI cI cJ cC ad o o_men o_sets oS_men oS_sets) ⟨callB_of 0 hB (big_self q2_132) rfl rfl rfl (hB _ q1_5) (hB _ q2_129) (by decide +kernel) ⟨Nat.le_of_ble_eq_true rfl, Nat.le_of_ble_eq_true rfl⟩, (hB _ q2_131), (hB _ qs2_4)⟩ (ro_preV (GS_ok ad) hK hP hG hS [0, 1, 2] rfl (va_recv hK hP (ci := 0) (q0 := 0) rfl rfl)) rfl rfl hl.1 rfl (lv_room (Nat.le_of_ble_eq_true rfl)) dBo_isInCheck_12 ⟨Nat.le_of_ble_eq_true rfl, Nat.le_of_ble_eq_true rfl⟩) ?_
  refine ro_gol (va_runV (C := "ChessRules$Board") (As := [.long (f_Bo_setOf oS_sets 6 side), .int (1 - side), .long (f_Bo_empty oS_sets)]) (rest := []) ⟨hx, hb, hml, hown, hB⟩ (c_Bo_attackersOf l dC dI cI cJ cC ad o o_men o_sets oS_men oS_sets (f_Bo_setOf oS_sets 6 side) (1 - side) (f_Bo_empty oS_sets)) ⟨callB_of 3 hB (big_self q2_136) rfl rfl rfl (hB _ q1_5) (hB _ q2_133) (by decide +kernel) ⟨Nat.le_of_ble_eq_true rfl, Nat.le_of_ble_eq_true rfl⟩, (hB _ q2_135), (hB _ qs2_5)⟩ (ro_preV (GS_ok ad) hK hP hG hS [0, 1, 2] rfl (va_recv hK hP (ci := 0) (q0 := 0) rfl rfl)) rfl rfl hl.1 rfl (lv_room (Nat.le_of_ble_eq_true rfl)) dBo_isInCheck_15 ⟨Nat.le_of_ble_eq_true rfl, Nat.le_of_ble_eq_true rfl⟩) ?_
  refine lv_lconst (v := 0) hx hb dBo_isInCheck_18 (by decide) ?_
  refine W.lcmp hx hb dBo_isInCheck_19 ?_
  refine lv_if_eq (tgt := 27) hx hb dBo_isInCheck_20 (by decide) (fun q => let_c (h := (f_Bo_attackersOf oS_sets (f_Bo_setOf oS_sets 6 side) (1 - side) (f_Bo_empty oS_sets)) = 0) (lgc_eq.1 q) (fun c_1 => ?_)) (fun q => let_c (h := ¬ (f_Bo_attackersOf oS_sets (f_Bo_setOf oS_sets 6 side) (1 - side) (f_Bo_empty oS_sets)) = 0) (lgc_eq.2 q) (fun c_1 => ?_))
  · refine lv_iconst (v := 0) hx hb dBo_isInCheck_27 (by decide) ?_
    exact ro_retz hx hb hr rfl hlocks dBo_isInCheck_28 (Eq.symm (by rw [f_Bo_isInCheck_eq, if_pos c_1] <;> rfl))
  · refine lv_iconst (v := 1) hx hb dBo_isInCheck_23 (by decide) ?_
    refine lv_goto (tgt := 28) hx hb dBo_isInCheck_24 (by decide) ?_
    exact ro_retz hx hb hr rfl hlocks dBo_isInCheck_28 (Eq.symm (by rw [f_Bo_isInCheck_eq, if_neg c_1] <;> rfl))

abbrev cBo_shieldsOf : ByteArray := prog_2_method_11_code
def yBo_shieldsOf : MethodName := ⟨"ChessRules$Board", "shieldsOf", "(I)J"⟩
def wsBo_shieldsOf : List Cond := Cond.code yBo_shieldsOf cBo_shieldsOf 14 (some .long) :: BIG
theorem dBo_shieldsOf_0 : decode cBo_shieldsOf 0 = .ok (.aload_n 0, 1) := by decide +kernel
theorem dBo_shieldsOf_1 : decode cBo_shieldsOf 1 = .ok (.bipush 6, 2) := by decide +kernel
theorem dBo_shieldsOf_3 : decode cBo_shieldsOf 3 = .ok (.iload_n 1, 1) := by decide +kernel
theorem dBo_shieldsOf_4 : decode cBo_shieldsOf 4 = .ok (.invokevirtual 29, 3) := by decide +kernel
theorem dBo_shieldsOf_7 : decode cBo_shieldsOf 7 = .ok (.lstore_n 2, 1) := by decide +kernel
theorem dBo_shieldsOf_8 : decode cBo_shieldsOf 8 = .ok (.aload_n 0, 1) := by decide +kernel
theorem dBo_shieldsOf_9 : decode cBo_shieldsOf 9 = .ok (.iload_n 1, 1) := by decide +kernel
theorem dBo_shieldsOf_10 : decode cBo_shieldsOf 10 = .ok (.invokevirtual 58, 3) := by decide +kernel
theorem dBo_shieldsOf_13 : decode cBo_shieldsOf 13 = .ok (.lstore 4, 2) := by decide +kernel
theorem dBo_shieldsOf_15 : decode cBo_shieldsOf 15 = .ok (.lconst 0, 1) := by decide +kernel
theorem dBo_shieldsOf_16 : decode cBo_shieldsOf 16 = .ok (.lstore 6, 2) := by decide +kernel
theorem dBo_shieldsOf_18 : decode cBo_shieldsOf 18 = .ok (.iconst 0, 1) := by decide +kernel
theorem dBo_shieldsOf_19 : decode cBo_shieldsOf 19 = .ok (.istore 8, 2) := by decide +kernel
theorem dBo_shieldsOf_21 : decode cBo_shieldsOf 21 = .ok (.iload 8, 2) := by decide +kernel
theorem dBo_shieldsOf_23 : decode cBo_shieldsOf 23 = .ok (.bipush 8, 2) := by decide +kernel
theorem dBo_shieldsOf_25 : decode cBo_shieldsOf 25 = .ok (.if_icmp .ge 83, 3) := by decide +kernel
theorem dBo_shieldsOf_28 : decode cBo_shieldsOf 28 = .ok (.iload 8, 2) := by decide +kernel
theorem dBo_shieldsOf_30 : decode cBo_shieldsOf 30 = .ok (.iconst 4, 1) := by decide +kernel
theorem dBo_shieldsOf_31 : decode cBo_shieldsOf 31 = .ok (.if_icmp .ge 7, 3) := by decide +kernel
theorem dBo_shieldsOf_34 : decode cBo_shieldsOf 34 = .ok (.iconst 4, 1) := by decide +kernel
theorem dBo_shieldsOf_35 : decode cBo_shieldsOf 35 = .ok (.goto 4, 3) := by decide +kernel
theorem dBo_shieldsOf_38 : decode cBo_shieldsOf 38 = .ok (.iconst 3, 1) := by decide +kernel
theorem dBo_shieldsOf_39 : decode cBo_shieldsOf 39 = .ok (.istore 9, 2) := by decide +kernel
theorem dBo_shieldsOf_41 : decode cBo_shieldsOf 41 = .ok (.aload_n 0, 1) := by decide +kernel
theorem dBo_shieldsOf_42 : decode cBo_shieldsOf 42 = .ok (.iconst 5, 1) := by decide +kernel
theorem dBo_shieldsOf_43 : decode cBo_shieldsOf 43 = .ok (.iconst 1, 1) := by decide +kernel
theorem dBo_shieldsOf_44 : decode cBo_shieldsOf 44 = .ok (.iload_n 1, 1) := by decide +kernel
theorem dBo_shieldsOf_45 : decode cBo_shieldsOf 45 = .ok (.isub, 1) := by decide +kernel
theorem dBo_shieldsOf_46 : decode cBo_shieldsOf 46 = .ok (.invokevirtual 29, 3) := by decide +kernel
theorem dBo_shieldsOf_49 : decode cBo_shieldsOf 49 = .ok (.aload_n 0, 1) := by decide +kernel
theorem dBo_shieldsOf_50 : decode cBo_shieldsOf 50 = .ok (.iload 9, 2) := by decide +kernel
theorem dBo_shieldsOf_52 : decode cBo_shieldsOf 52 = .ok (.iconst 1, 1) := by decide +kernel
theorem dBo_shieldsOf_53 : decode cBo_shieldsOf 53 = .ok (.iload_n 1, 1) := by decide +kernel
theorem dBo_shieldsOf_54 : decode cBo_shieldsOf 54 = .ok (.isub, 1) := by decide +kernel
theorem dBo_shieldsOf_55 : decode cBo_shieldsOf 55 = .ok (.invokevirtual 29, 3) := by decide +kernel
theorem dBo_shieldsOf_58 : decode cBo_shieldsOf 58 = .ok (.lor, 1) := by decide +kernel
theorem dBo_shieldsOf_59 : decode cBo_shieldsOf 59 = .ok (.lstore 10, 2) := by decide +kernel
theorem dBo_shieldsOf_61 : decode cBo_shieldsOf 61 = .ok (.iload 8, 2) := by decide +kernel
theorem dBo_shieldsOf_63 : decode cBo_shieldsOf 63 = .ok (.lload_n 2, 1) := by decide +kernel
theorem dBo_shieldsOf_64 : decode cBo_shieldsOf 64 = .ok (.aload_n 0, 1) := by decide +kernel
theorem dBo_shieldsOf_65 : decode cBo_shieldsOf 65 = .ok (.invokevirtual 50, 3) := by decide +kernel
theorem dBo_shieldsOf_68 : decode cBo_shieldsOf 68 = .ok (.invokestatic 46, 3) := by decide +kernel
theorem dBo_shieldsOf_71 : decode cBo_shieldsOf 71 = .ok (.lload 4, 2) := by decide +kernel
theorem dBo_shieldsOf_73 : decode cBo_shieldsOf 73 = .ok (.land, 1) := by decide +kernel
theorem dBo_shieldsOf_74 : decode cBo_shieldsOf 74 = .ok (.lstore 12, 2) := by decide +kernel
theorem dBo_shieldsOf_76 : decode cBo_shieldsOf 76 = .ok (.iload 8, 2) := by decide +kernel
theorem dBo_shieldsOf_78 : decode cBo_shieldsOf 78 = .ok (.lload 12, 2) := by decide +kernel
theorem dBo_shieldsOf_80 : decode cBo_shieldsOf 80 = .ok (.aload_n 0, 1) := by decide +kernel
theorem dBo_shieldsOf_81 : decode cBo_shieldsOf 81 = .ok (.invokevirtual 50, 3) := by decide +kernel
theorem dBo_shieldsOf_84 : decode cBo_shieldsOf 84 = .ok (.invokestatic 46, 3) := by decide +kernel
theorem dBo_shieldsOf_87 : decode cBo_shieldsOf 87 = .ok (.lload 10, 2) := by decide +kernel
theorem dBo_shieldsOf_89 : decode cBo_shieldsOf 89 = .ok (.land, 1) := by decide +kernel
theorem dBo_shieldsOf_90 : decode cBo_shieldsOf 90 = .ok (.lconst 0, 1) := by decide +kernel
theorem dBo_shieldsOf_91 : decode cBo_shieldsOf 91 = .ok (.lcmp, 1) := by decide +kernel
theorem dBo_shieldsOf_92 : decode cBo_shieldsOf 92 = .ok (.ifCond .eq 10, 3) := by decide +kernel
theorem dBo_shieldsOf_95 : decode cBo_shieldsOf 95 = .ok (.lload 6, 2) := by decide +kernel
theorem dBo_shieldsOf_97 : decode cBo_shieldsOf 97 = .ok (.lload 12, 2) := by decide +kernel
theorem dBo_shieldsOf_99 : decode cBo_shieldsOf 99 = .ok (.lor, 1) := by decide +kernel
theorem dBo_shieldsOf_100 : decode cBo_shieldsOf 100 = .ok (.lstore 6, 2) := by decide +kernel
theorem dBo_shieldsOf_102 : decode cBo_shieldsOf 102 = .ok (.iinc 8 1, 3) := by decide +kernel
theorem dBo_shieldsOf_105 : decode cBo_shieldsOf 105 = .ok (.goto (-84), 3) := by decide +kernel
theorem dBo_shieldsOf_108 : decode cBo_shieldsOf 108 = .ok (.lload 6, 2) := by decide +kernel
theorem dBo_shieldsOf_110 : decode cBo_shieldsOf 110 = .ok (.lreturn, 1) := by decide +kernel

def f_Bo_shieldsOf_39 (r_21 : Int64 → Int32 → Int64) (oS_sets : Nat → Int64) (side : Int32) (v6_21 : Int64) (v8_21 : Int32) (k0_39 : Int32) : Int64 :=
  (if ((f_Ra_along v8_21 ((f_Ra_along v8_21 (f_Bo_setOf oS_sets 6 side) (f_Bo_empty oS_sets)) &&& (f_Bo_allOf oS_sets side)) (f_Bo_empty oS_sets)) &&& ((f_Bo_setOf oS_sets 5 (1 - side)) ||| (f_Bo_setOf oS_sets k0_39 (1 - side)))) = 0 then r_21 v6_21 (v8_21 + 1) else r_21 (v6_21 ||| ((f_Ra_along v8_21 (f_Bo_setOf oS_sets 6 side) (f_Bo_empty oS_sets)) &&& (f_Bo_allOf oS_sets side))) (v8_21 + 1))
theorem f_Bo_shieldsOf_39_eq (r_21 : Int64 → Int32 → Int64) (oS_sets : Nat → Int64) (side : Int32) (v6_21 : Int64) (v8_21 : Int32) (k0_39 : Int32) : f_Bo_shieldsOf_39 r_21 oS_sets side v6_21 v8_21 k0_39 =
  (if ((f_Ra_along v8_21 ((f_Ra_along v8_21 (f_Bo_setOf oS_sets 6 side) (f_Bo_empty oS_sets)) &&& (f_Bo_allOf oS_sets side)) (f_Bo_empty oS_sets)) &&& ((f_Bo_setOf oS_sets 5 (1 - side)) ||| (f_Bo_setOf oS_sets k0_39 (1 - side)))) = 0 then r_21 v6_21 (v8_21 + 1) else r_21 (v6_21 ||| ((f_Ra_along v8_21 (f_Bo_setOf oS_sets 6 side) (f_Bo_empty oS_sets)) &&& (f_Bo_allOf oS_sets side))) (v8_21 + 1)) := rfl

def f_Bo_shieldsOf_21 (oS_sets : Nat → Int64) (side : Int32) : Nat → Int64 → Int32 → Int64
  | 0 => fun _ _ => 0
  | n_21 + 1 => fun v6_21 v8_21 => (if 8 ≤ v8_21 then v6_21 else (if 4 ≤ v8_21 then f_Bo_shieldsOf_39 (f_Bo_shieldsOf_21 oS_sets side n_21) oS_sets side v6_21 v8_21 3 else f_Bo_shieldsOf_39 (f_Bo_shieldsOf_21 oS_sets side n_21) oS_sets side v6_21 v8_21 4))
theorem f_Bo_shieldsOf_21_eq (oS_sets : Nat → Int64) (side : Int32) (n_21 : Nat) (v6_21 : Int64) (v8_21 : Int32) : f_Bo_shieldsOf_21 oS_sets side (n_21 + 1) v6_21 v8_21 =
  (if 8 ≤ v8_21 then v6_21 else (if 4 ≤ v8_21 then f_Bo_shieldsOf_39 (f_Bo_shieldsOf_21 oS_sets side n_21) oS_sets side v6_21 v8_21 3 else f_Bo_shieldsOf_39 (f_Bo_shieldsOf_21 oS_sets side n_21) oS_sets side v6_21 v8_21 4)) := rfl

def f_Bo_shieldsOf (oS_sets : Nat → Int64) (side : Int32) : Int64 :=
  f_Bo_shieldsOf_21 oS_sets side (9) 0 0
theorem f_Bo_shieldsOf_eq (oS_sets : Nat → Int64) (side : Int32) : f_Bo_shieldsOf oS_sets side =
  f_Bo_shieldsOf_21 oS_sets side (9) 0 0 := rfl

set_option maxHeartbeats 4000000 in
set_option maxRecDepth 100000 in
theorem c_Bo_shieldsOf (l : Launch) (dC : Nat → ClassId) (dI : Nat → Nat → Nat) (cI cJ cC : ClassId) (ad : Nat → Nat) (o o_men o_sets : Nat) (oS_men : Nat → Int32) (oS_sets : Nat → Int64) (side : Int32) : Met l yBo_shieldsOf wsBo_shieldsOf { frames := 1, cells := 0, slots := 0, locals := 30 } (roP dC dI (TYS cI cJ cC) [.ref o, .int side] [(o, .inr (0, [.ref o_men, .ref o_sets])), (o_men, .inl (cI, 64, .inl oS_men)), (o_sets, .inl (cJ, 16, .inr (.inl oS_sets)))] (GS ad)) (vp_Sl (fun r => r = f_Bo_shieldsOf oS_sets side)) 0 0 (fun _ => False) := by
  refine Met.ofW (cc := cBo_shieldsOf) (maxL := 14) (ret := (some .long)) (by decide) rfl ?_
  intro p e s m args below meth c s₁ B hml hv
  obtain ⟨rfl, hP, hK, hG⟩ := hv
  have hx := B.exec
  have hb := B.bytes
  have hr := B.returns
  have hB : ∀ w9 ∈ BIG, w9.before ([.ref o, .int side]).toArray s = true := fun w9 h => atoms_spec (ws := wsBo_shieldsOf) B.pre w9 (List.mem_cons_of_mem _ h)
  have hown : s.vm.findClass "ChessRules$Board" = some m.cls := findClass_of_methodNamed B.named
  have hlocks := B.notSynchronized
  have hS : va_S (fun _ => False) s.heap s.heap [] := va_S.rf
  have hP : va_P (dC, dI) vwCl [(o, .inr (0, [.ref o_men, .ref o_sets])), (o_men, .inl (cI, 64, .inl oS_men)), (o_sets, .inl (cJ, 16, .inr (.inl oS_sets)))] s.heap := hP
  have hl := lv_entry ([.ref o, .int side]) (n := 14) (Nat.le_of_ble_eq_true rfl)
  rw [lg_entry_eq]
  generalize (lg_sl ([.ref o, .int side]) ++ List.replicate (14 - (lg_sl ([.ref o, .int side])).length) Slot.unset).toArray = ls at hl ⊢
  have hl : lv_has ls 14 [(0, .ref o), (1, .int side)] := hl
  refine lv_aload_n hx hb dBo_shieldsOf_0 rfl (lv_at hl 0 rfl) ?_
  refine lv_bipush (v := 6) hx hb dBo_shieldsOf_1 (by decide) ?_
  refine lv_iload_n hx hb dBo_shieldsOf_3 rfl (lv_at hl 1 rfl) ?_
  refine ro_gol (va_runV (C := "ChessRules$Board") (As := [.int 6, .int side]) (rest := []) ⟨hx, hb, hml, hown, hB⟩ (c_Bo_setOf l dC dI cI cJ cC ad o o_men o_sets oS_men oS_sets 6 side) ⟨callB_of 2 hB (big_self q2_112) rfl rfl rfl (hB _ q1_5) (hB _ q2_123) (by decide +kernel) ⟨Nat.le_of_ble_eq_true rfl, Nat.le_of_ble_eq_true rfl⟩, (hB _ q2_111), (hB _ qs2_1)⟩ (ro_preV (GS_ok ad) hK hP hG hS [0, 1, 2] rfl (va_recv hK hP (ci := 0) (q0 := 0) rfl rfl)) rfl rfl hl.1 rfl (lv_room (Nat.le_of_ble_eq_true rfl)) dBo_shieldsOf_4 ⟨Nat.le_of_ble_eq_true rfl, Nat.le_of_ble_eq_true rfl⟩) ?_
  refine lv_lstore_n (lv' := [(2, .long (f_Bo_setOf oS_sets 6 side)), (0, .ref o), (1, .int side)]) hx hb dBo_shieldsOf_7 rfl hl (by decide) rfl (fun ls hl => ?_)
  refine lv_aload_n hx hb dBo_shieldsOf_8 rfl (lv_at hl 1 rfl) ?_
  refine lv_iload_n hx hb dBo_shieldsOf_9 rfl (lv_at hl 2 rfl) ?_
  refine ro_gol (va_runV (C := "ChessRules$Board") (As := [.int side]) (rest := []) ⟨hx, hb, hml, hown, hB⟩ (c_Bo_allOf l dC dI cI cJ cC ad o o_men o_sets oS_men oS_sets side) ⟨callB_of 1 hB (big_self q3_83) rfl rfl rfl (hB _ q1_5) (hB _ q3_88) (by decide +kernel) ⟨Nat.le_of_ble_eq_true rfl, Nat.le_of_ble_eq_true rfl⟩, (hB _ q3_82), (hB _ qs3_7)⟩ (ro_preV (GS_ok ad) hK hP hG hS [0, 1, 2] rfl (va_recv hK hP (ci := 0) (q0 := 0) rfl rfl)) rfl rfl hl.1 rfl (lv_room (Nat.le_of_ble_eq_true rfl)) dBo_shieldsOf_10 ⟨Nat.le_of_ble_eq_true rfl, Nat.le_of_ble_eq_true rfl⟩) ?_
  refine lv_lstore (lv' := [(4, .long (f_Bo_allOf oS_sets side)), (2, .long (f_Bo_setOf oS_sets 6 side)), (0, .ref o), (1, .int side)]) hx hb dBo_shieldsOf_13 hl (by decide) rfl (fun ls hl => ?_)
  refine lv_lconst (v := 0) hx hb dBo_shieldsOf_15 (by decide) ?_
  refine lv_lstore (lv' := [(6, .long 0), (4, .long (f_Bo_allOf oS_sets side)), (2, .long (f_Bo_setOf oS_sets 6 side)), (0, .ref o), (1, .int side)]) hx hb dBo_shieldsOf_16 hl (by decide) rfl (fun ls hl => ?_)
  refine lv_iconst (v := 0) hx hb dBo_shieldsOf_18 (by decide) ?_
  refine lv_istore (lv' := [(8, .int 0), (6, .long 0), (4, .long (f_Bo_allOf oS_sets side)), (2, .long (f_Bo_setOf oS_sets 6 side)), (0, .ref o), (1, .int side)]) hx hb dBo_shieldsOf_19 hl (by decide) rfl (fun ls hl => ?_)
  have J_21 : ∀ (n_21 : Nat) (v6_21 : Int64) (v8_21 : Int32), f_Bo_shieldsOf oS_sets side = f_Bo_shieldsOf_21 oS_sets side n_21 v6_21 v8_21 → ((0 : Int) ≤ v8_21.toInt ∧ (8 : Int32).toInt - v8_21.toInt + 1 ≤ (n_21 : Int) ∧ (1 : Int) ≤ (n_21 : Int)) → ∀ ls : Array Slot, lv_has ls 14 [(0, .ref o), (1, .int side), (2, .long (f_Bo_setOf oS_sets 6 side)), (4, .long (f_Bo_allOf oS_sets side)), (6, .long v6_21), (8, .int v8_21)] → W p l e (headSpec wsBo_shieldsOf { frames := 1, cells := 0, slots := 0, locals := 30 }).room s m ([.ref o, .int side]).toArray below meth c s.heap [] 0 0 (MQ below (vp_Sl (fun r => r = f_Bo_shieldsOf oS_sets side)) ([.ref o, .int side]).toArray s 0 0 (fun _ => False)) (F0 m 21 ls []) := by
    intro n_21
    induction n_21 with
    | zero => intro v6_21 v8_21 _ hm_21; exact absurd hm_21 (by omega)
    | succ n_21 ih_21 =>
      intro v6_21 v8_21 he_21 hm_21 ls hl
      refine lv_iload hx hb dBo_shieldsOf_21 (lv_at hl 5 rfl) ?_
      refine lv_bipush (v := 8) hx hb dBo_shieldsOf_23 (by decide) ?_
      refine lv_icmp_ge (tgt := 108) hx hb dBo_shieldsOf_25 (by decide) (fun c_1 => ?_) (fun c_1 => ?_)
      · refine lv_lload hx hb dBo_shieldsOf_108 (lv_at hl 4 rfl) ?_
        exact ro_retl hx hb hr hlocks dBo_shieldsOf_110 (Eq.symm (he_21.trans (by rw [f_Bo_shieldsOf_21_eq, if_pos c_1] <;> rfl)))
      · refine lv_iload hx hb dBo_shieldsOf_28 (lv_at hl 5 rfl) ?_
        refine lv_iconst (v := 4) hx hb dBo_shieldsOf_30 (by decide) ?_
        have J_39 : ∀ (k0_39 : Int32), f_Bo_shieldsOf oS_sets side = f_Bo_shieldsOf_39 (f_Bo_shieldsOf_21 oS_sets side n_21) oS_sets side v6_21 v8_21 k0_39 → ∀ ls : Array Slot, lv_has ls 14 [(0, .ref o), (1, .int side), (2, .long (f_Bo_setOf oS_sets 6 side)), (4, .long (f_Bo_allOf oS_sets side)), (6, .long v6_21), (8, .int v8_21)] → W p l e (headSpec wsBo_shieldsOf { frames := 1, cells := 0, slots := 0, locals := 30 }).room s m ([.ref o, .int side]).toArray below meth c s.heap [] 0 0 (MQ below (vp_Sl (fun r => r = f_Bo_shieldsOf oS_sets side)) ([.ref o, .int side]).toArray s 0 0 (fun _ => False)) (F0 m 39 ls [.int k0_39]) := by
          intro k0_39 he_39 ls hl
          refine lv_istore (lv' := [(9, .int k0_39), (0, .ref o), (1, .int side), (2, .long (f_Bo_setOf oS_sets 6 side)), (4, .long (f_Bo_allOf oS_sets side)), (6, .long v6_21), (8, .int v8_21)]) hx hb dBo_shieldsOf_39 hl (by decide) rfl (fun ls hl => ?_)
          refine lv_aload_n hx hb dBo_shieldsOf_41 rfl (lv_at hl 1 rfl) ?_
          refine lv_iconst (v := 5) hx hb dBo_shieldsOf_42 (by decide) ?_
          refine lv_iconst (v := 1) hx hb dBo_shieldsOf_43 (by decide) ?_
          refine lv_iload_n hx hb dBo_shieldsOf_44 rfl (lv_at hl 2 rfl) ?_
          refine lv_isub hx hb dBo_shieldsOf_45 ?_
          refine ro_gol (va_runV (C := "ChessRules$Board") (As := [.int 5, .int (1 - side)]) (rest := []) ⟨hx, hb, hml, hown, hB⟩ (c_Bo_setOf l dC dI cI cJ cC ad o o_men o_sets oS_men oS_sets 5 (1 - side)) ⟨callB_of 2 hB (big_self q2_112) rfl rfl rfl (hB _ q1_5) (hB _ q2_123) (by decide +kernel) ⟨Nat.le_of_ble_eq_true rfl, Nat.le_of_ble_eq_true rfl⟩, (hB _ q2_111), (hB _ qs2_1)⟩ (ro_preV (GS_ok ad) hK hP hG hS [0, 1, 2] rfl (va_recv hK hP (ci := 0) (q0 := 0) rfl rfl)) rfl rfl hl.1 rfl (lv_room (Nat.le_of_ble_eq_true rfl)) dBo_shieldsOf_46 ⟨Nat.le_of_ble_eq_true rfl, Nat.le_of_ble_eq_true rfl⟩) ?_
          refine lv_aload_n hx hb dBo_shieldsOf_49 rfl (lv_at hl 1 rfl) ?_
          refine lv_iload hx hb dBo_shieldsOf_50 (lv_at hl 0 rfl) ?_
          refine lv_iconst (v := 1) hx hb dBo_shieldsOf_52 (by decide) ?_
          refine lv_iload_n hx hb dBo_shieldsOf_53 rfl (lv_at hl 2 rfl) ?_
          refine lv_isub hx hb dBo_shieldsOf_54 ?_
          refine ro_gol (va_runV (C := "ChessRules$Board") (As := [.int k0_39, .int (1 - side)]) (rest := [.long (f_Bo_setOf oS_sets 5 (1 - side))]) ⟨hx, hb, hml, hown, hB⟩ (c_Bo_setOf l dC dI cI cJ cC ad o o_men o_sets oS_men oS_sets k0_39 (1 - side)) ⟨callB_of 2 hB (big_self q2_112) rfl rfl rfl (hB _ q1_5) (hB _ q2_123) (by decide +kernel) ⟨Nat.le_of_ble_eq_true rfl, Nat.le_of_ble_eq_true rfl⟩, (hB _ q2_111), (hB _ qs2_1)⟩ (ro_preV (GS_ok ad) hK hP hG hS [0, 1, 2] rfl (va_recv hK hP (ci := 0) (q0 := 0) rfl rfl)) rfl rfl hl.1 rfl (lv_room (Nat.le_of_ble_eq_true rfl)) dBo_shieldsOf_55 ⟨Nat.le_of_ble_eq_true rfl, Nat.le_of_ble_eq_true rfl⟩) ?_
          refine lv_lor hx hb dBo_shieldsOf_58 ?_
          refine lv_lstore (lv' := [(10, .long ((f_Bo_setOf oS_sets 5 (1 - side)) ||| (f_Bo_setOf oS_sets k0_39 (1 - side)))), (9, .int k0_39), (0, .ref o), (1, .int side), (2, .long (f_Bo_setOf oS_sets 6 side)), (4, .long (f_Bo_allOf oS_sets side)), (6, .long v6_21), (8, .int v8_21)]) hx hb dBo_shieldsOf_59 hl (by decide) rfl (fun ls hl => ?_)
          refine lv_iload hx hb dBo_shieldsOf_61 (lv_at hl 7 rfl) ?_
          refine lv_lload_n hx hb dBo_shieldsOf_63 rfl (lv_at hl 4 rfl) ?_
          refine lv_aload_n hx hb dBo_shieldsOf_64 rfl (lv_at hl 2 rfl) ?_
          refine ro_gol (va_runV (C := "ChessRules$Board") (As := []) (rest := [.long (f_Bo_setOf oS_sets 6 side), .int v8_21]) ⟨hx, hb, hml, hown, hB⟩ (c_Bo_empty l dC dI cI cJ cC ad o o_men o_sets oS_men oS_sets) ⟨callB_of 0 hB (big_self q2_132) rfl rfl rfl (hB _ q1_5) (hB _ q2_129) (by decide +kernel) ⟨Nat.le_of_ble_eq_true rfl, Nat.le_of_ble_eq_true rfl⟩, (hB _ q2_131), (hB _ qs2_4)⟩ (ro_preV (GS_ok ad) hK hP hG hS [0, 1, 2] rfl (va_recv hK hP (ci := 0) (q0 := 0) rfl rfl)) rfl rfl hl.1 rfl (lv_room (Nat.le_of_ble_eq_true rfl)) dBo_shieldsOf_65 ⟨Nat.le_of_ble_eq_true rfl, Nat.le_of_ble_eq_true rfl⟩) ?_
          refine ro_gol (va_runSN (As := [.int v8_21, .long (f_Bo_setOf oS_sets 6 side), .long (f_Bo_empty oS_sets)]) (rest := []) ⟨hx, hb, hml, hown, hB⟩ (c_Ra_along l dC dI cI cJ cC ad v8_21 (f_Bo_setOf oS_sets 6 side) (f_Bo_empty oS_sets)) ⟨va_cnB 3 hB (big_self q2_153) rfl rfl rfl (hG.1 _ q2_151) (hB _ q1_14) (by decide +kernel) ⟨Nat.le_of_ble_eq_true rfl, Nat.le_of_ble_eq_true rfl⟩, (hB _ q2_152), trivial⟩ (ro_preS (GS_ok ad) hK hP hG hS [] rfl) rfl rfl hl.1 rfl (lv_room (Nat.le_of_ble_eq_true rfl)) dBo_shieldsOf_68 ⟨Nat.le_of_ble_eq_true rfl, Nat.le_of_ble_eq_true rfl⟩) ?_
          refine lv_lload hx hb dBo_shieldsOf_71 (lv_at hl 5 rfl) ?_
          refine lv_land hx hb dBo_shieldsOf_73 ?_
          refine lv_lstore (lv' := [(12, .long ((f_Ra_along v8_21 (f_Bo_setOf oS_sets 6 side) (f_Bo_empty oS_sets)) &&& (f_Bo_allOf oS_sets side))), (10, .long ((f_Bo_setOf oS_sets 5 (1 - side)) ||| (f_Bo_setOf oS_sets k0_39 (1 - side)))), (9, .int k0_39), (0, .ref o), (1, .int side), (2, .long (f_Bo_setOf oS_sets 6 side)), (4, .long (f_Bo_allOf oS_sets side)), (6, .long v6_21), (8, .int v8_21)]) hx hb dBo_shieldsOf_74 hl (by decide) rfl (fun ls hl => ?_)
          refine lv_iload hx hb dBo_shieldsOf_76 (lv_at hl 8 rfl) ?_
          refine lv_lload hx hb dBo_shieldsOf_78 (lv_at hl 0 rfl) ?_
          refine lv_aload_n hx hb dBo_shieldsOf_80 rfl (lv_at hl 3 rfl) ?_
          refine ro_gol (va_runV (C := "ChessRules$Board") (As := []) (rest := [.long ((f_Ra_along v8_21 (f_Bo_setOf oS_sets 6 side) (f_Bo_empty oS_sets)) &&& (f_Bo_allOf oS_sets side)), .int v8_21]) ⟨hx, hb, hml, hown, hB⟩ (c_Bo_empty l dC dI cI cJ cC ad o o_men o_sets oS_men oS_sets) ⟨callB_of 0 hB (big_self q2_132) rfl rfl rfl (hB _ q1_5) (hB _ q2_129) (by decide +kernel) ⟨Nat.le_of_ble_eq_true rfl, Nat.le_of_ble_eq_true rfl⟩, (hB _ q2_131), (hB _ qs2_4)⟩ (ro_preV (GS_ok ad) hK hP hG hS [0, 1, 2] rfl (va_recv hK hP (ci := 0) (q0 := 0) rfl rfl)) rfl rfl hl.1 rfl (lv_room (Nat.le_of_ble_eq_true rfl)) dBo_shieldsOf_81 ⟨Nat.le_of_ble_eq_true rfl, Nat.le_of_ble_eq_true rfl⟩) ?_
          refine ro_gol (va_runSN (As := [.int v8_21, .long ((f_Ra_along v8_21 (f_Bo_setOf oS_sets 6 side) (f_Bo_empty oS_sets)) &&& (f_Bo_allOf oS_sets side)), .long (f_Bo_empty oS_sets)]) (rest := []) ⟨hx, hb, hml, hown, hB⟩ (c_Ra_along l dC dI cI cJ cC ad v8_21 ((f_Ra_along v8_21 (f_Bo_setOf oS_sets 6 side) (f_Bo_empty oS_sets)) &&& (f_Bo_allOf oS_sets side)) (f_Bo_empty oS_sets)) ⟨va_cnB 3 hB (big_self q2_153) rfl rfl rfl (hG.1 _ q2_151) (hB _ q1_14) (by decide +kernel) ⟨Nat.le_of_ble_eq_true rfl, Nat.le_of_ble_eq_true rfl⟩, (hB _ q2_152), trivial⟩ (ro_preS (GS_ok ad) hK hP hG hS [] rfl) rfl rfl hl.1 rfl (lv_room (Nat.le_of_ble_eq_true rfl)) dBo_shieldsOf_84 ⟨Nat.le_of_ble_eq_true rfl, Nat.le_of_ble_eq_true rfl⟩) ?_
          refine lv_lload hx hb dBo_shieldsOf_87 (lv_at hl 1 rfl) ?_
          refine lv_land hx hb dBo_shieldsOf_89 ?_
          refine lv_lconst (v := 0) hx hb dBo_shieldsOf_90 (by decide) ?_
          refine W.lcmp hx hb dBo_shieldsOf_91 ?_
          refine lv_if_eq (tgt := 102) hx hb dBo_shieldsOf_92 (by decide) (fun q => let_c (h := ((f_Ra_along v8_21 ((f_Ra_along v8_21 (f_Bo_setOf oS_sets 6 side) (f_Bo_empty oS_sets)) &&& (f_Bo_allOf oS_sets side)) (f_Bo_empty oS_sets)) &&& ((f_Bo_setOf oS_sets 5 (1 - side)) ||| (f_Bo_setOf oS_sets k0_39 (1 - side)))) = 0) (lgc_eq.1 q) (fun c_2 => ?_)) (fun q => let_c (h := ¬ ((f_Ra_along v8_21 ((f_Ra_along v8_21 (f_Bo_setOf oS_sets 6 side) (f_Bo_empty oS_sets)) &&& (f_Bo_allOf oS_sets side)) (f_Bo_empty oS_sets)) &&& ((f_Bo_setOf oS_sets 5 (1 - side)) ||| (f_Bo_setOf oS_sets k0_39 (1 - side)))) = 0) (lgc_eq.2 q) (fun c_2 => ?_))
          · refine lv_iinc (v := v8_21 + 1) (lv' := [(8, .int (v8_21 + 1)), (12, .long ((f_Ra_along v8_21 (f_Bo_setOf oS_sets 6 side) (f_Bo_empty oS_sets)) &&& (f_Bo_allOf oS_sets side))), (10, .long ((f_Bo_setOf oS_sets 5 (1 - side)) ||| (f_Bo_setOf oS_sets k0_39 (1 - side)))), (9, .int k0_39), (0, .ref o), (1, .int side), (2, .long (f_Bo_setOf oS_sets 6 side)), (4, .long (f_Bo_allOf oS_sets side)), (6, .long v6_21)]) hx hb dBo_shieldsOf_102 hl (k := 8) rfl rfl (by decide) rfl (fun ls hl => ?_)
            refine lv_goto (tgt := 21) hx hb dBo_shieldsOf_105 (by decide) ?_
            exact ih_21 v6_21 (v8_21 + 1) (he_39.trans (by rw [f_Bo_shieldsOf_39_eq, if_pos c_2] <;> rfl)) (by have z1 := tnle c_1; have y8 : (8 : Int32).toInt = 8 := rfl; have zr := i_rng (8 : Int32); have zs := i_succ9 v8_21 (by omega); omega) ls (lv_sub hl [4, 5, 6, 7, 8, 0] rfl)
          · refine lv_lload hx hb dBo_shieldsOf_95 (lv_at hl 7 rfl) ?_
            refine lv_lload hx hb dBo_shieldsOf_97 (lv_at hl 0 rfl) ?_
            refine lv_lor hx hb dBo_shieldsOf_99 ?_
            refine lv_lstore (lv' := [(6, .long (v6_21 ||| ((f_Ra_along v8_21 (f_Bo_setOf oS_sets 6 side) (f_Bo_empty oS_sets)) &&& (f_Bo_allOf oS_sets side)))), (12, .long ((f_Ra_along v8_21 (f_Bo_setOf oS_sets 6 side) (f_Bo_empty oS_sets)) &&& (f_Bo_allOf oS_sets side))), (10, .long ((f_Bo_setOf oS_sets 5 (1 - side)) ||| (f_Bo_setOf oS_sets k0_39 (1 - side)))), (9, .int k0_39), (0, .ref o), (1, .int side), (2, .long (f_Bo_setOf oS_sets 6 side)), (4, .long (f_Bo_allOf oS_sets side)), (8, .int v8_21)]) hx hb dBo_shieldsOf_100 hl (by decide) rfl (fun ls hl => ?_)
            refine lv_iinc (v := v8_21 + 1) (lv' := [(8, .int (v8_21 + 1)), (6, .long (v6_21 ||| ((f_Ra_along v8_21 (f_Bo_setOf oS_sets 6 side) (f_Bo_empty oS_sets)) &&& (f_Bo_allOf oS_sets side)))), (12, .long ((f_Ra_along v8_21 (f_Bo_setOf oS_sets 6 side) (f_Bo_empty oS_sets)) &&& (f_Bo_allOf oS_sets side))), (10, .long ((f_Bo_setOf oS_sets 5 (1 - side)) ||| (f_Bo_setOf oS_sets k0_39 (1 - side)))), (9, .int k0_39), (0, .ref o), (1, .int side), (2, .long (f_Bo_setOf oS_sets 6 side)), (4, .long (f_Bo_allOf oS_sets side))]) hx hb dBo_shieldsOf_102 hl (k := 8) rfl rfl (by decide) rfl (fun ls hl => ?_)
            refine lv_goto (tgt := 21) hx hb dBo_shieldsOf_105 (by decide) ?_
            exact ih_21 (v6_21 ||| ((f_Ra_along v8_21 (f_Bo_setOf oS_sets 6 side) (f_Bo_empty oS_sets)) &&& (f_Bo_allOf oS_sets side))) (v8_21 + 1) (he_39.trans (by rw [f_Bo_shieldsOf_39_eq, if_neg c_2] <;> rfl)) (by have z1 := tnle c_1; have y8 : (8 : Int32).toInt = 8 := rfl; have zr := i_rng (8 : Int32); have zs := i_succ9 v8_21 (by omega); omega) ls (lv_sub hl [5, 6, 7, 8, 1, 0] rfl)
        refine lv_icmp_ge (tgt := 38) hx hb dBo_shieldsOf_31 (by decide) (fun c_3 => ?_) (fun c_3 => ?_)
        · refine lv_iconst (v := 3) hx hb dBo_shieldsOf_38 (by decide) ?_
          exact J_39 3 (he_21.trans (by rw [f_Bo_shieldsOf_21_eq, if_neg c_1, if_pos c_3] <;> rfl)) ls (lv_sub hl [0, 1, 2, 3, 4, 5] rfl)
        · refine lv_iconst (v := 4) hx hb dBo_shieldsOf_34 (by decide) ?_
          refine lv_goto (tgt := 39) hx hb dBo_shieldsOf_35 (by decide) ?_
          exact J_39 4 (he_21.trans (by rw [f_Bo_shieldsOf_21_eq, if_neg c_1, if_neg c_3] <;> rfl)) ls (lv_sub hl [0, 1, 2, 3, 4, 5] rfl)
  exact J_21 (9) 0 0 (by rw [f_Bo_shieldsOf_eq] <;> rfl) (by decide) ls (lv_sub hl [4, 5, 3, 2, 1, 0] rfl)

abbrev cBo_hasTooLittle : ByteArray := prog_2_method_12_code
def yBo_hasTooLittle : MethodName := ⟨"ChessRules$Board", "hasTooLittle", "()Z"⟩
def wsBo_hasTooLittle : List Cond := Cond.code yBo_hasTooLittle cBo_hasTooLittle 4 (some .boolean) :: BIG
theorem dBo_hasTooLittle_0 : decode cBo_hasTooLittle 0 = .ok (.aload_n 0, 1) := by decide +kernel
theorem dBo_hasTooLittle_1 : decode cBo_hasTooLittle 1 = .ok (.iconst 1, 1) := by decide +kernel
theorem dBo_hasTooLittle_2 : decode cBo_hasTooLittle 2 = .ok (.invokevirtual 62, 3) := by decide +kernel
theorem dBo_hasTooLittle_5 : decode cBo_hasTooLittle 5 = .ok (.aload_n 0, 1) := by decide +kernel
theorem dBo_hasTooLittle_6 : decode cBo_hasTooLittle 6 = .ok (.iconst 4, 1) := by decide +kernel
theorem dBo_hasTooLittle_7 : decode cBo_hasTooLittle 7 = .ok (.invokevirtual 62, 3) := by decide +kernel
theorem dBo_hasTooLittle_10 : decode cBo_hasTooLittle 10 = .ok (.lor, 1) := by decide +kernel
theorem dBo_hasTooLittle_11 : decode cBo_hasTooLittle 11 = .ok (.aload_n 0, 1) := by decide +kernel
theorem dBo_hasTooLittle_12 : decode cBo_hasTooLittle 12 = .ok (.iconst 5, 1) := by decide +kernel
theorem dBo_hasTooLittle_13 : decode cBo_hasTooLittle 13 = .ok (.invokevirtual 62, 3) := by decide +kernel
theorem dBo_hasTooLittle_16 : decode cBo_hasTooLittle 16 = .ok (.lor, 1) := by decide +kernel
theorem dBo_hasTooLittle_17 : decode cBo_hasTooLittle 17 = .ok (.lconst 0, 1) := by decide +kernel
theorem dBo_hasTooLittle_18 : decode cBo_hasTooLittle 18 = .ok (.lcmp, 1) := by decide +kernel
theorem dBo_hasTooLittle_19 : decode cBo_hasTooLittle 19 = .ok (.ifCond .eq 5, 3) := by decide +kernel
theorem dBo_hasTooLittle_22 : decode cBo_hasTooLittle 22 = .ok (.iconst 0, 1) := by decide +kernel
theorem dBo_hasTooLittle_23 : decode cBo_hasTooLittle 23 = .ok (.ireturn, 1) := by decide +kernel
theorem dBo_hasTooLittle_24 : decode cBo_hasTooLittle 24 = .ok (.aload_n 0, 1) := by decide +kernel
theorem dBo_hasTooLittle_25 : decode cBo_hasTooLittle 25 = .ok (.iconst 3, 1) := by decide +kernel
theorem dBo_hasTooLittle_26 : decode cBo_hasTooLittle 26 = .ok (.invokevirtual 62, 3) := by decide +kernel
theorem dBo_hasTooLittle_29 : decode cBo_hasTooLittle 29 = .ok (.lstore_n 1, 1) := by decide +kernel
theorem dBo_hasTooLittle_30 : decode cBo_hasTooLittle 30 = .ok (.aload_n 0, 1) := by decide +kernel
theorem dBo_hasTooLittle_31 : decode cBo_hasTooLittle 31 = .ok (.iconst 2, 1) := by decide +kernel
theorem dBo_hasTooLittle_32 : decode cBo_hasTooLittle 32 = .ok (.invokevirtual 62, 3) := by decide +kernel
theorem dBo_hasTooLittle_35 : decode cBo_hasTooLittle 35 = .ok (.invokestatic 65, 3) := by decide +kernel
theorem dBo_hasTooLittle_38 : decode cBo_hasTooLittle 38 = .ok (.istore_n 3, 1) := by decide +kernel
theorem dBo_hasTooLittle_39 : decode cBo_hasTooLittle 39 = .ok (.iload_n 3, 1) := by decide +kernel
theorem dBo_hasTooLittle_40 : decode cBo_hasTooLittle 40 = .ok (.ifCond .le 20, 3) := by decide +kernel
theorem dBo_hasTooLittle_43 : decode cBo_hasTooLittle 43 = .ok (.iload_n 3, 1) := by decide +kernel
theorem dBo_hasTooLittle_44 : decode cBo_hasTooLittle 44 = .ok (.iconst 1, 1) := by decide +kernel
theorem dBo_hasTooLittle_45 : decode cBo_hasTooLittle 45 = .ok (.if_icmp .ne 13, 3) := by decide +kernel
theorem dBo_hasTooLittle_48 : decode cBo_hasTooLittle 48 = .ok (.lload_n 1, 1) := by decide +kernel
theorem dBo_hasTooLittle_49 : decode cBo_hasTooLittle 49 = .ok (.lconst 0, 1) := by decide +kernel
theorem dBo_hasTooLittle_50 : decode cBo_hasTooLittle 50 = .ok (.lcmp, 1) := by decide +kernel
theorem dBo_hasTooLittle_51 : decode cBo_hasTooLittle 51 = .ok (.ifCond .ne 7, 3) := by decide +kernel
theorem dBo_hasTooLittle_54 : decode cBo_hasTooLittle 54 = .ok (.iconst 1, 1) := by decide +kernel
theorem dBo_hasTooLittle_55 : decode cBo_hasTooLittle 55 = .ok (.goto 4, 3) := by decide +kernel
theorem dBo_hasTooLittle_58 : decode cBo_hasTooLittle 58 = .ok (.iconst 0, 1) := by decide +kernel
theorem dBo_hasTooLittle_59 : decode cBo_hasTooLittle 59 = .ok (.ireturn, 1) := by decide +kernel
theorem dBo_hasTooLittle_60 : decode cBo_hasTooLittle 60 = .ok (.lload_n 1, 1) := by decide +kernel
theorem dBo_hasTooLittle_61 : decode cBo_hasTooLittle 61 = .ok (.ldc2_w 71, 3) := by decide +kernel
theorem dBo_hasTooLittle_64 : decode cBo_hasTooLittle 64 = .ok (.land, 1) := by decide +kernel
theorem dBo_hasTooLittle_65 : decode cBo_hasTooLittle 65 = .ok (.lconst 0, 1) := by decide +kernel
theorem dBo_hasTooLittle_66 : decode cBo_hasTooLittle 66 = .ok (.lcmp, 1) := by decide +kernel
theorem dBo_hasTooLittle_67 : decode cBo_hasTooLittle 67 = .ok (.ifCond .eq 13, 3) := by decide +kernel
theorem dBo_hasTooLittle_70 : decode cBo_hasTooLittle 70 = .ok (.lload_n 1, 1) := by decide +kernel
theorem dBo_hasTooLittle_71 : decode cBo_hasTooLittle 71 = .ok (.ldc2_w 73, 3) := by decide +kernel
theorem dBo_hasTooLittle_74 : decode cBo_hasTooLittle 74 = .ok (.land, 1) := by decide +kernel
theorem dBo_hasTooLittle_75 : decode cBo_hasTooLittle 75 = .ok (.lconst 0, 1) := by decide +kernel
theorem dBo_hasTooLittle_76 : decode cBo_hasTooLittle 76 = .ok (.lcmp, 1) := by decide +kernel
theorem dBo_hasTooLittle_77 : decode cBo_hasTooLittle 77 = .ok (.ifCond .ne 7, 3) := by decide +kernel
theorem dBo_hasTooLittle_80 : decode cBo_hasTooLittle 80 = .ok (.iconst 1, 1) := by decide +kernel
theorem dBo_hasTooLittle_81 : decode cBo_hasTooLittle 81 = .ok (.goto 4, 3) := by decide +kernel
theorem dBo_hasTooLittle_84 : decode cBo_hasTooLittle 84 = .ok (.iconst 0, 1) := by decide +kernel
theorem dBo_hasTooLittle_85 : decode cBo_hasTooLittle 85 = .ok (.ireturn, 1) := by decide +kernel

def f_Bo_hasTooLittle (oS_sets : Nat → Int64) : Int32 :=
  (if (((f_Bo_bothOf oS_sets 1) ||| (f_Bo_bothOf oS_sets 4)) ||| (f_Bo_bothOf oS_sets 5)) = 0 then (if (f_Lo_bitCount (f_Bo_bothOf oS_sets 2)) ≤ 0 then (if ((f_Bo_bothOf oS_sets 3) &&& 6172840429334713770) = 0 then 1 else (if ((f_Bo_bothOf oS_sets 3) &&& (-6172840429334713771)) = 0 then 1 else 0)) else (if (f_Lo_bitCount (f_Bo_bothOf oS_sets 2)) = 1 then (if (f_Bo_bothOf oS_sets 3) = 0 then 1 else 0) else 0)) else 0)
theorem f_Bo_hasTooLittle_eq (oS_sets : Nat → Int64) : f_Bo_hasTooLittle oS_sets =
  (if (((f_Bo_bothOf oS_sets 1) ||| (f_Bo_bothOf oS_sets 4)) ||| (f_Bo_bothOf oS_sets 5)) = 0 then (if (f_Lo_bitCount (f_Bo_bothOf oS_sets 2)) ≤ 0 then (if ((f_Bo_bothOf oS_sets 3) &&& 6172840429334713770) = 0 then 1 else (if ((f_Bo_bothOf oS_sets 3) &&& (-6172840429334713771)) = 0 then 1 else 0)) else (if (f_Lo_bitCount (f_Bo_bothOf oS_sets 2)) = 1 then (if (f_Bo_bothOf oS_sets 3) = 0 then 1 else 0) else 0)) else 0) := rfl

set_option maxHeartbeats 4000000 in
set_option maxRecDepth 100000 in
theorem c_Bo_hasTooLittle (l : Launch) (dC : Nat → ClassId) (dI : Nat → Nat → Nat) (cI cJ cC : ClassId) (ad : Nat → Nat) (o o_men o_sets : Nat) (oS_men : Nat → Int32) (oS_sets : Nat → Int64) : Met l yBo_hasTooLittle wsBo_hasTooLittle { frames := 2, cells := 0, slots := 0, locals := 43 } (roP dC dI (TYS cI cJ cC) [.ref o] [(o, .inr (0, [.ref o_men, .ref o_sets])), (o_men, .inl (cI, 64, .inl oS_men)), (o_sets, .inl (cJ, 16, .inr (.inl oS_sets)))] (GS ad)) (vp_Si (fun r => r = f_Bo_hasTooLittle oS_sets)) 0 0 (fun _ => False) := by
  refine Met.ofW (cc := cBo_hasTooLittle) (maxL := 4) (ret := (some .boolean)) (by decide) rfl ?_
  intro p e s m args below meth c s₁ B hml hv
  obtain ⟨rfl, hP, hK, hG⟩ := hv
  have hx := B.exec
  have hb := B.bytes
  have hr := B.returns
  have hB : ∀ w9 ∈ BIG, w9.before ([.ref o]).toArray s = true := fun w9 h => atoms_spec (ws := wsBo_hasTooLittle) B.pre w9 (List.mem_cons_of_mem _ h)
  have hown : s.vm.findClass "ChessRules$Board" = some m.cls := findClass_of_methodNamed B.named
  have hlocks := B.notSynchronized
  have hS : va_S (fun _ => False) s.heap s.heap [] := va_S.rf
  have hP : va_P (dC, dI) vwCl [(o, .inr (0, [.ref o_men, .ref o_sets])), (o_men, .inl (cI, 64, .inl oS_men)), (o_sets, .inl (cJ, 16, .inr (.inl oS_sets)))] s.heap := hP
  have hl := lv_entry ([.ref o]) (n := 4) (Nat.le_of_ble_eq_true rfl)
  rw [lg_entry_eq]
  generalize (lg_sl ([.ref o]) ++ List.replicate (4 - (lg_sl ([.ref o])).length) Slot.unset).toArray = ls at hl ⊢
  have hl : lv_has ls 4 [(0, .ref o)] := hl
  refine lv_aload_n hx hb dBo_hasTooLittle_0 rfl (lv_at hl 0 rfl) ?_
  refine lv_iconst (v := 1) hx hb dBo_hasTooLittle_1 (by decide) ?_
  refine ro_gol (va_runV (C := "ChessRules$Board") (As := [.int 1]) (rest := []) ⟨hx, hb, hml, hown, hB⟩ (c_Bo_bothOf l dC dI cI cJ cC ad o o_men o_sets oS_men oS_sets 1) ⟨callB_of 1 hB (big_self q2_122) rfl rfl rfl (hB _ q1_5) (hB _ q3_163) (by decide +kernel) ⟨Nat.le_of_ble_eq_true rfl, Nat.le_of_ble_eq_true rfl⟩, (hB _ q2_121), (hB _ qs2_2)⟩ (ro_preV (GS_ok ad) hK hP hG hS [0, 1, 2] rfl (va_recv hK hP (ci := 0) (q0 := 0) rfl rfl)) rfl rfl hl.1 rfl (lv_room (Nat.le_of_ble_eq_true rfl)) dBo_hasTooLittle_2 ⟨Nat.le_of_ble_eq_true rfl, Nat.le_of_ble_eq_true rfl⟩) ?_
  refine lv_aload_n hx hb dBo_hasTooLittle_5 rfl (lv_at hl 0 rfl) ?_
  refine lv_iconst (v := 4) hx hb dBo_hasTooLittle_6 (by decide) ?_
  refine ro_gol (va_runV (C := "ChessRules$Board") (As := [.int 4]) (rest := [.long (f_Bo_bothOf oS_sets 1)]) ⟨hx, hb, hml, hown, hB⟩ (c_Bo_bothOf l dC dI cI cJ cC ad o o_men o_sets oS_men oS_sets 4) ⟨callB_of 1 hB (big_self q2_122) rfl rfl rfl (hB _ q1_5) (hB _ q3_163) (by decide +kernel) ⟨Nat.le_of_ble_eq_true rfl, Nat.le_of_ble_eq_true rfl⟩, (hB _ q2_121), (hB _ qs2_2)⟩ (ro_preV (GS_ok ad) hK hP hG hS [0, 1, 2] rfl (va_recv hK hP (ci := 0) (q0 := 0) rfl rfl)) rfl rfl hl.1 rfl (lv_room (Nat.le_of_ble_eq_true rfl)) dBo_hasTooLittle_7 ⟨Nat.le_of_ble_eq_true rfl, Nat.le_of_ble_eq_true rfl⟩) ?_
  refine lv_lor hx hb dBo_hasTooLittle_10 ?_
  refine lv_aload_n hx hb dBo_hasTooLittle_11 rfl (lv_at hl 0 rfl) ?_
  refine lv_iconst (v := 5) hx hb dBo_hasTooLittle_12 (by decide) ?_
  refine ro_gol (va_runV (C := "ChessRules$Board") (As := [.int 5]) (rest := [.long ((f_Bo_bothOf oS_sets 1) ||| (f_Bo_bothOf oS_sets 4))]) ⟨hx, hb, hml, hown, hB⟩ (c_Bo_bothOf l dC dI cI cJ cC ad o o_men o_sets oS_men oS_sets 5) ⟨callB_of 1 hB (big_self q2_122) rfl rfl rfl (hB _ q1_5) (hB _ q3_163) (by decide +kernel) ⟨Nat.le_of_ble_eq_true rfl, Nat.le_of_ble_eq_true rfl⟩, (hB _ q2_121), (hB _ qs2_2)⟩ (ro_preV (GS_ok ad) hK hP hG hS [0, 1, 2] rfl (va_recv hK hP (ci := 0) (q0 := 0) rfl rfl)) rfl rfl hl.1 rfl (lv_room (Nat.le_of_ble_eq_true rfl)) dBo_hasTooLittle_13 ⟨Nat.le_of_ble_eq_true rfl, Nat.le_of_ble_eq_true rfl⟩) ?_
  refine lv_lor hx hb dBo_hasTooLittle_16 ?_
  refine lv_lconst (v := 0) hx hb dBo_hasTooLittle_17 (by decide) ?_
  refine W.lcmp hx hb dBo_hasTooLittle_18 ?_
  refine lv_if_eq (tgt := 24) hx hb dBo_hasTooLittle_19 (by decide) (fun q => let_c (h := (((f_Bo_bothOf oS_sets 1) ||| (f_Bo_bothOf oS_sets 4)) ||| (f_Bo_bothOf oS_sets 5)) = 0) (lgc_eq.1 q) (fun c_1 => ?_)) (fun q => let_c (h := ¬ (((f_Bo_bothOf oS_sets 1) ||| (f_Bo_bothOf oS_sets 4)) ||| (f_Bo_bothOf oS_sets 5)) = 0) (lgc_eq.2 q) (fun c_1 => ?_))
  · refine lv_aload_n hx hb dBo_hasTooLittle_24 rfl (lv_at hl 0 rfl) ?_
    refine lv_iconst (v := 3) hx hb dBo_hasTooLittle_25 (by decide) ?_
    refine ro_gol (va_runV (C := "ChessRules$Board") (As := [.int 3]) (rest := []) ⟨hx, hb, hml, hown, hB⟩ (c_Bo_bothOf l dC dI cI cJ cC ad o o_men o_sets oS_men oS_sets 3) ⟨callB_of 1 hB (big_self q2_122) rfl rfl rfl (hB _ q1_5) (hB _ q3_163) (by decide +kernel) ⟨Nat.le_of_ble_eq_true rfl, Nat.le_of_ble_eq_true rfl⟩, (hB _ q2_121), (hB _ qs2_2)⟩ (ro_preV (GS_ok ad) hK hP hG hS [0, 1, 2] rfl (va_recv hK hP (ci := 0) (q0 := 0) rfl rfl)) rfl rfl hl.1 rfl (lv_room (Nat.le_of_ble_eq_true rfl)) dBo_hasTooLittle_26 ⟨Nat.le_of_ble_eq_true rfl, Nat.le_of_ble_eq_true rfl⟩) ?_
    refine lv_lstore_n (lv' := [(1, .long (f_Bo_bothOf oS_sets 3)), (0, .ref o)]) hx hb dBo_hasTooLittle_29 rfl hl (by decide) rfl (fun ls hl => ?_)
    refine lv_aload_n hx hb dBo_hasTooLittle_30 rfl (lv_at hl 1 rfl) ?_
    refine lv_iconst (v := 2) hx hb dBo_hasTooLittle_31 (by decide) ?_
    refine ro_gol (va_runV (C := "ChessRules$Board") (As := [.int 2]) (rest := []) ⟨hx, hb, hml, hown, hB⟩ (c_Bo_bothOf l dC dI cI cJ cC ad o o_men o_sets oS_men oS_sets 2) ⟨callB_of 1 hB (big_self q2_122) rfl rfl rfl (hB _ q1_5) (hB _ q3_163) (by decide +kernel) ⟨Nat.le_of_ble_eq_true rfl, Nat.le_of_ble_eq_true rfl⟩, (hB _ q2_121), (hB _ qs2_2)⟩ (ro_preV (GS_ok ad) hK hP hG hS [0, 1, 2] rfl (va_recv hK hP (ci := 0) (q0 := 0) rfl rfl)) rfl rfl hl.1 rfl (lv_room (Nat.le_of_ble_eq_true rfl)) dBo_hasTooLittle_32 ⟨Nat.le_of_ble_eq_true rfl, Nat.le_of_ble_eq_true rfl⟩) ?_
    refine ro_goi (va_runS (As := [.long (f_Bo_bothOf oS_sets 2)]) (rest := []) ⟨hx, hb, hml, hown, hB⟩ (c_Lo_bitCount l dC dI cI cJ cC ad (f_Bo_bothOf oS_sets 2)) ⟨callB_of 1 hB (big_self q2_115) rfl rfl rfl (hB _ q1_13) (hB _ q3_164) (by decide +kernel) ⟨Nat.le_of_ble_eq_true rfl, Nat.le_of_ble_eq_true rfl⟩, (hB _ q2_114)⟩ (ro_preS (GS_ok ad) hK hP hG hS [] rfl) rfl rfl hl.1 rfl (lv_room (Nat.le_of_ble_eq_true rfl)) dBo_hasTooLittle_35 ⟨Nat.le_of_ble_eq_true rfl, Nat.le_of_ble_eq_true rfl⟩) ?_
    refine lv_istore_n (lv' := [(3, .int (f_Lo_bitCount (f_Bo_bothOf oS_sets 2))), (1, .long (f_Bo_bothOf oS_sets 3)), (0, .ref o)]) hx hb dBo_hasTooLittle_38 rfl hl (by decide) rfl (fun ls hl => ?_)
    refine lv_iload_n hx hb dBo_hasTooLittle_39 rfl (lv_at hl 0 rfl) ?_
    refine lv_if_le (tgt := 60) hx hb dBo_hasTooLittle_40 (by decide) (fun c_2 => ?_) (fun c_2 => ?_)
    · refine lv_lload_n hx hb dBo_hasTooLittle_60 rfl (lv_at hl 1 rfl) ?_
      refine lv_ldc2 (v := 6172840429334713770) hx hb hown (hB _ q3_165) dBo_hasTooLittle_61 ?_
      refine lv_land hx hb dBo_hasTooLittle_64 ?_
      refine lv_lconst (v := 0) hx hb dBo_hasTooLittle_65 (by decide) ?_
      refine W.lcmp hx hb dBo_hasTooLittle_66 ?_
      refine lv_if_eq (tgt := 80) hx hb dBo_hasTooLittle_67 (by decide) (fun q => let_c (h := ((f_Bo_bothOf oS_sets 3) &&& 6172840429334713770) = 0) (lgc_eq.1 q) (fun c_3 => ?_)) (fun q => let_c (h := ¬ ((f_Bo_bothOf oS_sets 3) &&& 6172840429334713770) = 0) (lgc_eq.2 q) (fun c_3 => ?_))
      · refine lv_iconst (v := 1) hx hb dBo_hasTooLittle_80 (by decide) ?_
        refine lv_goto (tgt := 85) hx hb dBo_hasTooLittle_81 (by decide) ?_
        exact ro_retz hx hb hr rfl hlocks dBo_hasTooLittle_85 (Eq.symm (by rw [f_Bo_hasTooLittle_eq, if_pos c_1, if_pos c_2, if_pos c_3] <;> rfl))
      · refine lv_lload_n hx hb dBo_hasTooLittle_70 rfl (lv_at hl 1 rfl) ?_
        refine lv_ldc2 (v := (-6172840429334713771)) hx hb hown (hB _ q3_166) dBo_hasTooLittle_71 ?_
        refine lv_land hx hb dBo_hasTooLittle_74 ?_
        refine lv_lconst (v := 0) hx hb dBo_hasTooLittle_75 (by decide) ?_
        refine W.lcmp hx hb dBo_hasTooLittle_76 ?_
        refine lv_if_ne (tgt := 84) hx hb dBo_hasTooLittle_77 (by decide) (fun q => let_c (h := ¬ ((f_Bo_bothOf oS_sets 3) &&& (-6172840429334713771)) = 0) (lgc_ne.1 q) (fun c_4 => ?_)) (fun q => let_c (h := ((f_Bo_bothOf oS_sets 3) &&& (-6172840429334713771)) = 0) (lgc_ne.2 q) (fun c_4 => ?_))
        · refine lv_iconst (v := 0) hx hb dBo_hasTooLittle_84 (by decide) ?_
          exact ro_retz hx hb hr rfl hlocks dBo_hasTooLittle_85 (Eq.symm (by rw [f_Bo_hasTooLittle_eq, if_pos c_1, if_pos c_2, if_neg c_3, if_neg c_4] <;> rfl))
        · refine lv_iconst (v := 1) hx hb dBo_hasTooLittle_80 (by decide) ?_
          refine lv_goto (tgt := 85) hx hb dBo_hasTooLittle_81 (by decide) ?_
          exact ro_retz hx hb hr rfl hlocks dBo_hasTooLittle_85 (Eq.symm (by rw [f_Bo_hasTooLittle_eq, if_pos c_1, if_pos c_2, if_neg c_3, if_pos c_4] <;> rfl))
    · refine lv_iload_n hx hb dBo_hasTooLittle_43 rfl (lv_at hl 0 rfl) ?_
      refine lv_iconst (v := 1) hx hb dBo_hasTooLittle_44 (by decide) ?_
      refine lv_icmp_ne (tgt := 58) hx hb dBo_hasTooLittle_45 (by decide) (fun c_5 => ?_) (fun c_5 => ?_)
      · refine lv_iconst (v := 0) hx hb dBo_hasTooLittle_58 (by decide) ?_
        exact ro_retz hx hb hr rfl hlocks dBo_hasTooLittle_59 (Eq.symm (by rw [f_Bo_hasTooLittle_eq, if_pos c_1, if_neg c_2, if_neg c_5] <;> rfl))
      · refine lv_lload_n hx hb dBo_hasTooLittle_48 rfl (lv_at hl 1 rfl) ?_
        refine lv_lconst (v := 0) hx hb dBo_hasTooLittle_49 (by decide) ?_
        refine W.lcmp hx hb dBo_hasTooLittle_50 ?_
        refine lv_if_ne (tgt := 58) hx hb dBo_hasTooLittle_51 (by decide) (fun q => let_c (h := ¬ (f_Bo_bothOf oS_sets 3) = 0) (lgc_ne.1 q) (fun c_6 => ?_)) (fun q => let_c (h := (f_Bo_bothOf oS_sets 3) = 0) (lgc_ne.2 q) (fun c_6 => ?_))
        · refine lv_iconst (v := 0) hx hb dBo_hasTooLittle_58 (by decide) ?_
          exact ro_retz hx hb hr rfl hlocks dBo_hasTooLittle_59 (Eq.symm (by rw [f_Bo_hasTooLittle_eq, if_pos c_1, if_neg c_2, if_pos c_5, if_neg c_6] <;> rfl))
        · refine lv_iconst (v := 1) hx hb dBo_hasTooLittle_54 (by decide) ?_
          refine lv_goto (tgt := 59) hx hb dBo_hasTooLittle_55 (by decide) ?_
          exact ro_retz hx hb hr rfl hlocks dBo_hasTooLittle_59 (Eq.symm (by rw [f_Bo_hasTooLittle_eq, if_pos c_1, if_neg c_2, if_pos c_5, if_pos c_6] <;> rfl))
  · refine lv_iconst (v := 0) hx hb dBo_hasTooLittle_22 (by decide) ?_
    exact ro_retz hx hb hr rfl hlocks dBo_hasTooLittle_23 (Eq.symm (by rw [f_Bo_hasTooLittle_eq, if_neg c_1] <;> rfl))

abbrev cBo_squaresWithBit : ByteArray := prog_2_method_13_code
def yBo_squaresWithBit : MethodName := ⟨"ChessRules$Board", "squaresWithBit", "(I)J"⟩
def wsBo_squaresWithBit : List Cond := Cond.code yBo_squaresWithBit cBo_squaresWithBit 5 (some .long) :: BIG
theorem dBo_squaresWithBit_0 : decode cBo_squaresWithBit 0 = .ok (.lconst 0, 1) := by decide +kernel
theorem dBo_squaresWithBit_1 : decode cBo_squaresWithBit 1 = .ok (.lstore_n 2, 1) := by decide +kernel
theorem dBo_squaresWithBit_2 : decode cBo_squaresWithBit 2 = .ok (.iconst 1, 1) := by decide +kernel
theorem dBo_squaresWithBit_3 : decode cBo_squaresWithBit 3 = .ok (.istore 4, 2) := by decide +kernel
theorem dBo_squaresWithBit_5 : decode cBo_squaresWithBit 5 = .ok (.iload 4, 2) := by decide +kernel
theorem dBo_squaresWithBit_7 : decode cBo_squaresWithBit 7 = .ok (.bipush 16, 2) := by decide +kernel
theorem dBo_squaresWithBit_9 : decode cBo_squaresWithBit 9 = .ok (.if_icmp .ge 28, 3) := by decide +kernel
theorem dBo_squaresWithBit_12 : decode cBo_squaresWithBit 12 = .ok (.iload 4, 2) := by decide +kernel
theorem dBo_squaresWithBit_14 : decode cBo_squaresWithBit 14 = .ok (.iload_n 1, 1) := by decide +kernel
theorem dBo_squaresWithBit_15 : decode cBo_squaresWithBit 15 = .ok (.ishr, 1) := by decide +kernel
theorem dBo_squaresWithBit_16 : decode cBo_squaresWithBit 16 = .ok (.iconst 1, 1) := by decide +kernel
theorem dBo_squaresWithBit_17 : decode cBo_squaresWithBit 17 = .ok (.iand, 1) := by decide +kernel
theorem dBo_squaresWithBit_18 : decode cBo_squaresWithBit 18 = .ok (.ifCond .eq 13, 3) := by decide +kernel
theorem dBo_squaresWithBit_21 : decode cBo_squaresWithBit 21 = .ok (.lload_n 2, 1) := by decide +kernel
theorem dBo_squaresWithBit_22 : decode cBo_squaresWithBit 22 = .ok (.aload_n 0, 1) := by decide +kernel
theorem dBo_squaresWithBit_23 : decode cBo_squaresWithBit 23 = .ok (.getfield 15, 3) := by decide +kernel
theorem dBo_squaresWithBit_26 : decode cBo_squaresWithBit 26 = .ok (.iload 4, 2) := by decide +kernel
theorem dBo_squaresWithBit_28 : decode cBo_squaresWithBit 28 = .ok (.laload, 1) := by decide +kernel
theorem dBo_squaresWithBit_29 : decode cBo_squaresWithBit 29 = .ok (.lor, 1) := by decide +kernel
theorem dBo_squaresWithBit_30 : decode cBo_squaresWithBit 30 = .ok (.lstore_n 2, 1) := by decide +kernel
theorem dBo_squaresWithBit_31 : decode cBo_squaresWithBit 31 = .ok (.iinc 4 1, 3) := by decide +kernel
theorem dBo_squaresWithBit_34 : decode cBo_squaresWithBit 34 = .ok (.goto (-29), 3) := by decide +kernel
theorem dBo_squaresWithBit_37 : decode cBo_squaresWithBit 37 = .ok (.lload_n 2, 1) := by decide +kernel
theorem dBo_squaresWithBit_38 : decode cBo_squaresWithBit 38 = .ok (.lreturn, 1) := by decide +kernel

def f_Bo_squaresWithBit_5 (oS_sets : Nat → Int64) (bit : Int32) : Nat → Int64 → Int32 → Int64
  | 0 => fun _ _ => 0
  | n_5 + 1 => fun v2_5 v4_5 => (if 16 ≤ v4_5 then v2_5 else (if ((v4_5 >>> (bit &&& 31)) &&& 1) = 0 then (f_Bo_squaresWithBit_5 oS_sets bit n_5) v2_5 (v4_5 + 1) else (f_Bo_squaresWithBit_5 oS_sets bit n_5) (v2_5 ||| (oS_sets v4_5.toNatClampNeg)) (v4_5 + 1)))
theorem f_Bo_squaresWithBit_5_eq (oS_sets : Nat → Int64) (bit : Int32) (n_5 : Nat) (v2_5 : Int64) (v4_5 : Int32) : f_Bo_squaresWithBit_5 oS_sets bit (n_5 + 1) v2_5 v4_5 =
  (if 16 ≤ v4_5 then v2_5 else (if ((v4_5 >>> (bit &&& 31)) &&& 1) = 0 then (f_Bo_squaresWithBit_5 oS_sets bit n_5) v2_5 (v4_5 + 1) else (f_Bo_squaresWithBit_5 oS_sets bit n_5) (v2_5 ||| (oS_sets v4_5.toNatClampNeg)) (v4_5 + 1))) := rfl

def f_Bo_squaresWithBit (oS_sets : Nat → Int64) (bit : Int32) : Int64 :=
  f_Bo_squaresWithBit_5 oS_sets bit (16) 0 1
theorem f_Bo_squaresWithBit_eq (oS_sets : Nat → Int64) (bit : Int32) : f_Bo_squaresWithBit oS_sets bit =
  f_Bo_squaresWithBit_5 oS_sets bit (16) 0 1 := rfl

set_option maxHeartbeats 4000000 in
set_option maxRecDepth 100000 in
theorem c_Bo_squaresWithBit (l : Launch) (dC : Nat → ClassId) (dI : Nat → Nat → Nat) (cI cJ cC : ClassId) (ad : Nat → Nat) (o o_men o_sets : Nat) (oS_men : Nat → Int32) (oS_sets : Nat → Int64) (bit : Int32) : Met l yBo_squaresWithBit wsBo_squaresWithBit { frames := 0, cells := 0, slots := 0, locals := 0 } (roP dC dI (TYS cI cJ cC) [.ref o, .int bit] [(o, .inr (0, [.ref o_men, .ref o_sets])), (o_men, .inl (cI, 64, .inl oS_men)), (o_sets, .inl (cJ, 16, .inr (.inl oS_sets)))] (GS ad)) (vp_Sl (fun r => r = f_Bo_squaresWithBit oS_sets bit)) 0 0 (fun _ => False) := by
  refine Met.ofW (cc := cBo_squaresWithBit) (maxL := 5) (ret := (some .long)) (by decide) rfl ?_
  intro p e s m args below meth c s₁ B hml hv
  obtain ⟨rfl, hP, hK, hG⟩ := hv
  have hx := B.exec
  have hb := B.bytes
  have hr := B.returns
  have hB : ∀ w9 ∈ BIG, w9.before ([.ref o, .int bit]).toArray s = true := fun w9 h => atoms_spec (ws := wsBo_squaresWithBit) B.pre w9 (List.mem_cons_of_mem _ h)
  have hown : s.vm.findClass "ChessRules$Board" = some m.cls := findClass_of_methodNamed B.named
  have hlocks := B.notSynchronized
  have hS : va_S (fun _ => False) s.heap s.heap [] := va_S.rf
  have hP : va_P (dC, dI) vwCl [(o, .inr (0, [.ref o_men, .ref o_sets])), (o_men, .inl (cI, 64, .inl oS_men)), (o_sets, .inl (cJ, 16, .inr (.inl oS_sets)))] s.heap := hP
  have hl := lv_entry ([.ref o, .int bit]) (n := 5) (Nat.le_of_ble_eq_true rfl)
  rw [lg_entry_eq]
  generalize (lg_sl ([.ref o, .int bit]) ++ List.replicate (5 - (lg_sl ([.ref o, .int bit])).length) Slot.unset).toArray = ls at hl ⊢
  have hl : lv_has ls 5 [(0, .ref o), (1, .int bit)] := hl
  refine lv_lconst (v := 0) hx hb dBo_squaresWithBit_0 (by decide) ?_
  refine lv_lstore_n (lv' := [(2, .long 0), (0, .ref o), (1, .int bit)]) hx hb dBo_squaresWithBit_1 rfl hl (by decide) rfl (fun ls hl => ?_)
  refine lv_iconst (v := 1) hx hb dBo_squaresWithBit_2 (by decide) ?_
  refine lv_istore (lv' := [(4, .int 1), (2, .long 0), (0, .ref o), (1, .int bit)]) hx hb dBo_squaresWithBit_3 hl (by decide) rfl (fun ls hl => ?_)
  have J_5 : ∀ (n_5 : Nat) (v2_5 : Int64) (v4_5 : Int32), f_Bo_squaresWithBit oS_sets bit = f_Bo_squaresWithBit_5 oS_sets bit n_5 v2_5 v4_5 → ((1 : Int) ≤ v4_5.toInt ∧ (16 : Int32).toInt - v4_5.toInt + 1 ≤ (n_5 : Int) ∧ (1 : Int) ≤ (n_5 : Int)) → ∀ ls : Array Slot, lv_has ls 5 [(0, .ref o), (1, .int bit), (2, .long v2_5), (4, .int v4_5)] → W p l e (headSpec wsBo_squaresWithBit { frames := 0, cells := 0, slots := 0, locals := 0 }).room s m ([.ref o, .int bit]).toArray below meth c s.heap [] 0 0 (MQ below (vp_Sl (fun r => r = f_Bo_squaresWithBit oS_sets bit)) ([.ref o, .int bit]).toArray s 0 0 (fun _ => False)) (F0 m 5 ls []) := by
    intro n_5
    induction n_5 with
    | zero => intro v2_5 v4_5 _ hm_5; exact absurd hm_5 (by omega)
    | succ n_5 ih_5 =>
      intro v2_5 v4_5 he_5 hm_5 ls hl
      refine lv_iload hx hb dBo_squaresWithBit_5 (lv_at hl 3 rfl) ?_
      refine lv_bipush (v := 16) hx hb dBo_squaresWithBit_7 (by decide) ?_
      refine lv_icmp_ge (tgt := 37) hx hb dBo_squaresWithBit_9 (by decide) (fun c_1 => ?_) (fun c_1 => ?_)
      · refine lv_lload_n hx hb dBo_squaresWithBit_37 rfl (lv_at hl 2 rfl) ?_
        exact ro_retl hx hb hr hlocks dBo_squaresWithBit_38 (Eq.symm (he_5.trans (by rw [f_Bo_squaresWithBit_5_eq, if_pos c_1] <;> rfl)))
      · refine lv_iload hx hb dBo_squaresWithBit_12 (lv_at hl 3 rfl) ?_
        refine lv_iload_n hx hb dBo_squaresWithBit_14 rfl (lv_at hl 1 rfl) ?_
        refine lv_ishr hx hb dBo_squaresWithBit_15 ?_
        refine lv_iconst (v := 1) hx hb dBo_squaresWithBit_16 (by decide) ?_
        refine lv_iand hx hb dBo_squaresWithBit_17 ?_
        refine lv_if_eq (tgt := 31) hx hb dBo_squaresWithBit_18 (by decide) (fun c_2 => ?_) (fun c_2 => ?_)
        · refine lv_iinc (v := v4_5 + 1) (lv' := [(4, .int (v4_5 + 1)), (0, .ref o), (1, .int bit), (2, .long v2_5)]) hx hb dBo_squaresWithBit_31 hl (k := 3) rfl rfl (by decide) rfl (fun ls hl => ?_)
          refine lv_goto (tgt := 5) hx hb dBo_squaresWithBit_34 (by decide) ?_
          exact ih_5 v2_5 (v4_5 + 1) (he_5.trans (by rw [f_Bo_squaresWithBit_5_eq, if_neg c_1, if_pos c_2] <;> rfl)) (by have z1 := tnle c_1; have z2 := teq c_2; have y0 : (0 : Int32).toInt = 0 := rfl; have y1 : (1 : Int32).toInt = 1 := rfl; have y16 : (16 : Int32).toInt = 16 := rfl; have y31 : (31 : Int32).toInt = 31 := rfl; have zr := i_rng (16 : Int32); have zs := i_succ9 v4_5 (by omega); omega) ls (lv_sub hl [1, 2, 3, 0] rfl)
        · refine lv_lload_n hx hb dBo_squaresWithBit_21 rfl (lv_at hl 2 rfl) ?_
          refine lv_aload_n hx hb dBo_squaresWithBit_22 rfl (lv_at hl 0 rfl) ?_
          refine va_get (D := (dC, dI)) (ci := 0) (v := .ref o_sets) (C := RBo) (T := TBo) (N := 2) hx hb hB inBo hown hK hP 0 rfl rfl 1 (by decide) (hB _ q1_69) (fun _ h9 => h9) rfl dBo_squaresWithBit_23 ?_
          refine lv_iload hx hb dBo_squaresWithBit_26 (lv_at hl 3 rfl) ?_
          refine va_lald hx hb hK hP 2 1 rfl rfl (vp_in_iff.mpr (by have z1 := tnle c_1; have z2 := tne c_2; have y0 : (0 : Int32).toInt = 0 := rfl; have y1 : (1 : Int32).toInt = 1 := rfl; have y16 : (16 : Int32).toInt = 16 := rfl; have y31 : (31 : Int32).toInt = 31 := rfl; omega)) dBo_squaresWithBit_28 ?_
          refine lv_lor hx hb dBo_squaresWithBit_29 ?_
          refine lv_lstore_n (lv' := [(2, .long (v2_5 ||| (oS_sets v4_5.toNatClampNeg))), (0, .ref o), (1, .int bit), (4, .int v4_5)]) hx hb dBo_squaresWithBit_30 rfl hl (by decide) rfl (fun ls hl => ?_)
          refine lv_iinc (v := v4_5 + 1) (lv' := [(4, .int (v4_5 + 1)), (2, .long (v2_5 ||| (oS_sets v4_5.toNatClampNeg))), (0, .ref o), (1, .int bit)]) hx hb dBo_squaresWithBit_31 hl (k := 3) rfl rfl (by decide) rfl (fun ls hl => ?_)
          refine lv_goto (tgt := 5) hx hb dBo_squaresWithBit_34 (by decide) ?_
          exact ih_5 (v2_5 ||| (oS_sets v4_5.toNatClampNeg)) (v4_5 + 1) (he_5.trans (by rw [f_Bo_squaresWithBit_5_eq, if_neg c_1, if_neg c_2] <;> rfl)) (by have z1 := tnle c_1; have z2 := tne c_2; have y0 : (0 : Int32).toInt = 0 := rfl; have y1 : (1 : Int32).toInt = 1 := rfl; have y16 : (16 : Int32).toInt = 16 := rfl; have y31 : (31 : Int32).toInt = 31 := rfl; have zr := i_rng (16 : Int32); have zs := i_succ9 v4_5 (by omega); omega) ls (lv_sub hl [2, 3, 1, 0] rfl)
  exact J_5 (16) 0 1 (by rw [f_Bo_squaresWithBit_eq] <;> rfl) (by decide) ls (lv_sub hl [2, 3, 1, 0] rfl)

abbrev cLi_init : ByteArray := prog_4_method_1_code
def yLi_init : MethodName := ⟨"ChessRules$Line", "<init>", "()V"⟩
def wsLi_init : List Cond := Cond.code yLi_init cLi_init 1 none :: BIG
theorem dLi_init_0 : decode cLi_init 0 = .ok (.aload_n 0, 1) := by decide +kernel
theorem dLi_init_1 : decode cLi_init 1 = .ok (.invokespecial 3, 3) := by decide +kernel
theorem dLi_init_4 : decode cLi_init 4 = .ok (.aload_n 0, 1) := by decide +kernel
theorem dLi_init_5 : decode cLi_init 5 = .ok (.bipush 100, 2) := by decide +kernel
theorem dLi_init_7 : decode cLi_init 7 = .ok (.newarray .char, 2) := by decide +kernel
theorem dLi_init_9 : decode cLi_init 9 = .ok (.putfield 9, 3) := by decide +kernel
theorem dLi_init_12 : decode cLi_init 12 = .ok (.aload_n 0, 1) := by decide +kernel
theorem dLi_init_13 : decode cLi_init 13 = .ok (.iconst 0, 1) := by decide +kernel
theorem dLi_init_14 : decode cLi_init 14 = .ok (.putfield 15, 3) := by decide +kernel
theorem dLi_init_17 : decode cLi_init 17 = .ok (.return_, 1) := by decide +kernel

def f_Li_init : (Nat → Int32) × Int32 :=
  ((fun _ => 0), 0)
theorem f_Li_init_eq : f_Li_init =
  ((fun _ => 0), 0) := rfl

set_option maxHeartbeats 4000000 in
set_option maxRecDepth 100000 in
theorem c_Li_init (l : Launch) (dC : Nat → ClassId) (dI : Nat → Nat → Nat) (cI cJ cC : ClassId) (ad : Nat → Nat) (o : Nat) (sz : Nat) : Met l yLi_init wsLi_init { frames := 1, cells := 1, slots := 100, locals := 12 } (rwP dC dI (TYS cI cJ cC) [.ref o] [(o, .inr (2, [.null, .int 0]))] sz (GS ad)) (va_Qv (fun _ : Nat => True) (fun u9 => rwB dC dI (TYS cI cJ cC) [(o, .inr (2, [.ref u9, .int ((f_Li_init).2)])), (u9, .inl (cC, 100, .inl ((f_Li_init).1)))] (va_A [(o, .inr (2, [.null, .int 0]))] sz) ()) (va_A [(o, .inr (2, [.null, .int 0]))] sz)) 1 100 (va_A [(o, .inr (2, [.null, .int 0]))] sz) := by
  refine Met.ofW (cc := cLi_init) (maxL := 1) (ret := none) (by decide) rfl ?_
  intro p e s m args below meth c s₁ B hml hv
  obtain ⟨rfl, hsz, hP, hK, hD0, hG⟩ := hv
  have hx := B.exec
  have hb := B.bytes
  have hr := B.returns
  have hB : ∀ w9 ∈ BIG, w9.before ([.ref o]).toArray s = true := fun w9 h => atoms_spec (ws := wsLi_init) B.pre w9 (List.mem_cons_of_mem _ h)
  have hown : s.vm.findClass "ChessRules$Line" = some m.cls := findClass_of_methodNamed B.named
  have hlocks := B.notSynchronized
  have hin9 : meth.name = "<init>" := (name_of_methodNamed B.named B.method).1
  subst hsz
  have hD := hD0.self (sz := s.heap.size)
  generalize hAe : va_A [(o, .inr (2, [.null, .int 0]))] s.heap.size = A at hD hG ⊢
  have hA : ∀ q : Nat, s.heap.size ≤ q → A q := fun q h => by rw [← hAe]; exact Or.inr h
  have hS : va_S A s.heap s.heap [] := va_S.rf
  have hP : va_P (dC, dI) vwCl [(o, .inr (2, [.null, .int 0]))] s.heap := hP
  have hl := lv_entry ([.ref o]) (n := 1) (Nat.le_of_ble_eq_true rfl)
  rw [lg_entry_eq]
  generalize (lg_sl ([.ref o]) ++ List.replicate (1 - (lg_sl ([.ref o])).length) Slot.unset).toArray = ls at hl ⊢
  have hl : lv_has ls 1 [(0, .ref o)] := hl
  refine let_Q (P := fun Q9 => W p l e _ s m _ below meth c _ _ 0 0 Q9 _) (fun Q hQ => ?_)
  refine lv_aload_n hx hb dLi_init_0 rfl (lv_at hl 0 rfl) ?_
  refine W.objInit hx hb hown (hB _ q1_44) (hB _ q1_31) (hB _ q1_32) rfl (by rw [hml]; exact hl.1) rfl dLi_init_1 (Nat.le_of_ble_eq_true rfl) (Nat.le_of_ble_eq_true rfl) ?_
  refine W.eq (g2 := F0 m 4 ls []) rfl ?_
  refine lv_aload_n hx hb dLi_init_4 rfl (lv_at hl 0 rfl) ?_
  refine lv_bipush (v := 100) hx hb dLi_init_5 (by decide) ?_
  refine iv_newa (atype := .char) (ty := .char) (cA0 := cC) (a0 := (100, .inl (fun _ => 0))) (N' := 100) (rest := [.ref o]) hx hb (hB _ q1_54) rfl (hK.2 2 _ rfl).2 hP hD hS hA (fun _ => rfl) (by decide) (by decide) (by decide) (Nat.le_of_ble_eq_true rfl) (Nat.le_of_ble_eq_true rfl) dLi_init_7 (fun o_characters H hP hD hS => ?_)
  have hP : va_P (dC, dI) vwCl [(o, .inr (2, [.null, .int 0])), (o_characters, .inl (cC, 100, .inl (fun _ => 0)))] H := hP
  have hD : va_D A [(o, .inr (2, [.null, .int 0])), (o_characters, .inl (cC, 100, .inl (fun _ => 0)))] := hD
  refine va_putF (D := (dC, dI)) (ci := 2) (v := .ref o_characters) (ty := .array .char) (C := RLi) (T := TLi) (N := 2) hx hb hB inLi tyLi tyLi_ok nmLi hown hK hP hD hS 0 rfl rfl 0 (by decide) (hB _ q1_45) (fun _ h9 => h9) rfl hin9 rfl (by decide +kernel) rfl rfl (Nat.le_of_ble_eq_true rfl) dLi_init_9 (fun H locs hP hD hS => ?_)
  have hP : va_P (dC, dI) vwCl [(o, .inr (2, [.ref o_characters, .int 0])), (o_characters, .inl (cC, 100, .inl (fun _ => 0)))] H := hP
  have hD : va_D A [(o, .inr (2, [.ref o_characters, .int 0])), (o_characters, .inl (cC, 100, .inl (fun _ => 0)))] := hD
  refine lv_aload_n hx hb dLi_init_12 rfl (lv_at hl 0 rfl) ?_
  refine lv_iconst (v := 0) hx hb dLi_init_13 (by decide) ?_
  refine va_put (D := (dC, dI)) (ci := 2) (v := .int 0) (ty := .int) (C := RLi) (T := TLi) (N := 2) hx hb hB inLi tyLi tyLi_ok nmLi hown hK hP hD hS 0 rfl rfl 1 (by decide) (hB _ q1_46) (fun _ h9 => h9) rfl (by decide +kernel) rfl rfl (Nat.le_of_ble_eq_true rfl) dLi_init_14 (fun H locs hP hD hS => ?_)
  have hP : va_P (dC, dI) vwCl [(o, .inr (2, [.ref o_characters, .int 0])), (o_characters, .inl (cC, 100, .inl (fun _ => 0)))] H := hP
  have hD : va_D A [(o, .inr (2, [.ref o_characters, .int 0])), (o_characters, .inl (cC, 100, .inl (fun _ => 0)))] := hD
  have hv : f_Li_init = ((fun _ => 0), 0) := (by rw [f_Li_init_eq] <;> rfl)
  have hP9 : va_P (dC, dI) vwCl [(o, .inr (2, [.ref o_characters, .int ((f_Li_init).2)])), (o_characters, .inl (cC, 100, .inl ((f_Li_init).1)))] H := by first | (rw [hv]; exact hP.sub [0, 1] rfl) | exact hP.sub [0, 1] rfl
  have hD9 : va_D A [(o, .inr (2, [.ref o_characters, .int ((f_Li_init).2)])), (o_characters, .inl (cC, 100, .inl ((f_Li_init).1)))] := by first | (rw [hv]; exact hD.sub [0, 1] (by decide) rfl) | exact hD.sub [0, 1] (by decide) rfl
  rw [hQ]; exact W.vret hx hb hr (fun t9 ht9 hW9 => ⟨⟨o_characters, rfl, trivial, by rw [ht9]; exact hP9, va_K.moved hW9.alike hK, hD9⟩, hS.F ht9⟩) hS.2.2 dLi_init_17 hlocks

abbrev cBo_init : ByteArray := prog_2_method_1_code
def yBo_init : MethodName := ⟨"ChessRules$Board", "<init>", "()V"⟩
def wsBo_init : List Cond := Cond.code yBo_init cBo_init 1 none :: BIG
theorem dBo_init_0 : decode cBo_init 0 = .ok (.aload_n 0, 1) := by decide +kernel
theorem dBo_init_1 : decode cBo_init 1 = .ok (.invokespecial 3, 3) := by decide +kernel
theorem dBo_init_4 : decode cBo_init 4 = .ok (.aload_n 0, 1) := by decide +kernel
theorem dBo_init_5 : decode cBo_init 5 = .ok (.bipush 64, 2) := by decide +kernel
theorem dBo_init_7 : decode cBo_init 7 = .ok (.newarray .int, 2) := by decide +kernel
theorem dBo_init_9 : decode cBo_init 9 = .ok (.putfield 9, 3) := by decide +kernel
theorem dBo_init_12 : decode cBo_init 12 = .ok (.aload_n 0, 1) := by decide +kernel
theorem dBo_init_13 : decode cBo_init 13 = .ok (.bipush 16, 2) := by decide +kernel
theorem dBo_init_15 : decode cBo_init 15 = .ok (.newarray .long, 2) := by decide +kernel
theorem dBo_init_17 : decode cBo_init 17 = .ok (.putfield 15, 3) := by decide +kernel
theorem dBo_init_20 : decode cBo_init 20 = .ok (.aload_n 0, 1) := by decide +kernel
theorem dBo_init_21 : decode cBo_init 21 = .ok (.getfield 15, 3) := by decide +kernel
theorem dBo_init_24 : decode cBo_init 24 = .ok (.iconst 0, 1) := by decide +kernel
theorem dBo_init_25 : decode cBo_init 25 = .ok (.ldc2_w 19, 3) := by decide +kernel
theorem dBo_init_28 : decode cBo_init 28 = .ok (.lastore, 1) := by decide +kernel
theorem dBo_init_29 : decode cBo_init 29 = .ok (.return_, 1) := by decide +kernel

def f_Bo_init : (Nat → Int32) × (Nat → Int64) :=
  ((fun _ => 0), vp_updL (fun _ => 0) (0 : Int32).toNatClampNeg (-1))
theorem f_Bo_init_eq : f_Bo_init =
  ((fun _ => 0), vp_updL (fun _ => 0) (0 : Int32).toNatClampNeg (-1)) := rfl

set_option maxHeartbeats 4000000 in
set_option maxRecDepth 100000 in
theorem c_Bo_init (l : Launch) (dC : Nat → ClassId) (dI : Nat → Nat → Nat) (cI cJ cC : ClassId) (ad : Nat → Nat) (o : Nat) (sz : Nat) : Met l yBo_init wsBo_init { frames := 1, cells := 2, slots := 80, locals := 12 } (rwP dC dI (TYS cI cJ cC) [.ref o] [(o, .inr (0, [.null, .null]))] sz (GS ad)) (va_Qv (fun _ : Nat × Nat => True) (fun u9 => rwB dC dI (TYS cI cJ cC) [(o, .inr (0, [.ref u9.1, .ref u9.2])), (u9.1, .inl (cI, 64, .inl ((f_Bo_init).1))), (u9.2, .inl (cJ, 16, .inr (.inl ((f_Bo_init).2))))] (va_A [(o, .inr (0, [.null, .null]))] sz) ()) (va_A [(o, .inr (0, [.null, .null]))] sz)) 2 80 (va_A [(o, .inr (0, [.null, .null]))] sz) := by
  refine Met.ofW (cc := cBo_init) (maxL := 1) (ret := none) (by decide) rfl ?_
  intro p e s m args below meth c s₁ B hml hv
  obtain ⟨rfl, hsz, hP, hK, hD0, hG⟩ := hv
  have hx := B.exec
  have hb := B.bytes
  have hr := B.returns
  have hB : ∀ w9 ∈ BIG, w9.before ([.ref o]).toArray s = true := fun w9 h => atoms_spec (ws := wsBo_init) B.pre w9 (List.mem_cons_of_mem _ h)
  have hown : s.vm.findClass "ChessRules$Board" = some m.cls := findClass_of_methodNamed B.named
  have hlocks := B.notSynchronized
  have hin9 : meth.name = "<init>" := (name_of_methodNamed B.named B.method).1
  subst hsz
  have hD := hD0.self (sz := s.heap.size)
  generalize hAe : va_A [(o, .inr (0, [.null, .null]))] s.heap.size = A at hD hG ⊢
  have hA : ∀ q : Nat, s.heap.size ≤ q → A q := fun q h => by rw [← hAe]; exact Or.inr h
  have hS : va_S A s.heap s.heap [] := va_S.rf
  have hP : va_P (dC, dI) vwCl [(o, .inr (0, [.null, .null]))] s.heap := hP
  have hl := lv_entry ([.ref o]) (n := 1) (Nat.le_of_ble_eq_true rfl)
  rw [lg_entry_eq]
  generalize (lg_sl ([.ref o]) ++ List.replicate (1 - (lg_sl ([.ref o])).length) Slot.unset).toArray = ls at hl ⊢
  have hl : lv_has ls 1 [(0, .ref o)] := hl
  refine let_Q (P := fun Q9 => W p l e _ s m _ below meth c _ _ 0 0 Q9 _) (fun Q hQ => ?_)
  refine lv_aload_n hx hb dBo_init_0 rfl (lv_at hl 0 rfl) ?_
  refine W.objInit hx hb hown (hB _ q1_66) (hB _ q1_31) (hB _ q1_32) rfl (by rw [hml]; exact hl.1) rfl dBo_init_1 (Nat.le_of_ble_eq_true rfl) (Nat.le_of_ble_eq_true rfl) ?_
  refine W.eq (g2 := F0 m 4 ls []) rfl ?_
  refine lv_aload_n hx hb dBo_init_4 rfl (lv_at hl 0 rfl) ?_
  refine lv_bipush (v := 64) hx hb dBo_init_5 (by decide) ?_
  refine iv_newa (atype := .int) (ty := .int) (cA0 := cI) (a0 := (64, .inl (fun _ => 0))) (N' := 64) (rest := [.ref o]) hx hb (hB _ q1_75) rfl (hK.2 0 _ rfl).2 hP hD hS hA (fun _ => rfl) (by decide) (by decide) (by decide) (Nat.le_of_ble_eq_true rfl) (Nat.le_of_ble_eq_true rfl) dBo_init_7 (fun o_men H hP hD hS => ?_)
  have hP : va_P (dC, dI) vwCl [(o, .inr (0, [.null, .null])), (o_men, .inl (cI, 64, .inl (fun _ => 0)))] H := hP
  have hD : va_D A [(o, .inr (0, [.null, .null])), (o_men, .inl (cI, 64, .inl (fun _ => 0)))] := hD
  refine va_putF (D := (dC, dI)) (ci := 0) (v := .ref o_men) (ty := .array .int) (C := RBo) (T := TBo) (N := 2) hx hb hB inBo tyBo tyBo_ok nmBo hown hK hP hD hS 0 rfl rfl 0 (by decide) (hB _ q1_68) (fun _ h9 => h9) rfl hin9 rfl (by decide +kernel) rfl rfl (Nat.le_of_ble_eq_true rfl) dBo_init_9 (fun H locs hP hD hS => ?_)
  have hP : va_P (dC, dI) vwCl [(o, .inr (0, [.ref o_men, .null])), (o_men, .inl (cI, 64, .inl (fun _ => 0)))] H := hP
  have hD : va_D A [(o, .inr (0, [.ref o_men, .null])), (o_men, .inl (cI, 64, .inl (fun _ => 0)))] := hD
  refine lv_aload_n hx hb dBo_init_12 rfl (lv_at hl 0 rfl) ?_
  refine lv_bipush (v := 16) hx hb dBo_init_13 (by decide) ?_
  refine iv_newa (atype := .long) (ty := .long) (cA0 := cJ) (a0 := (16, .inr (.inl (fun _ => 0)))) (N' := 16) (rest := [.ref o]) hx hb (hB _ q1_76) rfl (hK.2 1 _ rfl).2 hP hD hS hA (fun _ => rfl) (by decide) (by decide) (by decide) (Nat.le_of_ble_eq_true rfl) (Nat.le_of_ble_eq_true rfl) dBo_init_15 (fun o_sets H hP hD hS => ?_)
  have hP : va_P (dC, dI) vwCl [(o, .inr (0, [.ref o_men, .null])), (o_men, .inl (cI, 64, .inl (fun _ => 0))), (o_sets, .inl (cJ, 16, .inr (.inl (fun _ => 0))))] H := hP
  have hD : va_D A [(o, .inr (0, [.ref o_men, .null])), (o_men, .inl (cI, 64, .inl (fun _ => 0))), (o_sets, .inl (cJ, 16, .inr (.inl (fun _ => 0))))] := hD
  refine va_putF (D := (dC, dI)) (ci := 0) (v := .ref o_sets) (ty := .array .long) (C := RBo) (T := TBo) (N := 2) hx hb hB inBo tyBo tyBo_ok nmBo hown hK hP hD hS 0 rfl rfl 1 (by decide) (hB _ q1_69) (fun _ h9 => h9) rfl hin9 rfl (by decide +kernel) rfl rfl (Nat.le_of_ble_eq_true rfl) dBo_init_17 (fun H locs hP hD hS => ?_)
  have hP : va_P (dC, dI) vwCl [(o, .inr (0, [.ref o_men, .ref o_sets])), (o_men, .inl (cI, 64, .inl (fun _ => 0))), (o_sets, .inl (cJ, 16, .inr (.inl (fun _ => 0))))] H := hP
  have hD : va_D A [(o, .inr (0, [.ref o_men, .ref o_sets])), (o_men, .inl (cI, 64, .inl (fun _ => 0))), (o_sets, .inl (cJ, 16, .inr (.inl (fun _ => 0))))] := hD
  refine lv_aload_n hx hb dBo_init_20 rfl (lv_at hl 0 rfl) ?_
  refine va_get (D := (dC, dI)) (ci := 0) (v := .ref o_sets) (C := RBo) (T := TBo) (N := 2) hx hb hB inBo hown hK hP 0 rfl rfl 1 (by decide) (hB _ q1_69) (fun _ h9 => h9) rfl dBo_init_21 ?_
  refine lv_iconst (v := 0) hx hb dBo_init_24 (by decide) ?_
  refine lv_ldc2 (v := (-1)) hx hb hown (hB _ q1_67) dBo_init_25 ?_
  refine va_last hx hb hK hP hD hS 2 1 rfl rfl (vp_in_nI (n := 0) (by decide) (by decide)) dBo_init_28 (fun H locs hP hD hS => ?_)
  have hP : va_P (dC, dI) vwCl [(o, .inr (0, [.ref o_men, .ref o_sets])), (o_men, .inl (cI, 64, .inl (fun _ => 0))), (o_sets, .inl (cJ, 16, .inr (.inl (vp_updL (fun _ => 0) (0 : Int32).toNatClampNeg (-1)))))] H := hP
  have hD : va_D A [(o, .inr (0, [.ref o_men, .ref o_sets])), (o_men, .inl (cI, 64, .inl (fun _ => 0))), (o_sets, .inl (cJ, 16, .inr (.inl (vp_updL (fun _ => 0) (0 : Int32).toNatClampNeg (-1)))))] := hD
  have hv : f_Bo_init = ((fun _ => 0), vp_updL (fun _ => 0) (0 : Int32).toNatClampNeg (-1)) := (by rw [f_Bo_init_eq] <;> rfl)
  have hP9 : va_P (dC, dI) vwCl [(o, .inr (0, [.ref o_men, .ref o_sets])), (o_men, .inl (cI, 64, .inl ((f_Bo_init).1))), (o_sets, .inl (cJ, 16, .inr (.inl ((f_Bo_init).2))))] H := by first | (rw [hv]; exact hP.sub [0, 1, 2] rfl) | exact hP.sub [0, 1, 2] rfl
  have hD9 : va_D A [(o, .inr (0, [.ref o_men, .ref o_sets])), (o_men, .inl (cI, 64, .inl ((f_Bo_init).1))), (o_sets, .inl (cJ, 16, .inr (.inl ((f_Bo_init).2))))] := by first | (rw [hv]; exact hD.sub [0, 1, 2] (by decide) rfl) | exact hD.sub [0, 1, 2] (by decide) rfl
  rw [hQ]; exact W.vret hx hb hr (fun t9 ht9 hW9 => ⟨⟨(o_men, o_sets), rfl, trivial, by rw [ht9]; exact hP9, va_K.moved hW9.alike hK, hD9⟩, hS.F ht9⟩) hS.2.2 dBo_init_29 hlocks

abbrev cPo_init : ByteArray := prog_5_method_1_code
def yPo_init : MethodName := ⟨"ChessRules$Position", "<init>", "()V"⟩
def wsPo_init : List Cond := Cond.code yPo_init cPo_init 1 none :: BIG
theorem dPo_init_0 : decode cPo_init 0 = .ok (.aload_n 0, 1) := by decide +kernel
theorem dPo_init_1 : decode cPo_init 1 = .ok (.invokespecial 3, 3) := by decide +kernel
theorem dPo_init_4 : decode cPo_init 4 = .ok (.aload_n 0, 1) := by decide +kernel
theorem dPo_init_5 : decode cPo_init 5 = .ok (.new 9, 3) := by decide +kernel
theorem dPo_init_8 : decode cPo_init 8 = .ok (.dup, 1) := by decide +kernel
theorem dPo_init_9 : decode cPo_init 9 = .ok (.invokespecial 11, 3) := by decide +kernel
theorem dPo_init_12 : decode cPo_init 12 = .ok (.putfield 12, 3) := by decide +kernel
theorem dPo_init_15 : decode cPo_init 15 = .ok (.aload_n 0, 1) := by decide +kernel
theorem dPo_init_16 : decode cPo_init 16 = .ok (.iconst 0, 1) := by decide +kernel
theorem dPo_init_17 : decode cPo_init 17 = .ok (.putfield 18, 3) := by decide +kernel
theorem dPo_init_20 : decode cPo_init 20 = .ok (.aload_n 0, 1) := by decide +kernel
theorem dPo_init_21 : decode cPo_init 21 = .ok (.iconst 0, 1) := by decide +kernel
theorem dPo_init_22 : decode cPo_init 22 = .ok (.putfield 22, 3) := by decide +kernel
theorem dPo_init_25 : decode cPo_init 25 = .ok (.aload_n 0, 1) := by decide +kernel
theorem dPo_init_26 : decode cPo_init 26 = .ok (.iconst (-1), 1) := by decide +kernel
theorem dPo_init_27 : decode cPo_init 27 = .ok (.putfield 25, 3) := by decide +kernel
theorem dPo_init_30 : decode cPo_init 30 = .ok (.aload_n 0, 1) := by decide +kernel
theorem dPo_init_31 : decode cPo_init 31 = .ok (.iconst 0, 1) := by decide +kernel
theorem dPo_init_32 : decode cPo_init 32 = .ok (.putfield 28, 3) := by decide +kernel
theorem dPo_init_35 : decode cPo_init 35 = .ok (.aload_n 0, 1) := by decide +kernel
theorem dPo_init_36 : decode cPo_init 36 = .ok (.iconst 1, 1) := by decide +kernel
theorem dPo_init_37 : decode cPo_init 37 = .ok (.putfield 31, 3) := by decide +kernel
theorem dPo_init_40 : decode cPo_init 40 = .ok (.return_, 1) := by decide +kernel

def f_Po_init : St_Bo × Int32 × Int32 × Int32 × Int32 × Int32 :=
  (f_Bo_init, 0, 0, (-1), 0, 1)
theorem f_Po_init_eq : f_Po_init =
  (f_Bo_init, 0, 0, (-1), 0, 1) := rfl

set_option maxHeartbeats 4000000 in
set_option maxRecDepth 100000 in
theorem c_Po_init (l : Launch) (dC : Nat → ClassId) (dI : Nat → Nat → Nat) (cI cJ cC : ClassId) (ad : Nat → Nat) (o : Nat) (sz : Nat) : Met l yPo_init wsPo_init { frames := 2, cells := 3, slots := 82, locals := 32 } (rwP dC dI (TYS cI cJ cC) [.ref o] [(o, .inr (3, [.null, .int 0, .int 0, .int 0, .int 0, .int 0]))] sz (GS ad)) (va_Qv (fun _ : Nat × Nat × Nat => True) (fun u9 => rwB dC dI (TYS cI cJ cC) [(o, .inr (3, [.ref u9.1, .int ((f_Po_init).2.1), .int ((f_Po_init).2.2.1), .int ((f_Po_init).2.2.2.1), .int ((f_Po_init).2.2.2.2.1), .int ((f_Po_init).2.2.2.2.2)])), (u9.1, .inr (0, [.ref u9.2.1, .ref u9.2.2])), (u9.2.1, .inl (cI, 64, .inl (((f_Po_init).1).1))), (u9.2.2, .inl (cJ, 16, .inr (.inl (((f_Po_init).1).2))))] (va_A [(o, .inr (3, [.null, .int 0, .int 0, .int 0, .int 0, .int 0]))] sz) ()) (va_A [(o, .inr (3, [.null, .int 0, .int 0, .int 0, .int 0, .int 0]))] sz)) 3 82 (va_A [(o, .inr (3, [.null, .int 0, .int 0, .int 0, .int 0, .int 0]))] sz) := by
  refine Met.ofW (cc := cPo_init) (maxL := 1) (ret := none) (by decide) rfl ?_
  intro p e s m args below meth c s₁ B hml hv
  obtain ⟨rfl, hsz, hP, hK, hD0, hG⟩ := hv
  have hx := B.exec
  have hb := B.bytes
  have hr := B.returns
  have hB : ∀ w9 ∈ BIG, w9.before ([.ref o]).toArray s = true := fun w9 h => atoms_spec (ws := wsPo_init) B.pre w9 (List.mem_cons_of_mem _ h)
  have hown : s.vm.findClass "ChessRules$Position" = some m.cls := findClass_of_methodNamed B.named
  have hlocks := B.notSynchronized
  have hin9 : meth.name = "<init>" := (name_of_methodNamed B.named B.method).1
  subst hsz
  have hD := hD0.self (sz := s.heap.size)
  generalize hAe : va_A [(o, .inr (3, [.null, .int 0, .int 0, .int 0, .int 0, .int 0]))] s.heap.size = A at hD hG ⊢
  have hA : ∀ q : Nat, s.heap.size ≤ q → A q := fun q h => by rw [← hAe]; exact Or.inr h
  have hS : va_S A s.heap s.heap [] := va_S.rf
  have hP : va_P (dC, dI) vwCl [(o, .inr (3, [.null, .int 0, .int 0, .int 0, .int 0, .int 0]))] s.heap := hP
  have hl := lv_entry ([.ref o]) (n := 1) (Nat.le_of_ble_eq_true rfl)
  rw [lg_entry_eq]
  generalize (lg_sl ([.ref o]) ++ List.replicate (1 - (lg_sl ([.ref o])).length) Slot.unset).toArray = ls at hl ⊢
  have hl : lv_has ls 1 [(0, .ref o)] := hl
  refine let_Q (P := fun Q9 => W p l e _ s m _ below meth c _ _ 0 0 Q9 _) (fun Q hQ => ?_)
  refine lv_aload_n hx hb dPo_init_0 rfl (lv_at hl 0 rfl) ?_
  refine W.objInit hx hb hown (hB _ q1_60) (hB _ q1_31) (hB _ q1_32) rfl (by rw [hml]; exact hl.1) rfl dPo_init_1 (Nat.le_of_ble_eq_true rfl) (Nat.le_of_ble_eq_true rfl) ?_
  refine W.eq (g2 := F0 m 4 ls []) rfl ?_
  refine lv_aload_n hx hb dPo_init_4 rfl (lv_at hl 0 rfl) ?_
  refine va_new (D := (dC, dI)) (ci := 0) (fs := [.null, .null]) (C := RBo) (T := TBo) (N := 2) hx hb hB inBo tyBo tyBo_ok hown (hB _ q1_61) (hB _ q1_62) (hB _ q1_5) hK hP hD hS hA rfl (fun j hj => by rcases (show j = 0 ∨ j = 1 by omega) with rfl | rfl <;> rfl) (Nat.le_of_ble_eq_true rfl) (Nat.le_of_ble_eq_true rfl) dPo_init_5 (fun o_board H hP hD hS => ?_)
  have hP : va_P (dC, dI) vwCl [(o, .inr (3, [.null, .int 0, .int 0, .int 0, .int 0, .int 0])), (o_board, .inr (0, [.null, .null]))] H := hP
  have hD : va_D A [(o, .inr (3, [.null, .int 0, .int 0, .int 0, .int 0, .int 0])), (o_board, .inr (0, [.null, .null]))] := hD
  refine lv_dup hx hb dPo_init_8 rfl ?_
  refine iv_go (wr := [(o, .inr (3, [.null, .int 0, .int 0, .int 0, .int 0, .int 0]))]) (va_runIN (As := []) (rest := [.ref o_board, .ref o]) ⟨hx, hb, hml, hown, hB⟩ (c_Bo_init l dC dI cI cJ cC ad o_board H.size) ⟨va_cnB 0 hB (big_self q1_65) rfl rfl rfl (hG.1 _ q1_63) (hB _ q1_5) (by decide +kernel) ⟨Nat.le_of_ble_eq_true rfl, Nat.le_of_ble_eq_true rfl⟩, rfl, (hB _ q1_64)⟩ (rw_preS (As := [.ref o_board]) (GS_ok ad) hK hP hD hA hG hS [1] (by decide) rfl rfl) rfl rfl hl.1 rfl (lv_room (Nat.le_of_ble_eq_true rfl)) dPo_init_9 ⟨Nat.le_of_ble_eq_true rfl, Nat.le_of_ble_eq_true rfl⟩) hP hD hS hA [1] [0] rfl rfl (by decide) (by decide) (fun u9 H locs hP hD hS => ?_)
  obtain ⟨o_board_men, o_board_sets⟩ := u9
  have hP : va_P (dC, dI) vwCl [(o, .inr (3, [.null, .int 0, .int 0, .int 0, .int 0, .int 0])), (o_board, .inr (0, [.ref o_board_men, .ref o_board_sets])), (o_board_men, .inl (cI, 64, .inl f_Bo_init.1)), (o_board_sets, .inl (cJ, 16, .inr (.inl f_Bo_init.2)))] H := hP
  have hD : va_D A [(o, .inr (3, [.null, .int 0, .int 0, .int 0, .int 0, .int 0])), (o_board, .inr (0, [.ref o_board_men, .ref o_board_sets])), (o_board_men, .inl (cI, 64, .inl f_Bo_init.1)), (o_board_sets, .inl (cJ, 16, .inr (.inl f_Bo_init.2)))] := hD
  refine va_putF (D := (dC, dI)) (ci := 3) (v := .ref o_board) (ty := .object "ChessRules$Board") (C := RPo) (T := TPo) (N := 6) hx hb hB inPo tyPo tyPo_ok nmPo hown hK hP hD hS 0 rfl rfl 0 (by decide) (hB _ q1_77) (fun _ h9 => h9) rfl hin9 rfl (by decide +kernel) rfl rfl (Nat.le_of_ble_eq_true rfl) dPo_init_12 (fun H locs hP hD hS => ?_)
  have hP : va_P (dC, dI) vwCl [(o, .inr (3, [.ref o_board, .int 0, .int 0, .int 0, .int 0, .int 0])), (o_board, .inr (0, [.ref o_board_men, .ref o_board_sets])), (o_board_men, .inl (cI, 64, .inl f_Bo_init.1)), (o_board_sets, .inl (cJ, 16, .inr (.inl f_Bo_init.2)))] H := hP
  have hD : va_D A [(o, .inr (3, [.ref o_board, .int 0, .int 0, .int 0, .int 0, .int 0])), (o_board, .inr (0, [.ref o_board_men, .ref o_board_sets])), (o_board_men, .inl (cI, 64, .inl f_Bo_init.1)), (o_board_sets, .inl (cJ, 16, .inr (.inl f_Bo_init.2)))] := hD
  refine lv_aload_n hx hb dPo_init_15 rfl (lv_at hl 0 rfl) ?_
  refine lv_iconst (v := 0) hx hb dPo_init_16 (by decide) ?_
  refine va_put (D := (dC, dI)) (ci := 3) (v := .int 0) (ty := .int) (C := RPo) (T := TPo) (N := 6) hx hb hB inPo tyPo tyPo_ok nmPo hown hK hP hD hS 0 rfl rfl 1 (by decide) (hB _ q1_83) (fun _ h9 => h9) rfl (by decide +kernel) rfl rfl (Nat.le_of_ble_eq_true rfl) dPo_init_17 (fun H locs hP hD hS => ?_)
  have hP : va_P (dC, dI) vwCl [(o, .inr (3, [.ref o_board, .int 0, .int 0, .int 0, .int 0, .int 0])), (o_board, .inr (0, [.ref o_board_men, .ref o_board_sets])), (o_board_men, .inl (cI, 64, .inl f_Bo_init.1)), (o_board_sets, .inl (cJ, 16, .inr (.inl f_Bo_init.2)))] H := hP
  have hD : va_D A [(o, .inr (3, [.ref o_board, .int 0, .int 0, .int 0, .int 0, .int 0])), (o_board, .inr (0, [.ref o_board_men, .ref o_board_sets])), (o_board_men, .inl (cI, 64, .inl f_Bo_init.1)), (o_board_sets, .inl (cJ, 16, .inr (.inl f_Bo_init.2)))] := hD
  refine lv_aload_n hx hb dPo_init_20 rfl (lv_at hl 0 rfl) ?_
  refine lv_iconst (v := 0) hx hb dPo_init_21 (by decide) ?_
  refine va_put (D := (dC, dI)) (ci := 3) (v := .int 0) (ty := .int) (C := RPo) (T := TPo) (N := 6) hx hb hB inPo tyPo tyPo_ok nmPo hown hK hP hD hS 0 rfl rfl 2 (by decide) (hB _ q1_89) (fun _ h9 => h9) rfl (by decide +kernel) rfl rfl (Nat.le_of_ble_eq_true rfl) dPo_init_22 (fun H locs hP hD hS => ?_)
  have hP : va_P (dC, dI) vwCl [(o, .inr (3, [.ref o_board, .int 0, .int 0, .int 0, .int 0, .int 0])), (o_board, .inr (0, [.ref o_board_men, .ref o_board_sets])), (o_board_men, .inl (cI, 64, .inl f_Bo_init.1)), (o_board_sets, .inl (cJ, 16, .inr (.inl f_Bo_init.2)))] H := hP
  have hD : va_D A [(o, .inr (3, [.ref o_board, .int 0, .int 0, .int 0, .int 0, .int 0])), (o_board, .inr (0, [.ref o_board_men, .ref o_board_sets])), (o_board_men, .inl (cI, 64, .inl f_Bo_init.1)), (o_board_sets, .inl (cJ, 16, .inr (.inl f_Bo_init.2)))] := hD
  refine lv_aload_n hx hb dPo_init_25 rfl (lv_at hl 0 rfl) ?_
  refine lv_iconst (v := (-1)) hx hb dPo_init_26 (by decide) ?_
  refine va_put (D := (dC, dI)) (ci := 3) (v := .int (-1)) (ty := .int) (C := RPo) (T := TPo) (N := 6) hx hb hB inPo tyPo tyPo_ok nmPo hown hK hP hD hS 0 rfl rfl 3 (by decide) (hB _ q1_94) (fun _ h9 => h9) rfl (by decide +kernel) rfl rfl (Nat.le_of_ble_eq_true rfl) dPo_init_27 (fun H locs hP hD hS => ?_)
  have hP : va_P (dC, dI) vwCl [(o, .inr (3, [.ref o_board, .int 0, .int 0, .int (-1), .int 0, .int 0])), (o_board, .inr (0, [.ref o_board_men, .ref o_board_sets])), (o_board_men, .inl (cI, 64, .inl f_Bo_init.1)), (o_board_sets, .inl (cJ, 16, .inr (.inl f_Bo_init.2)))] H := hP
  have hD : va_D A [(o, .inr (3, [.ref o_board, .int 0, .int 0, .int (-1), .int 0, .int 0])), (o_board, .inr (0, [.ref o_board_men, .ref o_board_sets])), (o_board_men, .inl (cI, 64, .inl f_Bo_init.1)), (o_board_sets, .inl (cJ, 16, .inr (.inl f_Bo_init.2)))] := hD
  refine lv_aload_n hx hb dPo_init_30 rfl (lv_at hl 0 rfl) ?_
  refine lv_iconst (v := 0) hx hb dPo_init_31 (by decide) ?_
  refine va_put (D := (dC, dI)) (ci := 3) (v := .int 0) (ty := .int) (C := RPo) (T := TPo) (N := 6) hx hb hB inPo tyPo tyPo_ok nmPo hown hK hP hD hS 0 rfl rfl 4 (by decide) (hB _ q1_98) (fun _ h9 => h9) rfl (by decide +kernel) rfl rfl (Nat.le_of_ble_eq_true rfl) dPo_init_32 (fun H locs hP hD hS => ?_)
  have hP : va_P (dC, dI) vwCl [(o, .inr (3, [.ref o_board, .int 0, .int 0, .int (-1), .int 0, .int 0])), (o_board, .inr (0, [.ref o_board_men, .ref o_board_sets])), (o_board_men, .inl (cI, 64, .inl f_Bo_init.1)), (o_board_sets, .inl (cJ, 16, .inr (.inl f_Bo_init.2)))] H := hP
  have hD : va_D A [(o, .inr (3, [.ref o_board, .int 0, .int 0, .int (-1), .int 0, .int 0])), (o_board, .inr (0, [.ref o_board_men, .ref o_board_sets])), (o_board_men, .inl (cI, 64, .inl f_Bo_init.1)), (o_board_sets, .inl (cJ, 16, .inr (.inl f_Bo_init.2)))] := hD
  refine lv_aload_n hx hb dPo_init_35 rfl (lv_at hl 0 rfl) ?_
  refine lv_iconst (v := 1) hx hb dPo_init_36 (by decide) ?_
  refine va_put (D := (dC, dI)) (ci := 3) (v := .int 1) (ty := .int) (C := RPo) (T := TPo) (N := 6) hx hb hB inPo tyPo tyPo_ok nmPo hown hK hP hD hS 0 rfl rfl 5 (by decide) (hB _ q1_103) (fun _ h9 => h9) rfl (by decide +kernel) rfl rfl (Nat.le_of_ble_eq_true rfl) dPo_init_37 (fun H locs hP hD hS => ?_)
  have hP : va_P (dC, dI) vwCl [(o, .inr (3, [.ref o_board, .int 0, .int 0, .int (-1), .int 0, .int 1])), (o_board, .inr (0, [.ref o_board_men, .ref o_board_sets])), (o_board_men, .inl (cI, 64, .inl f_Bo_init.1)), (o_board_sets, .inl (cJ, 16, .inr (.inl f_Bo_init.2)))] H := hP
  have hD : va_D A [(o, .inr (3, [.ref o_board, .int 0, .int 0, .int (-1), .int 0, .int 1])), (o_board, .inr (0, [.ref o_board_men, .ref o_board_sets])), (o_board_men, .inl (cI, 64, .inl f_Bo_init.1)), (o_board_sets, .inl (cJ, 16, .inr (.inl f_Bo_init.2)))] := hD
  have hv : f_Po_init = (f_Bo_init, 0, 0, (-1), 0, 1) := (by rw [f_Po_init_eq] <;> rfl)
  have hP9 : va_P (dC, dI) vwCl [(o, .inr (3, [.ref o_board, .int ((f_Po_init).2.1), .int ((f_Po_init).2.2.1), .int ((f_Po_init).2.2.2.1), .int ((f_Po_init).2.2.2.2.1), .int ((f_Po_init).2.2.2.2.2)])), (o_board, .inr (0, [.ref o_board_men, .ref o_board_sets])), (o_board_men, .inl (cI, 64, .inl (((f_Po_init).1).1))), (o_board_sets, .inl (cJ, 16, .inr (.inl (((f_Po_init).1).2))))] H := by first | (rw [hv]; exact hP.sub [0, 1, 2, 3] rfl) | exact hP.sub [0, 1, 2, 3] rfl
  have hD9 : va_D A [(o, .inr (3, [.ref o_board, .int ((f_Po_init).2.1), .int ((f_Po_init).2.2.1), .int ((f_Po_init).2.2.2.1), .int ((f_Po_init).2.2.2.2.1), .int ((f_Po_init).2.2.2.2.2)])), (o_board, .inr (0, [.ref o_board_men, .ref o_board_sets])), (o_board_men, .inl (cI, 64, .inl (((f_Po_init).1).1))), (o_board_sets, .inl (cJ, 16, .inr (.inl (((f_Po_init).1).2))))] := by first | (rw [hv]; exact hD.sub [0, 1, 2, 3] (by decide) rfl) | exact hD.sub [0, 1, 2, 3] (by decide) rfl
  rw [hQ]; exact W.vret hx hb hr (fun t9 ht9 hW9 => ⟨⟨(o_board, o_board_men, o_board_sets), rfl, trivial, by rw [ht9]; exact hP9, va_K.moved hW9.alike hK, hD9⟩, hS.F ht9⟩) hS.2.2 dPo_init_40 hlocks

abbrev cRe_init : ByteArray := prog_7_method_1_code
def yRe_init : MethodName := ⟨"ChessRules$Reader", "<init>", "()V"⟩
def wsRe_init : List Cond := Cond.code yRe_init cRe_init 1 none :: BIG
theorem dRe_init_0 : decode cRe_init 0 = .ok (.aload_n 0, 1) := by decide +kernel
theorem dRe_init_1 : decode cRe_init 1 = .ok (.invokespecial 3, 3) := by decide +kernel
theorem dRe_init_4 : decode cRe_init 4 = .ok (.aload_n 0, 1) := by decide +kernel
theorem dRe_init_5 : decode cRe_init 5 = .ok (.new 9, 3) := by decide +kernel
theorem dRe_init_8 : decode cRe_init 8 = .ok (.dup, 1) := by decide +kernel
theorem dRe_init_9 : decode cRe_init 9 = .ok (.invokespecial 11, 3) := by decide +kernel
theorem dRe_init_12 : decode cRe_init 12 = .ok (.putfield 12, 3) := by decide +kernel
theorem dRe_init_15 : decode cRe_init 15 = .ok (.aload_n 0, 1) := by decide +kernel
theorem dRe_init_16 : decode cRe_init 16 = .ok (.new 18, 3) := by decide +kernel
theorem dRe_init_19 : decode cRe_init 19 = .ok (.dup, 1) := by decide +kernel
theorem dRe_init_20 : decode cRe_init 20 = .ok (.invokespecial 20, 3) := by decide +kernel
theorem dRe_init_23 : decode cRe_init 23 = .ok (.putfield 21, 3) := by decide +kernel
theorem dRe_init_26 : decode cRe_init 26 = .ok (.aload_n 0, 1) := by decide +kernel
theorem dRe_init_27 : decode cRe_init 27 = .ok (.iconst 0, 1) := by decide +kernel
theorem dRe_init_28 : decode cRe_init 28 = .ok (.putfield 25, 3) := by decide +kernel
theorem dRe_init_31 : decode cRe_init 31 = .ok (.return_, 1) := by decide +kernel

def f_Re_init : St_Li × St_Po × Int32 :=
  (f_Li_init, f_Po_init, 0)
theorem f_Re_init_eq : f_Re_init =
  (f_Li_init, f_Po_init, 0) := rfl

set_option maxHeartbeats 4000000 in
set_option maxRecDepth 100000 in
theorem c_Re_init (l : Launch) (dC : Nat → ClassId) (dI : Nat → Nat → Nat) (cI cJ cC : ClassId) (ad : Nat → Nat) (o : Nat) (sz : Nat) : Met l yRe_init wsRe_init { frames := 3, cells := 6, slots := 190, locals := 52 } (rwP dC dI (TYS cI cJ cC) [.ref o] [(o, .inr (4, [.null, .null, .int 0]))] sz (GS ad)) (va_Qv (fun _ : Nat × Nat × Nat × Nat × Nat × Nat => True) (fun u9 => rwB dC dI (TYS cI cJ cC) [(o, .inr (4, [.ref u9.1, .ref u9.2.2.1, .int ((f_Re_init).2.2)])), (u9.1, .inr (2, [.ref u9.2.1, .int (((f_Re_init).1).2)])), (u9.2.1, .inl (cC, 100, .inl (((f_Re_init).1).1))), (u9.2.2.1, .inr (3, [.ref u9.2.2.2.1, .int (((f_Re_init).2.1).2.1), .int (((f_Re_init).2.1).2.2.1), .int (((f_Re_init).2.1).2.2.2.1), .int (((f_Re_init).2.1).2.2.2.2.1), .int (((f_Re_init).2.1).2.2.2.2.2)])), (u9.2.2.2.1, .inr (0, [.ref u9.2.2.2.2.1, .ref u9.2.2.2.2.2])), (u9.2.2.2.2.1, .inl (cI, 64, .inl ((((f_Re_init).2.1).1).1))), (u9.2.2.2.2.2, .inl (cJ, 16, .inr (.inl ((((f_Re_init).2.1).1).2))))] (va_A [(o, .inr (4, [.null, .null, .int 0]))] sz) ()) (va_A [(o, .inr (4, [.null, .null, .int 0]))] sz)) 6 190 (va_A [(o, .inr (4, [.null, .null, .int 0]))] sz) := by
  refine Met.ofW (cc := cRe_init) (maxL := 1) (ret := none) (by decide) rfl ?_
  intro p e s m args below meth c s₁ B hml hv
  obtain ⟨rfl, hsz, hP, hK, hD0, hG⟩ := hv
  have hx := B.exec
  have hb := B.bytes
  have hr := B.returns
  have hB : ∀ w9 ∈ BIG, w9.before ([.ref o]).toArray s = true := fun w9 h => atoms_spec (ws := wsRe_init) B.pre w9 (List.mem_cons_of_mem _ h)
  have hown : s.vm.findClass "ChessRules$Reader" = some m.cls := findClass_of_methodNamed B.named
  have hlocks := B.notSynchronized
  have hin9 : meth.name = "<init>" := (name_of_methodNamed B.named B.method).1
  subst hsz
  have hD := hD0.self (sz := s.heap.size)
  generalize hAe : va_A [(o, .inr (4, [.null, .null, .int 0]))] s.heap.size = A at hD hG ⊢
  have hA : ∀ q : Nat, s.heap.size ≤ q → A q := fun q h => by rw [← hAe]; exact Or.inr h
  have hS : va_S A s.heap s.heap [] := va_S.rf
  have hP : va_P (dC, dI) vwCl [(o, .inr (4, [.null, .null, .int 0]))] s.heap := hP
  have hl := lv_entry ([.ref o]) (n := 1) (Nat.le_of_ble_eq_true rfl)
  rw [lg_entry_eq]
  generalize (lg_sl ([.ref o]) ++ List.replicate (1 - (lg_sl ([.ref o])).length) Slot.unset).toArray = ls at hl ⊢
  have hl : lv_has ls 1 [(0, .ref o)] := hl
  refine let_Q (P := fun Q9 => W p l e _ s m _ below meth c _ _ 0 0 Q9 _) (fun Q hQ => ?_)
  refine lv_aload_n hx hb dRe_init_0 rfl (lv_at hl 0 rfl) ?_
  refine W.objInit hx hb hown (hB _ q1_38) (hB _ q1_31) (hB _ q1_32) rfl (by rw [hml]; exact hl.1) rfl dRe_init_1 (Nat.le_of_ble_eq_true rfl) (Nat.le_of_ble_eq_true rfl) ?_
  refine W.eq (g2 := F0 m 4 ls []) rfl ?_
  refine lv_aload_n hx hb dRe_init_4 rfl (lv_at hl 0 rfl) ?_
  refine va_new (D := (dC, dI)) (ci := 2) (fs := [.null, .int 0]) (C := RLi) (T := TLi) (N := 2) hx hb hB inLi tyLi tyLi_ok hown (hB _ q1_39) (hB _ q1_40) (hB _ q1_3) hK hP hD hS hA rfl (fun j hj => by rcases (show j = 0 ∨ j = 1 by omega) with rfl | rfl <;> rfl) (Nat.le_of_ble_eq_true rfl) (Nat.le_of_ble_eq_true rfl) dRe_init_5 (fun o_text H hP hD hS => ?_)
  have hP : va_P (dC, dI) vwCl [(o, .inr (4, [.null, .null, .int 0])), (o_text, .inr (2, [.null, .int 0]))] H := hP
  have hD : va_D A [(o, .inr (4, [.null, .null, .int 0])), (o_text, .inr (2, [.null, .int 0]))] := hD
  refine lv_dup hx hb dRe_init_8 rfl ?_
  refine iv_go (wr := [(o, .inr (4, [.null, .null, .int 0]))]) (va_runIN (As := []) (rest := [.ref o_text, .ref o]) ⟨hx, hb, hml, hown, hB⟩ (c_Li_init l dC dI cI cJ cC ad o_text H.size) ⟨va_cnB 0 hB (big_self q1_43) rfl rfl rfl (hG.1 _ q1_41) (hB _ q1_3) (by decide +kernel) ⟨Nat.le_of_ble_eq_true rfl, Nat.le_of_ble_eq_true rfl⟩, rfl, (hB _ q1_42)⟩ (rw_preS (As := [.ref o_text]) (GS_ok ad) hK hP hD hA hG hS [1] (by decide) rfl rfl) rfl rfl hl.1 rfl (lv_room (Nat.le_of_ble_eq_true rfl)) dRe_init_9 ⟨Nat.le_of_ble_eq_true rfl, Nat.le_of_ble_eq_true rfl⟩) hP hD hS hA [1] [0] rfl rfl (by decide) (by decide) (fun o_text_characters H locs hP hD hS => ?_)
  have hP : va_P (dC, dI) vwCl [(o, .inr (4, [.null, .null, .int 0])), (o_text, .inr (2, [.ref o_text_characters, .int f_Li_init.2])), (o_text_characters, .inl (cC, 100, .inl f_Li_init.1))] H := hP
  have hD : va_D A [(o, .inr (4, [.null, .null, .int 0])), (o_text, .inr (2, [.ref o_text_characters, .int f_Li_init.2])), (o_text_characters, .inl (cC, 100, .inl f_Li_init.1))] := hD
  refine va_putF (D := (dC, dI)) (ci := 4) (v := .ref o_text) (ty := .object "ChessRules$Line") (C := RRe) (T := TRe) (N := 3) hx hb hB inRe tyRe tyRe_ok nmRe hown hK hP hD hS 0 rfl rfl 0 (by decide) (hB _ q1_120) (fun _ h9 => h9) rfl hin9 rfl (by decide +kernel) rfl rfl (Nat.le_of_ble_eq_true rfl) dRe_init_12 (fun H locs hP hD hS => ?_)
  have hP : va_P (dC, dI) vwCl [(o, .inr (4, [.ref o_text, .null, .int 0])), (o_text, .inr (2, [.ref o_text_characters, .int f_Li_init.2])), (o_text_characters, .inl (cC, 100, .inl f_Li_init.1))] H := hP
  have hD : va_D A [(o, .inr (4, [.ref o_text, .null, .int 0])), (o_text, .inr (2, [.ref o_text_characters, .int f_Li_init.2])), (o_text_characters, .inl (cC, 100, .inl f_Li_init.1))] := hD
  refine lv_aload_n hx hb dRe_init_15 rfl (lv_at hl 0 rfl) ?_
  refine va_new (D := (dC, dI)) (ci := 3) (fs := [.null, .int 0, .int 0, .int 0, .int 0, .int 0]) (C := RPo) (T := TPo) (N := 6) hx hb hB inPo tyPo tyPo_ok hown (hB _ q1_55) (hB _ q1_56) (hB _ q1_4) hK hP hD hS hA rfl (fun j hj => by rcases (show j = 0 ∨ j = 1 ∨ j = 2 ∨ j = 3 ∨ j = 4 ∨ j = 5 by omega) with rfl | rfl | rfl | rfl | rfl | rfl <;> rfl) (Nat.le_of_ble_eq_true rfl) (Nat.le_of_ble_eq_true rfl) dRe_init_16 (fun o_position H hP hD hS => ?_)
  have hP : va_P (dC, dI) vwCl [(o, .inr (4, [.ref o_text, .null, .int 0])), (o_text, .inr (2, [.ref o_text_characters, .int f_Li_init.2])), (o_text_characters, .inl (cC, 100, .inl f_Li_init.1)), (o_position, .inr (3, [.null, .int 0, .int 0, .int 0, .int 0, .int 0]))] H := hP
  have hD : va_D A [(o, .inr (4, [.ref o_text, .null, .int 0])), (o_text, .inr (2, [.ref o_text_characters, .int f_Li_init.2])), (o_text_characters, .inl (cC, 100, .inl f_Li_init.1)), (o_position, .inr (3, [.null, .int 0, .int 0, .int 0, .int 0, .int 0]))] := hD
  refine lv_dup hx hb dRe_init_19 rfl ?_
  refine iv_go (wr := [(o, .inr (4, [.ref o_text, .null, .int 0])), (o_text, .inr (2, [.ref o_text_characters, .int f_Li_init.2])), (o_text_characters, .inl (cC, 100, .inl f_Li_init.1))]) (va_runIN (As := []) (rest := [.ref o_position, .ref o]) ⟨hx, hb, hml, hown, hB⟩ (c_Po_init l dC dI cI cJ cC ad o_position H.size) ⟨va_cnB 0 hB (big_self q1_59) rfl rfl rfl (hG.1 _ q1_57) (hB _ q1_4) (by decide +kernel) ⟨Nat.le_of_ble_eq_true rfl, Nat.le_of_ble_eq_true rfl⟩, rfl, (hB _ q1_58)⟩ (rw_preS (As := [.ref o_position]) (GS_ok ad) hK hP hD hA hG hS [3] (by decide) rfl rfl) rfl rfl hl.1 rfl (lv_room (Nat.le_of_ble_eq_true rfl)) dRe_init_20 ⟨Nat.le_of_ble_eq_true rfl, Nat.le_of_ble_eq_true rfl⟩) hP hD hS hA [3] [0, 1, 2] rfl rfl (by decide) (by decide) (fun u9 H locs hP hD hS => ?_)
  obtain ⟨o_position_board, o_position_board_men, o_position_board_sets⟩ := u9
  have hP : va_P (dC, dI) vwCl [(o, .inr (4, [.ref o_text, .null, .int 0])), (o_text, .inr (2, [.ref o_text_characters, .int f_Li_init.2])), (o_text_characters, .inl (cC, 100, .inl f_Li_init.1)), (o_position, .inr (3, [.ref o_position_board, .int f_Po_init.2.1, .int f_Po_init.2.2.1, .int f_Po_init.2.2.2.1, .int f_Po_init.2.2.2.2.1, .int f_Po_init.2.2.2.2.2])), (o_position_board, .inr (0, [.ref o_position_board_men, .ref o_position_board_sets])), (o_position_board_men, .inl (cI, 64, .inl f_Po_init.1.1)), (o_position_board_sets, .inl (cJ, 16, .inr (.inl f_Po_init.1.2)))] H := hP
  have hD : va_D A [(o, .inr (4, [.ref o_text, .null, .int 0])), (o_text, .inr (2, [.ref o_text_characters, .int f_Li_init.2])), (o_text_characters, .inl (cC, 100, .inl f_Li_init.1)), (o_position, .inr (3, [.ref o_position_board, .int f_Po_init.2.1, .int f_Po_init.2.2.1, .int f_Po_init.2.2.2.1, .int f_Po_init.2.2.2.2.1, .int f_Po_init.2.2.2.2.2])), (o_position_board, .inr (0, [.ref o_position_board_men, .ref o_position_board_sets])), (o_position_board_men, .inl (cI, 64, .inl f_Po_init.1.1)), (o_position_board_sets, .inl (cJ, 16, .inr (.inl f_Po_init.1.2)))] := hD
  refine va_putF (D := (dC, dI)) (ci := 4) (v := .ref o_position) (ty := .object "ChessRules$Position") (C := RRe) (T := TRe) (N := 3) hx hb hB inRe tyRe tyRe_ok nmRe hown hK hP hD hS 0 rfl rfl 1 (by decide) (hB _ q1_122) (fun _ h9 => h9) rfl hin9 rfl (by decide +kernel) rfl rfl (Nat.le_of_ble_eq_true rfl) dRe_init_23 (fun H locs hP hD hS => ?_)
  have hP : va_P (dC, dI) vwCl [(o, .inr (4, [.ref o_text, .ref o_position, .int 0])), (o_text, .inr (2, [.ref o_text_characters, .int f_Li_init.2])), (o_text_characters, .inl (cC, 100, .inl f_Li_init.1)), (o_position, .inr (3, [.ref o_position_board, .int f_Po_init.2.1, .int f_Po_init.2.2.1, .int f_Po_init.2.2.2.1, .int f_Po_init.2.2.2.2.1, .int f_Po_init.2.2.2.2.2])), (o_position_board, .inr (0, [.ref o_position_board_men, .ref o_position_board_sets])), (o_position_board_men, .inl (cI, 64, .inl f_Po_init.1.1)), (o_position_board_sets, .inl (cJ, 16, .inr (.inl f_Po_init.1.2)))] H := hP
  have hD : va_D A [(o, .inr (4, [.ref o_text, .ref o_position, .int 0])), (o_text, .inr (2, [.ref o_text_characters, .int f_Li_init.2])), (o_text_characters, .inl (cC, 100, .inl f_Li_init.1)), (o_position, .inr (3, [.ref o_position_board, .int f_Po_init.2.1, .int f_Po_init.2.2.1, .int f_Po_init.2.2.2.1, .int f_Po_init.2.2.2.2.1, .int f_Po_init.2.2.2.2.2])), (o_position_board, .inr (0, [.ref o_position_board_men, .ref o_position_board_sets])), (o_position_board_men, .inl (cI, 64, .inl f_Po_init.1.1)), (o_position_board_sets, .inl (cJ, 16, .inr (.inl f_Po_init.1.2)))] := hD
  refine lv_aload_n hx hb dRe_init_26 rfl (lv_at hl 0 rfl) ?_
  refine lv_iconst (v := 0) hx hb dRe_init_27 (by decide) ?_
  refine va_put (D := (dC, dI)) (ci := 4) (v := .int 0) (ty := .int) (C := RRe) (T := TRe) (N := 3) hx hb hB inRe tyRe tyRe_ok nmRe hown hK hP hD hS 0 rfl rfl 2 (by decide) (hB _ q1_124) (fun _ h9 => h9) rfl (by decide +kernel) rfl rfl (Nat.le_of_ble_eq_true rfl) dRe_init_28 (fun H locs hP hD hS => ?_)
  have hP : va_P (dC, dI) vwCl [(o, .inr (4, [.ref o_text, .ref o_position, .int 0])), (o_text, .inr (2, [.ref o_text_characters, .int f_Li_init.2])), (o_text_characters, .inl (cC, 100, .inl f_Li_init.1)), (o_position, .inr (3, [.ref o_position_board, .int f_Po_init.2.1, .int f_Po_init.2.2.1, .int f_Po_init.2.2.2.1, .int f_Po_init.2.2.2.2.1, .int f_Po_init.2.2.2.2.2])), (o_position_board, .inr (0, [.ref o_position_board_men, .ref o_position_board_sets])), (o_position_board_men, .inl (cI, 64, .inl f_Po_init.1.1)), (o_position_board_sets, .inl (cJ, 16, .inr (.inl f_Po_init.1.2)))] H := hP
  have hD : va_D A [(o, .inr (4, [.ref o_text, .ref o_position, .int 0])), (o_text, .inr (2, [.ref o_text_characters, .int f_Li_init.2])), (o_text_characters, .inl (cC, 100, .inl f_Li_init.1)), (o_position, .inr (3, [.ref o_position_board, .int f_Po_init.2.1, .int f_Po_init.2.2.1, .int f_Po_init.2.2.2.1, .int f_Po_init.2.2.2.2.1, .int f_Po_init.2.2.2.2.2])), (o_position_board, .inr (0, [.ref o_position_board_men, .ref o_position_board_sets])), (o_position_board_men, .inl (cI, 64, .inl f_Po_init.1.1)), (o_position_board_sets, .inl (cJ, 16, .inr (.inl f_Po_init.1.2)))] := hD
  have hv : f_Re_init = (f_Li_init, f_Po_init, 0) := (by rw [f_Re_init_eq] <;> rfl)
  have hP9 : va_P (dC, dI) vwCl [(o, .inr (4, [.ref o_text, .ref o_position, .int ((f_Re_init).2.2)])), (o_text, .inr (2, [.ref o_text_characters, .int (((f_Re_init).1).2)])), (o_text_characters, .inl (cC, 100, .inl (((f_Re_init).1).1))), (o_position, .inr (3, [.ref o_position_board, .int (((f_Re_init).2.1).2.1), .int (((f_Re_init).2.1).2.2.1), .int (((f_Re_init).2.1).2.2.2.1), .int (((f_Re_init).2.1).2.2.2.2.1), .int (((f_Re_init).2.1).2.2.2.2.2)])), (o_position_board, .inr (0, [.ref o_position_board_men, .ref o_position_board_sets])), (o_position_board_men, .inl (cI, 64, .inl ((((f_Re_init).2.1).1).1))), (o_position_board_sets, .inl (cJ, 16, .inr (.inl ((((f_Re_init).2.1).1).2))))] H := by first | (rw [hv]; exact hP.sub [0, 1, 2, 3, 4, 5, 6] rfl) | exact hP.sub [0, 1, 2, 3, 4, 5, 6] rfl
  have hD9 : va_D A [(o, .inr (4, [.ref o_text, .ref o_position, .int ((f_Re_init).2.2)])), (o_text, .inr (2, [.ref o_text_characters, .int (((f_Re_init).1).2)])), (o_text_characters, .inl (cC, 100, .inl (((f_Re_init).1).1))), (o_position, .inr (3, [.ref o_position_board, .int (((f_Re_init).2.1).2.1), .int (((f_Re_init).2.1).2.2.1), .int (((f_Re_init).2.1).2.2.2.1), .int (((f_Re_init).2.1).2.2.2.2.1), .int (((f_Re_init).2.1).2.2.2.2.2)])), (o_position_board, .inr (0, [.ref o_position_board_men, .ref o_position_board_sets])), (o_position_board_men, .inl (cI, 64, .inl ((((f_Re_init).2.1).1).1))), (o_position_board_sets, .inl (cJ, 16, .inr (.inl ((((f_Re_init).2.1).1).2))))] := by first | (rw [hv]; exact hD.sub [0, 1, 2, 3, 4, 5, 6] (by decide) rfl) | exact hD.sub [0, 1, 2, 3, 4, 5, 6] (by decide) rfl
  rw [hQ]; exact W.vret hx hb hr (fun t9 ht9 hW9 => ⟨⟨(o_text, o_text_characters, o_position, o_position_board, o_position_board_men, o_position_board_sets), rfl, trivial, by rw [ht9]; exact hP9, va_K.moved hW9.alike hK, hD9⟩, hS.F ht9⟩) hS.2.2 dRe_init_31 hlocks

abbrev cGa_init : ByteArray := prog_3_method_1_code
def yGa_init : MethodName := ⟨"ChessRules$Game", "<init>", "()V"⟩
def wsGa_init : List Cond := Cond.code yGa_init cGa_init 1 none :: BIG
theorem dGa_init_0 : decode cGa_init 0 = .ok (.aload_n 0, 1) := by decide +kernel
theorem dGa_init_1 : decode cGa_init 1 = .ok (.invokespecial 3, 3) := by decide +kernel
theorem dGa_init_4 : decode cGa_init 4 = .ok (.aload_n 0, 1) := by decide +kernel
theorem dGa_init_5 : decode cGa_init 5 = .ok (.new 9, 3) := by decide +kernel
theorem dGa_init_8 : decode cGa_init 8 = .ok (.dup, 1) := by decide +kernel
theorem dGa_init_9 : decode cGa_init 9 = .ok (.invokespecial 11, 3) := by decide +kernel
theorem dGa_init_12 : decode cGa_init 12 = .ok (.putfield 12, 3) := by decide +kernel
theorem dGa_init_15 : decode cGa_init 15 = .ok (.aload_n 0, 1) := by decide +kernel
theorem dGa_init_16 : decode cGa_init 16 = .ok (.iconst 0, 1) := by decide +kernel
theorem dGa_init_17 : decode cGa_init 17 = .ok (.putfield 18, 3) := by decide +kernel
theorem dGa_init_20 : decode cGa_init 20 = .ok (.aload_n 0, 1) := by decide +kernel
theorem dGa_init_21 : decode cGa_init 21 = .ok (.sipush 400, 3) := by decide +kernel
theorem dGa_init_24 : decode cGa_init 24 = .ok (.newarray .int, 2) := by decide +kernel
theorem dGa_init_26 : decode cGa_init 26 = .ok (.putfield 22, 3) := by decide +kernel
theorem dGa_init_29 : decode cGa_init 29 = .ok (.aload_n 0, 1) := by decide +kernel
theorem dGa_init_30 : decode cGa_init 30 = .ok (.sipush 400, 3) := by decide +kernel
theorem dGa_init_33 : decode cGa_init 33 = .ok (.newarray .int, 2) := by decide +kernel
theorem dGa_init_35 : decode cGa_init 35 = .ok (.putfield 26, 3) := by decide +kernel
theorem dGa_init_38 : decode cGa_init 38 = .ok (.aload_n 0, 1) := by decide +kernel
theorem dGa_init_39 : decode cGa_init 39 = .ok (.sipush 401, 3) := by decide +kernel
theorem dGa_init_42 : decode cGa_init 42 = .ok (.newarray .int, 2) := by decide +kernel
theorem dGa_init_44 : decode cGa_init 44 = .ok (.putfield 29, 3) := by decide +kernel
theorem dGa_init_47 : decode cGa_init 47 = .ok (.aload_n 0, 1) := by decide +kernel
theorem dGa_init_48 : decode cGa_init 48 = .ok (.sipush 1604, 3) := by decide +kernel
theorem dGa_init_51 : decode cGa_init 51 = .ok (.newarray .long, 2) := by decide +kernel
theorem dGa_init_53 : decode cGa_init 53 = .ok (.putfield 32, 3) := by decide +kernel
theorem dGa_init_56 : decode cGa_init 56 = .ok (.return_, 1) := by decide +kernel

def f_Ga_init : St_Po × Int32 × (Nat → Int32) × (Nat → Int32) × (Nat → Int32) × (Nat → Int64) :=
  (f_Po_init, 0, (fun _ => 0), (fun _ => 0), (fun _ => 0), (fun _ => 0))
theorem f_Ga_init_eq : f_Ga_init =
  (f_Po_init, 0, (fun _ => 0), (fun _ => 0), (fun _ => 0), (fun _ => 0)) := rfl

set_option maxHeartbeats 4000000 in
set_option maxRecDepth 100000 in
theorem c_Ga_init (l : Launch) (dC : Nat → ClassId) (dI : Nat → Nat → Nat) (cI cJ cC : ClassId) (ad : Nat → Nat) (o : Nat) (sz : Nat) : Met l yGa_init wsGa_init { frames := 3, cells := 8, slots := 2893, locals := 52 } (rwP dC dI (TYS cI cJ cC) [.ref o] [(o, .inr (1, [.null, .int 0, .null, .null, .null, .null]))] sz (GS ad)) (va_Qv (fun _ : Nat × Nat × Nat × Nat × Nat × Nat × Nat × Nat => True) (fun u9 => rwB dC dI (TYS cI cJ cC) [(o, .inr (1, [.ref u9.1, .int ((f_Ga_init).2.1), .ref u9.2.2.2.2.1, .ref u9.2.2.2.2.2.1, .ref u9.2.2.2.2.2.2.1, .ref u9.2.2.2.2.2.2.2])), (u9.1, .inr (3, [.ref u9.2.1, .int (((f_Ga_init).1).2.1), .int (((f_Ga_init).1).2.2.1), .int (((f_Ga_init).1).2.2.2.1), .int (((f_Ga_init).1).2.2.2.2.1), .int (((f_Ga_init).1).2.2.2.2.2)])), (u9.2.1, .inr (0, [.ref u9.2.2.1, .ref u9.2.2.2.1])), (u9.2.2.1, .inl (cI, 64, .inl ((((f_Ga_init).1).1).1))), (u9.2.2.2.1, .inl (cJ, 16, .inr (.inl ((((f_Ga_init).1).1).2)))), (u9.2.2.2.2.1, .inl (cI, 400, .inl ((f_Ga_init).2.2.1))), (u9.2.2.2.2.2.1, .inl (cI, 400, .inl ((f_Ga_init).2.2.2.1))), (u9.2.2.2.2.2.2.1, .inl (cI, 401, .inl ((f_Ga_init).2.2.2.2.1))), (u9.2.2.2.2.2.2.2, .inl (cJ, 1604, .inr (.inl ((f_Ga_init).2.2.2.2.2))))] (va_A [(o, .inr (1, [.null, .int 0, .null, .null, .null, .null]))] sz) ()) (va_A [(o, .inr (1, [.null, .int 0, .null, .null, .null, .null]))] sz)) 8 2893 (va_A [(o, .inr (1, [.null, .int 0, .null, .null, .null, .null]))] sz) := by
  refine Met.ofW (cc := cGa_init) (maxL := 1) (ret := none) (by decide) rfl ?_
  intro p e s m args below meth c s₁ B hml hv
  obtain ⟨rfl, hsz, hP, hK, hD0, hG⟩ := hv
  have hx := B.exec
  have hb := B.bytes
  have hr := B.returns
  have hB : ∀ w9 ∈ BIG, w9.before ([.ref o]).toArray s = true := fun w9 h => atoms_spec (ws := wsGa_init) B.pre w9 (List.mem_cons_of_mem _ h)
  have hown : s.vm.findClass "ChessRules$Game" = some m.cls := findClass_of_methodNamed B.named
  have hlocks := B.notSynchronized
  have hin9 : meth.name = "<init>" := (name_of_methodNamed B.named B.method).1
  subst hsz
  have hD := hD0.self (sz := s.heap.size)
  generalize hAe : va_A [(o, .inr (1, [.null, .int 0, .null, .null, .null, .null]))] s.heap.size = A at hD hG ⊢
  have hA : ∀ q : Nat, s.heap.size ≤ q → A q := fun q h => by rw [← hAe]; exact Or.inr h
  have hS : va_S A s.heap s.heap [] := va_S.rf
  have hP : va_P (dC, dI) vwCl [(o, .inr (1, [.null, .int 0, .null, .null, .null, .null]))] s.heap := hP
  have hl := lv_entry ([.ref o]) (n := 1) (Nat.le_of_ble_eq_true rfl)
  rw [lg_entry_eq]
  generalize (lg_sl ([.ref o]) ++ List.replicate (1 - (lg_sl ([.ref o])).length) Slot.unset).toArray = ls at hl ⊢
  have hl : lv_has ls 1 [(0, .ref o)] := hl
  refine let_Q (P := fun Q9 => W p l e _ s m _ below meth c _ _ 0 0 Q9 _) (fun Q hQ => ?_)
  refine lv_aload_n hx hb dGa_init_0 rfl (lv_at hl 0 rfl) ?_
  refine W.objInit hx hb hown (hB _ q1_139) (hB _ q1_31) (hB _ q1_32) rfl (by rw [hml]; exact hl.1) rfl dGa_init_1 (Nat.le_of_ble_eq_true rfl) (Nat.le_of_ble_eq_true rfl) ?_
  refine W.eq (g2 := F0 m 4 ls []) rfl ?_
  refine lv_aload_n hx hb dGa_init_4 rfl (lv_at hl 0 rfl) ?_
  refine va_new (D := (dC, dI)) (ci := 3) (fs := [.null, .int 0, .int 0, .int 0, .int 0, .int 0]) (C := RPo) (T := TPo) (N := 6) hx hb hB inPo tyPo tyPo_ok hown (hB _ q1_140) (hB _ q1_56) (hB _ q1_4) hK hP hD hS hA rfl (fun j hj => by rcases (show j = 0 ∨ j = 1 ∨ j = 2 ∨ j = 3 ∨ j = 4 ∨ j = 5 by omega) with rfl | rfl | rfl | rfl | rfl | rfl <;> rfl) (Nat.le_of_ble_eq_true rfl) (Nat.le_of_ble_eq_true rfl) dGa_init_5 (fun o_present H hP hD hS => ?_)
  have hP : va_P (dC, dI) vwCl [(o, .inr (1, [.null, .int 0, .null, .null, .null, .null])), (o_present, .inr (3, [.null, .int 0, .int 0, .int 0, .int 0, .int 0]))] H := hP
  have hD : va_D A [(o, .inr (1, [.null, .int 0, .null, .null, .null, .null])), (o_present, .inr (3, [.null, .int 0, .int 0, .int 0, .int 0, .int 0]))] := hD
  refine lv_dup hx hb dGa_init_8 rfl ?_
  refine iv_go (wr := [(o, .inr (1, [.null, .int 0, .null, .null, .null, .null]))]) (va_runIN (As := []) (rest := [.ref o_present, .ref o]) ⟨hx, hb, hml, hown, hB⟩ (c_Po_init l dC dI cI cJ cC ad o_present H.size) ⟨va_cnB 0 hB (big_self q1_59) rfl rfl rfl (hG.1 _ q1_141) (hB _ q1_4) (by decide +kernel) ⟨Nat.le_of_ble_eq_true rfl, Nat.le_of_ble_eq_true rfl⟩, rfl, (hB _ q1_58)⟩ (rw_preS (As := [.ref o_present]) (GS_ok ad) hK hP hD hA hG hS [1] (by decide) rfl rfl) rfl rfl hl.1 rfl (lv_room (Nat.le_of_ble_eq_true rfl)) dGa_init_9 ⟨Nat.le_of_ble_eq_true rfl, Nat.le_of_ble_eq_true rfl⟩) hP hD hS hA [1] [0] rfl rfl (by decide) (by decide) (fun u9 H locs hP hD hS => ?_)
  obtain ⟨o_present_board, o_present_board_men, o_present_board_sets⟩ := u9
  have hP : va_P (dC, dI) vwCl [(o, .inr (1, [.null, .int 0, .null, .null, .null, .null])), (o_present, .inr (3, [.ref o_present_board, .int f_Po_init.2.1, .int f_Po_init.2.2.1, .int f_Po_init.2.2.2.1, .int f_Po_init.2.2.2.2.1, .int f_Po_init.2.2.2.2.2])), (o_present_board, .inr (0, [.ref o_present_board_men, .ref o_present_board_sets])), (o_present_board_men, .inl (cI, 64, .inl f_Po_init.1.1)), (o_present_board_sets, .inl (cJ, 16, .inr (.inl f_Po_init.1.2)))] H := hP
  have hD : va_D A [(o, .inr (1, [.null, .int 0, .null, .null, .null, .null])), (o_present, .inr (3, [.ref o_present_board, .int f_Po_init.2.1, .int f_Po_init.2.2.1, .int f_Po_init.2.2.2.1, .int f_Po_init.2.2.2.2.1, .int f_Po_init.2.2.2.2.2])), (o_present_board, .inr (0, [.ref o_present_board_men, .ref o_present_board_sets])), (o_present_board_men, .inl (cI, 64, .inl f_Po_init.1.1)), (o_present_board_sets, .inl (cJ, 16, .inr (.inl f_Po_init.1.2)))] := hD
  refine va_putF (D := (dC, dI)) (ci := 1) (v := .ref o_present) (ty := .object "ChessRules$Position") (C := RGa) (T := TGa) (N := 6) hx hb hB inGa tyGa tyGa_ok nmGa hown hK hP hD hS 0 rfl rfl 0 (by decide) (hB _ q1_142) (fun _ h9 => h9) rfl hin9 rfl (by decide +kernel) rfl rfl (Nat.le_of_ble_eq_true rfl) dGa_init_12 (fun H locs hP hD hS => ?_)
  have hP : va_P (dC, dI) vwCl [(o, .inr (1, [.ref o_present, .int 0, .null, .null, .null, .null])), (o_present, .inr (3, [.ref o_present_board, .int f_Po_init.2.1, .int f_Po_init.2.2.1, .int f_Po_init.2.2.2.1, .int f_Po_init.2.2.2.2.1, .int f_Po_init.2.2.2.2.2])), (o_present_board, .inr (0, [.ref o_present_board_men, .ref o_present_board_sets])), (o_present_board_men, .inl (cI, 64, .inl f_Po_init.1.1)), (o_present_board_sets, .inl (cJ, 16, .inr (.inl f_Po_init.1.2)))] H := hP
  have hD : va_D A [(o, .inr (1, [.ref o_present, .int 0, .null, .null, .null, .null])), (o_present, .inr (3, [.ref o_present_board, .int f_Po_init.2.1, .int f_Po_init.2.2.1, .int f_Po_init.2.2.2.1, .int f_Po_init.2.2.2.2.1, .int f_Po_init.2.2.2.2.2])), (o_present_board, .inr (0, [.ref o_present_board_men, .ref o_present_board_sets])), (o_present_board_men, .inl (cI, 64, .inl f_Po_init.1.1)), (o_present_board_sets, .inl (cJ, 16, .inr (.inl f_Po_init.1.2)))] := hD
  refine lv_aload_n hx hb dGa_init_15 rfl (lv_at hl 0 rfl) ?_
  refine lv_iconst (v := 0) hx hb dGa_init_16 (by decide) ?_
  refine va_put (D := (dC, dI)) (ci := 1) (v := .int 0) (ty := .int) (C := RGa) (T := TGa) (N := 6) hx hb hB inGa tyGa tyGa_ok nmGa hown hK hP hD hS 0 rfl rfl 1 (by decide) (hB _ q1_144) (fun _ h9 => h9) rfl (by decide +kernel) rfl rfl (Nat.le_of_ble_eq_true rfl) dGa_init_17 (fun H locs hP hD hS => ?_)
  have hP : va_P (dC, dI) vwCl [(o, .inr (1, [.ref o_present, .int 0, .null, .null, .null, .null])), (o_present, .inr (3, [.ref o_present_board, .int f_Po_init.2.1, .int f_Po_init.2.2.1, .int f_Po_init.2.2.2.1, .int f_Po_init.2.2.2.2.1, .int f_Po_init.2.2.2.2.2])), (o_present_board, .inr (0, [.ref o_present_board_men, .ref o_present_board_sets])), (o_present_board_men, .inl (cI, 64, .inl f_Po_init.1.1)), (o_present_board_sets, .inl (cJ, 16, .inr (.inl f_Po_init.1.2)))] H := hP
  have hD : va_D A [(o, .inr (1, [.ref o_present, .int 0, .null, .null, .null, .null])), (o_present, .inr (3, [.ref o_present_board, .int f_Po_init.2.1, .int f_Po_init.2.2.1, .int f_Po_init.2.2.2.1, .int f_Po_init.2.2.2.2.1, .int f_Po_init.2.2.2.2.2])), (o_present_board, .inr (0, [.ref o_present_board_men, .ref o_present_board_sets])), (o_present_board_men, .inl (cI, 64, .inl f_Po_init.1.1)), (o_present_board_sets, .inl (cJ, 16, .inr (.inl f_Po_init.1.2)))] := hD
  refine lv_aload_n hx hb dGa_init_20 rfl (lv_at hl 0 rfl) ?_
  refine lv_sipush (v := 400) hx hb dGa_init_21 (by decide) ?_
  refine iv_newa (atype := .int) (ty := .int) (cA0 := cI) (a0 := (400, .inl (fun _ => 0))) (N' := 400) (rest := [.ref o]) hx hb (hB _ q1_75) rfl (hK.2 0 _ rfl).2 hP hD hS hA (fun _ => rfl) (by decide) (by decide) (by decide) (Nat.le_of_ble_eq_true rfl) (Nat.le_of_ble_eq_true rfl) dGa_init_24 (fun o_told H hP hD hS => ?_)
  have hP : va_P (dC, dI) vwCl [(o, .inr (1, [.ref o_present, .int 0, .null, .null, .null, .null])), (o_present, .inr (3, [.ref o_present_board, .int f_Po_init.2.1, .int f_Po_init.2.2.1, .int f_Po_init.2.2.2.1, .int f_Po_init.2.2.2.2.1, .int f_Po_init.2.2.2.2.2])), (o_present_board, .inr (0, [.ref o_present_board_men, .ref o_present_board_sets])), (o_present_board_men, .inl (cI, 64, .inl f_Po_init.1.1)), (o_present_board_sets, .inl (cJ, 16, .inr (.inl f_Po_init.1.2))), (o_told, .inl (cI, 400, .inl (fun _ => 0)))] H := hP
  have hD : va_D A [(o, .inr (1, [.ref o_present, .int 0, .null, .null, .null, .null])), (o_present, .inr (3, [.ref o_present_board, .int f_Po_init.2.1, .int f_Po_init.2.2.1, .int f_Po_init.2.2.2.1, .int f_Po_init.2.2.2.2.1, .int f_Po_init.2.2.2.2.2])), (o_present_board, .inr (0, [.ref o_present_board_men, .ref o_present_board_sets])), (o_present_board_men, .inl (cI, 64, .inl f_Po_init.1.1)), (o_present_board_sets, .inl (cJ, 16, .inr (.inl f_Po_init.1.2))), (o_told, .inl (cI, 400, .inl (fun _ => 0)))] := hD
  refine va_putF (D := (dC, dI)) (ci := 1) (v := .ref o_told) (ty := .array .int) (C := RGa) (T := TGa) (N := 6) hx hb hB inGa tyGa tyGa_ok nmGa hown hK hP hD hS 0 rfl rfl 2 (by decide) (hB _ q1_146) (fun _ h9 => h9) rfl hin9 rfl (by decide +kernel) rfl rfl (Nat.le_of_ble_eq_true rfl) dGa_init_26 (fun H locs hP hD hS => ?_)
  have hP : va_P (dC, dI) vwCl [(o, .inr (1, [.ref o_present, .int 0, .ref o_told, .null, .null, .null])), (o_present, .inr (3, [.ref o_present_board, .int f_Po_init.2.1, .int f_Po_init.2.2.1, .int f_Po_init.2.2.2.1, .int f_Po_init.2.2.2.2.1, .int f_Po_init.2.2.2.2.2])), (o_present_board, .inr (0, [.ref o_present_board_men, .ref o_present_board_sets])), (o_present_board_men, .inl (cI, 64, .inl f_Po_init.1.1)), (o_present_board_sets, .inl (cJ, 16, .inr (.inl f_Po_init.1.2))), (o_told, .inl (cI, 400, .inl (fun _ => 0)))] H := hP
  have hD : va_D A [(o, .inr (1, [.ref o_present, .int 0, .ref o_told, .null, .null, .null])), (o_present, .inr (3, [.ref o_present_board, .int f_Po_init.2.1, .int f_Po_init.2.2.1, .int f_Po_init.2.2.2.1, .int f_Po_init.2.2.2.2.1, .int f_Po_init.2.2.2.2.2])), (o_present_board, .inr (0, [.ref o_present_board_men, .ref o_present_board_sets])), (o_present_board_men, .inl (cI, 64, .inl f_Po_init.1.1)), (o_present_board_sets, .inl (cJ, 16, .inr (.inl f_Po_init.1.2))), (o_told, .inl (cI, 400, .inl (fun _ => 0)))] := hD
  refine lv_aload_n hx hb dGa_init_29 rfl (lv_at hl 0 rfl) ?_
  refine lv_sipush (v := 400) hx hb dGa_init_30 (by decide) ?_
  refine iv_newa (atype := .int) (ty := .int) (cA0 := cI) (a0 := (400, .inl (fun _ => 0))) (N' := 400) (rest := [.ref o]) hx hb (hB _ q1_75) rfl (hK.2 0 _ rfl).2 hP hD hS hA (fun _ => rfl) (by decide) (by decide) (by decide) (Nat.le_of_ble_eq_true rfl) (Nat.le_of_ble_eq_true rfl) dGa_init_33 (fun o_memories H hP hD hS => ?_)
  have hP : va_P (dC, dI) vwCl [(o, .inr (1, [.ref o_present, .int 0, .ref o_told, .null, .null, .null])), (o_present, .inr (3, [.ref o_present_board, .int f_Po_init.2.1, .int f_Po_init.2.2.1, .int f_Po_init.2.2.2.1, .int f_Po_init.2.2.2.2.1, .int f_Po_init.2.2.2.2.2])), (o_present_board, .inr (0, [.ref o_present_board_men, .ref o_present_board_sets])), (o_present_board_men, .inl (cI, 64, .inl f_Po_init.1.1)), (o_present_board_sets, .inl (cJ, 16, .inr (.inl f_Po_init.1.2))), (o_told, .inl (cI, 400, .inl (fun _ => 0))), (o_memories, .inl (cI, 400, .inl (fun _ => 0)))] H := hP
  have hD : va_D A [(o, .inr (1, [.ref o_present, .int 0, .ref o_told, .null, .null, .null])), (o_present, .inr (3, [.ref o_present_board, .int f_Po_init.2.1, .int f_Po_init.2.2.1, .int f_Po_init.2.2.2.1, .int f_Po_init.2.2.2.2.1, .int f_Po_init.2.2.2.2.2])), (o_present_board, .inr (0, [.ref o_present_board_men, .ref o_present_board_sets])), (o_present_board_men, .inl (cI, 64, .inl f_Po_init.1.1)), (o_present_board_sets, .inl (cJ, 16, .inr (.inl f_Po_init.1.2))), (o_told, .inl (cI, 400, .inl (fun _ => 0))), (o_memories, .inl (cI, 400, .inl (fun _ => 0)))] := hD
  refine va_putF (D := (dC, dI)) (ci := 1) (v := .ref o_memories) (ty := .array .int) (C := RGa) (T := TGa) (N := 6) hx hb hB inGa tyGa tyGa_ok nmGa hown hK hP hD hS 0 rfl rfl 3 (by decide) (hB _ q1_148) (fun _ h9 => h9) rfl hin9 rfl (by decide +kernel) rfl rfl (Nat.le_of_ble_eq_true rfl) dGa_init_35 (fun H locs hP hD hS => ?_)
  have hP : va_P (dC, dI) vwCl [(o, .inr (1, [.ref o_present, .int 0, .ref o_told, .ref o_memories, .null, .null])), (o_present, .inr (3, [.ref o_present_board, .int f_Po_init.2.1, .int f_Po_init.2.2.1, .int f_Po_init.2.2.2.1, .int f_Po_init.2.2.2.2.1, .int f_Po_init.2.2.2.2.2])), (o_present_board, .inr (0, [.ref o_present_board_men, .ref o_present_board_sets])), (o_present_board_men, .inl (cI, 64, .inl f_Po_init.1.1)), (o_present_board_sets, .inl (cJ, 16, .inr (.inl f_Po_init.1.2))), (o_told, .inl (cI, 400, .inl (fun _ => 0))), (o_memories, .inl (cI, 400, .inl (fun _ => 0)))] H := hP
  have hD : va_D A [(o, .inr (1, [.ref o_present, .int 0, .ref o_told, .ref o_memories, .null, .null])), (o_present, .inr (3, [.ref o_present_board, .int f_Po_init.2.1, .int f_Po_init.2.2.1, .int f_Po_init.2.2.2.1, .int f_Po_init.2.2.2.2.1, .int f_Po_init.2.2.2.2.2])), (o_present_board, .inr (0, [.ref o_present_board_men, .ref o_present_board_sets])), (o_present_board_men, .inl (cI, 64, .inl f_Po_init.1.1)), (o_present_board_sets, .inl (cJ, 16, .inr (.inl f_Po_init.1.2))), (o_told, .inl (cI, 400, .inl (fun _ => 0))), (o_memories, .inl (cI, 400, .inl (fun _ => 0)))] := hD
  refine lv_aload_n hx hb dGa_init_38 rfl (lv_at hl 0 rfl) ?_
  refine lv_sipush (v := 401) hx hb dGa_init_39 (by decide) ?_
  refine iv_newa (atype := .int) (ty := .int) (cA0 := cI) (a0 := (401, .inl (fun _ => 0))) (N' := 401) (rest := [.ref o]) hx hb (hB _ q1_75) rfl (hK.2 0 _ rfl).2 hP hD hS hA (fun _ => rfl) (by decide) (by decide) (by decide) (Nat.le_of_ble_eq_true rfl) (Nat.le_of_ble_eq_true rfl) dGa_init_42 (fun o_marks H hP hD hS => ?_)
  have hP : va_P (dC, dI) vwCl [(o, .inr (1, [.ref o_present, .int 0, .ref o_told, .ref o_memories, .null, .null])), (o_present, .inr (3, [.ref o_present_board, .int f_Po_init.2.1, .int f_Po_init.2.2.1, .int f_Po_init.2.2.2.1, .int f_Po_init.2.2.2.2.1, .int f_Po_init.2.2.2.2.2])), (o_present_board, .inr (0, [.ref o_present_board_men, .ref o_present_board_sets])), (o_present_board_men, .inl (cI, 64, .inl f_Po_init.1.1)), (o_present_board_sets, .inl (cJ, 16, .inr (.inl f_Po_init.1.2))), (o_told, .inl (cI, 400, .inl (fun _ => 0))), (o_memories, .inl (cI, 400, .inl (fun _ => 0))), (o_marks, .inl (cI, 401, .inl (fun _ => 0)))] H := hP
  have hD : va_D A [(o, .inr (1, [.ref o_present, .int 0, .ref o_told, .ref o_memories, .null, .null])), (o_present, .inr (3, [.ref o_present_board, .int f_Po_init.2.1, .int f_Po_init.2.2.1, .int f_Po_init.2.2.2.1, .int f_Po_init.2.2.2.2.1, .int f_Po_init.2.2.2.2.2])), (o_present_board, .inr (0, [.ref o_present_board_men, .ref o_present_board_sets])), (o_present_board_men, .inl (cI, 64, .inl f_Po_init.1.1)), (o_present_board_sets, .inl (cJ, 16, .inr (.inl f_Po_init.1.2))), (o_told, .inl (cI, 400, .inl (fun _ => 0))), (o_memories, .inl (cI, 400, .inl (fun _ => 0))), (o_marks, .inl (cI, 401, .inl (fun _ => 0)))] := hD
  refine va_putF (D := (dC, dI)) (ci := 1) (v := .ref o_marks) (ty := .array .int) (C := RGa) (T := TGa) (N := 6) hx hb hB inGa tyGa tyGa_ok nmGa hown hK hP hD hS 0 rfl rfl 4 (by decide) (hB _ q1_149) (fun _ h9 => h9) rfl hin9 rfl (by decide +kernel) rfl rfl (Nat.le_of_ble_eq_true rfl) dGa_init_44 (fun H locs hP hD hS => ?_)
  have hP : va_P (dC, dI) vwCl [(o, .inr (1, [.ref o_present, .int 0, .ref o_told, .ref o_memories, .ref o_marks, .null])), (o_present, .inr (3, [.ref o_present_board, .int f_Po_init.2.1, .int f_Po_init.2.2.1, .int f_Po_init.2.2.2.1, .int f_Po_init.2.2.2.2.1, .int f_Po_init.2.2.2.2.2])), (o_present_board, .inr (0, [.ref o_present_board_men, .ref o_present_board_sets])), (o_present_board_men, .inl (cI, 64, .inl f_Po_init.1.1)), (o_present_board_sets, .inl (cJ, 16, .inr (.inl f_Po_init.1.2))), (o_told, .inl (cI, 400, .inl (fun _ => 0))), (o_memories, .inl (cI, 400, .inl (fun _ => 0))), (o_marks, .inl (cI, 401, .inl (fun _ => 0)))] H := hP
  have hD : va_D A [(o, .inr (1, [.ref o_present, .int 0, .ref o_told, .ref o_memories, .ref o_marks, .null])), (o_present, .inr (3, [.ref o_present_board, .int f_Po_init.2.1, .int f_Po_init.2.2.1, .int f_Po_init.2.2.2.1, .int f_Po_init.2.2.2.2.1, .int f_Po_init.2.2.2.2.2])), (o_present_board, .inr (0, [.ref o_present_board_men, .ref o_present_board_sets])), (o_present_board_men, .inl (cI, 64, .inl f_Po_init.1.1)), (o_present_board_sets, .inl (cJ, 16, .inr (.inl f_Po_init.1.2))), (o_told, .inl (cI, 400, .inl (fun _ => 0))), (o_memories, .inl (cI, 400, .inl (fun _ => 0))), (o_marks, .inl (cI, 401, .inl (fun _ => 0)))] := hD
  refine lv_aload_n hx hb dGa_init_47 rfl (lv_at hl 0 rfl) ?_
  refine lv_sipush (v := 1604) hx hb dGa_init_48 (by decide) ?_
  refine iv_newa (atype := .long) (ty := .long) (cA0 := cJ) (a0 := (1604, .inr (.inl (fun _ => 0)))) (N' := 1604) (rest := [.ref o]) hx hb (hB _ q1_76) rfl (hK.2 1 _ rfl).2 hP hD hS hA (fun _ => rfl) (by decide) (by decide) (by decide) (Nat.le_of_ble_eq_true rfl) (Nat.le_of_ble_eq_true rfl) dGa_init_51 (fun o_pictures H hP hD hS => ?_)
  have hP : va_P (dC, dI) vwCl [(o, .inr (1, [.ref o_present, .int 0, .ref o_told, .ref o_memories, .ref o_marks, .null])), (o_present, .inr (3, [.ref o_present_board, .int f_Po_init.2.1, .int f_Po_init.2.2.1, .int f_Po_init.2.2.2.1, .int f_Po_init.2.2.2.2.1, .int f_Po_init.2.2.2.2.2])), (o_present_board, .inr (0, [.ref o_present_board_men, .ref o_present_board_sets])), (o_present_board_men, .inl (cI, 64, .inl f_Po_init.1.1)), (o_present_board_sets, .inl (cJ, 16, .inr (.inl f_Po_init.1.2))), (o_told, .inl (cI, 400, .inl (fun _ => 0))), (o_memories, .inl (cI, 400, .inl (fun _ => 0))), (o_marks, .inl (cI, 401, .inl (fun _ => 0))), (o_pictures, .inl (cJ, 1604, .inr (.inl (fun _ => 0))))] H := hP
  have hD : va_D A [(o, .inr (1, [.ref o_present, .int 0, .ref o_told, .ref o_memories, .ref o_marks, .null])), (o_present, .inr (3, [.ref o_present_board, .int f_Po_init.2.1, .int f_Po_init.2.2.1, .int f_Po_init.2.2.2.1, .int f_Po_init.2.2.2.2.1, .int f_Po_init.2.2.2.2.2])), (o_present_board, .inr (0, [.ref o_present_board_men, .ref o_present_board_sets])), (o_present_board_men, .inl (cI, 64, .inl f_Po_init.1.1)), (o_present_board_sets, .inl (cJ, 16, .inr (.inl f_Po_init.1.2))), (o_told, .inl (cI, 400, .inl (fun _ => 0))), (o_memories, .inl (cI, 400, .inl (fun _ => 0))), (o_marks, .inl (cI, 401, .inl (fun _ => 0))), (o_pictures, .inl (cJ, 1604, .inr (.inl (fun _ => 0))))] := hD
  refine va_putF (D := (dC, dI)) (ci := 1) (v := .ref o_pictures) (ty := .array .long) (C := RGa) (T := TGa) (N := 6) hx hb hB inGa tyGa tyGa_ok nmGa hown hK hP hD hS 0 rfl rfl 5 (by decide) (hB _ q1_150) (fun _ h9 => h9) rfl hin9 rfl (by decide +kernel) rfl rfl (Nat.le_of_ble_eq_true rfl) dGa_init_53 (fun H locs hP hD hS => ?_)
  have hP : va_P (dC, dI) vwCl [(o, .inr (1, [.ref o_present, .int 0, .ref o_told, .ref o_memories, .ref o_marks, .ref o_pictures])), (o_present, .inr (3, [.ref o_present_board, .int f_Po_init.2.1, .int f_Po_init.2.2.1, .int f_Po_init.2.2.2.1, .int f_Po_init.2.2.2.2.1, .int f_Po_init.2.2.2.2.2])), (o_present_board, .inr (0, [.ref o_present_board_men, .ref o_present_board_sets])), (o_present_board_men, .inl (cI, 64, .inl f_Po_init.1.1)), (o_present_board_sets, .inl (cJ, 16, .inr (.inl f_Po_init.1.2))), (o_told, .inl (cI, 400, .inl (fun _ => 0))), (o_memories, .inl (cI, 400, .inl (fun _ => 0))), (o_marks, .inl (cI, 401, .inl (fun _ => 0))), (o_pictures, .inl (cJ, 1604, .inr (.inl (fun _ => 0))))] H := hP
  have hD : va_D A [(o, .inr (1, [.ref o_present, .int 0, .ref o_told, .ref o_memories, .ref o_marks, .ref o_pictures])), (o_present, .inr (3, [.ref o_present_board, .int f_Po_init.2.1, .int f_Po_init.2.2.1, .int f_Po_init.2.2.2.1, .int f_Po_init.2.2.2.2.1, .int f_Po_init.2.2.2.2.2])), (o_present_board, .inr (0, [.ref o_present_board_men, .ref o_present_board_sets])), (o_present_board_men, .inl (cI, 64, .inl f_Po_init.1.1)), (o_present_board_sets, .inl (cJ, 16, .inr (.inl f_Po_init.1.2))), (o_told, .inl (cI, 400, .inl (fun _ => 0))), (o_memories, .inl (cI, 400, .inl (fun _ => 0))), (o_marks, .inl (cI, 401, .inl (fun _ => 0))), (o_pictures, .inl (cJ, 1604, .inr (.inl (fun _ => 0))))] := hD
  have hv : f_Ga_init = (f_Po_init, 0, (fun _ => 0), (fun _ => 0), (fun _ => 0), (fun _ => 0)) := (by rw [f_Ga_init_eq] <;> rfl)
  have hP9 : va_P (dC, dI) vwCl [(o, .inr (1, [.ref o_present, .int ((f_Ga_init).2.1), .ref o_told, .ref o_memories, .ref o_marks, .ref o_pictures])), (o_present, .inr (3, [.ref o_present_board, .int (((f_Ga_init).1).2.1), .int (((f_Ga_init).1).2.2.1), .int (((f_Ga_init).1).2.2.2.1), .int (((f_Ga_init).1).2.2.2.2.1), .int (((f_Ga_init).1).2.2.2.2.2)])), (o_present_board, .inr (0, [.ref o_present_board_men, .ref o_present_board_sets])), (o_present_board_men, .inl (cI, 64, .inl ((((f_Ga_init).1).1).1))), (o_present_board_sets, .inl (cJ, 16, .inr (.inl ((((f_Ga_init).1).1).2)))), (o_told, .inl (cI, 400, .inl ((f_Ga_init).2.2.1))), (o_memories, .inl (cI, 400, .inl ((f_Ga_init).2.2.2.1))), (o_marks, .inl (cI, 401, .inl ((f_Ga_init).2.2.2.2.1))), (o_pictures, .inl (cJ, 1604, .inr (.inl ((f_Ga_init).2.2.2.2.2))))] H := by first | (rw [hv]; exact hP.sub [0, 1, 2, 3, 4, 5, 6, 7, 8] rfl) | exact hP.sub [0, 1, 2, 3, 4, 5, 6, 7, 8] rfl
  have hD9 : va_D A [(o, .inr (1, [.ref o_present, .int ((f_Ga_init).2.1), .ref o_told, .ref o_memories, .ref o_marks, .ref o_pictures])), (o_present, .inr (3, [.ref o_present_board, .int (((f_Ga_init).1).2.1), .int (((f_Ga_init).1).2.2.1), .int (((f_Ga_init).1).2.2.2.1), .int (((f_Ga_init).1).2.2.2.2.1), .int (((f_Ga_init).1).2.2.2.2.2)])), (o_present_board, .inr (0, [.ref o_present_board_men, .ref o_present_board_sets])), (o_present_board_men, .inl (cI, 64, .inl ((((f_Ga_init).1).1).1))), (o_present_board_sets, .inl (cJ, 16, .inr (.inl ((((f_Ga_init).1).1).2)))), (o_told, .inl (cI, 400, .inl ((f_Ga_init).2.2.1))), (o_memories, .inl (cI, 400, .inl ((f_Ga_init).2.2.2.1))), (o_marks, .inl (cI, 401, .inl ((f_Ga_init).2.2.2.2.1))), (o_pictures, .inl (cJ, 1604, .inr (.inl ((f_Ga_init).2.2.2.2.2))))] := by first | (rw [hv]; exact hD.sub [0, 1, 2, 3, 4, 5, 6, 7, 8] (by decide) rfl) | exact hD.sub [0, 1, 2, 3, 4, 5, 6, 7, 8] (by decide) rfl
  rw [hQ]; exact W.vret hx hb hr (fun t9 ht9 hW9 => ⟨⟨(o_present, o_present_board, o_present_board_men, o_present_board_sets, o_told, o_memories, o_marks, o_pictures), rfl, trivial, by rw [ht9]; exact hP9, va_K.moved hW9.alike hK, hD9⟩, hS.F ht9⟩) hS.2.2 dGa_init_56 hlocks

theorem pic_in {c b : Int32} (h1 : 0 ≤ c.toInt) (h2 : c.toInt ≤ 400) (h3 : 0 ≤ b.toInt) (h4 : b.toInt < 4) : vp_in ((4 * c) + b) 1604 := by
  have h5 : (4 : Int32).toInt = 4 := rfl
  have h6 : (4 * c).toInt = 4 * c.toInt := by rw [i_mul (by rw [h5]; omega) (by rw [h5]; omega), h5]
  have h7 : ((4 * c) + b).toInt = 4 * c.toInt + b.toInt := by rw [i_add (by omega) (by omega), h6]
  exact vp_in_iff.mpr (by omega)
theorem i_dec (x : Int32) (h : 0 < x.toInt) : (x - 1).toInt = x.toInt - 1 := by
  have h2 := i_rng x; have h4 : (1 : Int32).toInt = 1 := rfl
  rw [i_sub (by omega) (by omega), h4]

abbrev cLi_add : ByteArray := prog_4_method_2_code
def yLi_add : MethodName := ⟨"ChessRules$Line", "add", "(I)V"⟩
def wsLi_add : List Cond := Cond.code yLi_add cLi_add 2 none :: BIG
theorem dLi_add_0 : decode cLi_add 0 = .ok (.aload_n 0, 1) := by decide +kernel
theorem dLi_add_1 : decode cLi_add 1 = .ok (.getfield 15, 3) := by decide +kernel
theorem dLi_add_4 : decode cLi_add 4 = .ok (.ifCond .lt 33, 3) := by decide +kernel
theorem dLi_add_7 : decode cLi_add 7 = .ok (.aload_n 0, 1) := by decide +kernel
theorem dLi_add_8 : decode cLi_add 8 = .ok (.getfield 15, 3) := by decide +kernel
theorem dLi_add_11 : decode cLi_add 11 = .ok (.bipush 100, 2) := by decide +kernel
theorem dLi_add_13 : decode cLi_add 13 = .ok (.if_icmp .ge 24, 3) := by decide +kernel
theorem dLi_add_16 : decode cLi_add 16 = .ok (.aload_n 0, 1) := by decide +kernel
theorem dLi_add_17 : decode cLi_add 17 = .ok (.getfield 9, 3) := by decide +kernel
theorem dLi_add_20 : decode cLi_add 20 = .ok (.aload_n 0, 1) := by decide +kernel
theorem dLi_add_21 : decode cLi_add 21 = .ok (.getfield 15, 3) := by decide +kernel
theorem dLi_add_24 : decode cLi_add 24 = .ok (.iload_n 1, 1) := by decide +kernel
theorem dLi_add_25 : decode cLi_add 25 = .ok (.i2c, 1) := by decide +kernel
theorem dLi_add_26 : decode cLi_add 26 = .ok (.castore, 1) := by decide +kernel
theorem dLi_add_27 : decode cLi_add 27 = .ok (.aload_n 0, 1) := by decide +kernel
theorem dLi_add_28 : decode cLi_add 28 = .ok (.dup, 1) := by decide +kernel
theorem dLi_add_29 : decode cLi_add 29 = .ok (.getfield 15, 3) := by decide +kernel
theorem dLi_add_32 : decode cLi_add 32 = .ok (.iconst 1, 1) := by decide +kernel
theorem dLi_add_33 : decode cLi_add 33 = .ok (.iadd, 1) := by decide +kernel
theorem dLi_add_34 : decode cLi_add 34 = .ok (.putfield 15, 3) := by decide +kernel
theorem dLi_add_37 : decode cLi_add 37 = .ok (.return_, 1) := by decide +kernel

def f_Li_add (oS_characters : Nat → Int32) (oS_length : Int32) (ch : Int32) : (Nat → Int32) × Int32 :=
  (if oS_length < 0 then (oS_characters, oS_length) else (if 100 ≤ oS_length then (oS_characters, oS_length) else (upd oS_characters oS_length.toNatClampNeg (vp_nar .char (toChar ch)), oS_length + 1)))
theorem f_Li_add_eq (oS_characters : Nat → Int32) (oS_length : Int32) (ch : Int32) : f_Li_add oS_characters oS_length ch =
  (if oS_length < 0 then (oS_characters, oS_length) else (if 100 ≤ oS_length then (oS_characters, oS_length) else (upd oS_characters oS_length.toNatClampNeg (vp_nar .char (toChar ch)), oS_length + 1))) := rfl

set_option maxHeartbeats 4000000 in
set_option maxRecDepth 100000 in
theorem c_Li_add (l : Launch) (dC : Nat → ClassId) (dI : Nat → Nat → Nat) (cI cJ cC : ClassId) (ad : Nat → Nat) (o o_characters : Nat) (sz : Nat) (oS_characters : Nat → Int32) (oS_length : Int32) (ch : Int32) : Met l yLi_add wsLi_add { frames := 0, cells := 0, slots := 0, locals := 0 } (rwP dC dI (TYS cI cJ cC) [.ref o, .int ch] [(o, .inr (2, [.ref o_characters, .int oS_length])), (o_characters, .inl (cC, 100, .inl oS_characters))] sz (GS ad)) (va_Qv (fun _ : Unit => True) (rwB dC dI (TYS cI cJ cC) [(o, .inr (2, [.ref o_characters, .int ((f_Li_add oS_characters oS_length ch).2)])), (o_characters, .inl (cC, 100, .inl ((f_Li_add oS_characters oS_length ch).1)))] (va_A [(o, .inr (2, [.ref o_characters, .int oS_length])), (o_characters, .inl (cC, 100, .inl oS_characters))] sz)) (va_A [(o, .inr (2, [.ref o_characters, .int oS_length])), (o_characters, .inl (cC, 100, .inl oS_characters))] sz)) 0 0 (va_A [(o, .inr (2, [.ref o_characters, .int oS_length])), (o_characters, .inl (cC, 100, .inl oS_characters))] sz) := by
  refine Met.ofW (cc := cLi_add) (maxL := 2) (ret := none) (by decide) rfl ?_
  intro p e s m args below meth c s₁ B hml hv
  obtain ⟨rfl, hsz, hP, hK, hD0, hG⟩ := hv
  have hx := B.exec
  have hb := B.bytes
  have hr := B.returns
  have hB : ∀ w9 ∈ BIG, w9.before ([.ref o, .int ch]).toArray s = true := fun w9 h => atoms_spec (ws := wsLi_add) B.pre w9 (List.mem_cons_of_mem _ h)
  have hown : s.vm.findClass "ChessRules$Line" = some m.cls := findClass_of_methodNamed B.named
  have hlocks := B.notSynchronized
  subst hsz
  have hD := hD0.self (sz := s.heap.size)
  generalize hAe : va_A [(o, .inr (2, [.ref o_characters, .int oS_length])), (o_characters, .inl (cC, 100, .inl oS_characters))] s.heap.size = A at hD hG ⊢
  have hA : ∀ q : Nat, s.heap.size ≤ q → A q := fun q h => by rw [← hAe]; exact Or.inr h
  have hS : va_S A s.heap s.heap [] := va_S.rf
  have hP : va_P (dC, dI) vwCl [(o, .inr (2, [.ref o_characters, .int oS_length])), (o_characters, .inl (cC, 100, .inl oS_characters))] s.heap := hP
  have hl := lv_entry ([.ref o, .int ch]) (n := 2) (Nat.le_of_ble_eq_true rfl)
  rw [lg_entry_eq]
  generalize (lg_sl ([.ref o, .int ch]) ++ List.replicate (2 - (lg_sl ([.ref o, .int ch])).length) Slot.unset).toArray = ls at hl ⊢
  have hl : lv_has ls 2 [(0, .ref o), (1, .int ch)] := hl
  refine lv_aload_n hx hb dLi_add_0 rfl (lv_at hl 0 rfl) ?_
  refine va_get (D := (dC, dI)) (ci := 2) (v := .int oS_length) (C := RLi) (T := TLi) (N := 2) hx hb hB inLi hown hK hP 0 rfl rfl 1 (by decide) (hB _ q1_46) (fun _ h9 => h9) rfl dLi_add_1 ?_
  refine lv_if_lt (tgt := 37) hx hb dLi_add_4 (by decide) (fun c_1 => ?_) (fun c_1 => ?_)
  · have hv : f_Li_add oS_characters oS_length ch = (oS_characters, oS_length) := (by rw [f_Li_add_eq, if_pos c_1] <;> rfl)
    have hP9 : va_P (dC, dI) vwCl [(o, .inr (2, [.ref o_characters, .int ((f_Li_add oS_characters oS_length ch).2)])), (o_characters, .inl (cC, 100, .inl ((f_Li_add oS_characters oS_length ch).1)))] s.heap := by first | (rw [hv]; exact hP.sub [0, 1] rfl) | exact hP.sub [0, 1] rfl
    have hD9 : va_D A [(o, .inr (2, [.ref o_characters, .int ((f_Li_add oS_characters oS_length ch).2)])), (o_characters, .inl (cC, 100, .inl ((f_Li_add oS_characters oS_length ch).1)))] := by first | (rw [hv]; exact hD.sub [0, 1] (by decide) rfl) | exact hD.sub [0, 1] (by decide) rfl
    exact rw_retv hx hb hr hlocks hK hP9 hD9 hS dLi_add_37
  · refine lv_aload_n hx hb dLi_add_7 rfl (lv_at hl 0 rfl) ?_
    refine va_get (D := (dC, dI)) (ci := 2) (v := .int oS_length) (C := RLi) (T := TLi) (N := 2) hx hb hB inLi hown hK hP 0 rfl rfl 1 (by decide) (hB _ q1_46) (fun _ h9 => h9) rfl dLi_add_8 ?_
    refine lv_bipush (v := 100) hx hb dLi_add_11 (by decide) ?_
    refine lv_icmp_ge (tgt := 37) hx hb dLi_add_13 (by decide) (fun c_2 => ?_) (fun c_2 => ?_)
    · have hv : f_Li_add oS_characters oS_length ch = (oS_characters, oS_length) := (by rw [f_Li_add_eq, if_neg c_1, if_pos c_2] <;> rfl)
      have hP9 : va_P (dC, dI) vwCl [(o, .inr (2, [.ref o_characters, .int ((f_Li_add oS_characters oS_length ch).2)])), (o_characters, .inl (cC, 100, .inl ((f_Li_add oS_characters oS_length ch).1)))] s.heap := by first | (rw [hv]; exact hP.sub [0, 1] rfl) | exact hP.sub [0, 1] rfl
      have hD9 : va_D A [(o, .inr (2, [.ref o_characters, .int ((f_Li_add oS_characters oS_length ch).2)])), (o_characters, .inl (cC, 100, .inl ((f_Li_add oS_characters oS_length ch).1)))] := by first | (rw [hv]; exact hD.sub [0, 1] (by decide) rfl) | exact hD.sub [0, 1] (by decide) rfl
      exact rw_retv hx hb hr hlocks hK hP9 hD9 hS dLi_add_37
    · refine lv_aload_n hx hb dLi_add_16 rfl (lv_at hl 0 rfl) ?_
      refine va_get (D := (dC, dI)) (ci := 2) (v := .ref o_characters) (C := RLi) (T := TLi) (N := 2) hx hb hB inLi hown hK hP 0 rfl rfl 0 (by decide) (hB _ q1_45) (fun _ h9 => h9) rfl dLi_add_17 ?_
      refine lv_aload_n hx hb dLi_add_20 rfl (lv_at hl 0 rfl) ?_
      refine va_get (D := (dC, dI)) (ci := 2) (v := .int oS_length) (C := RLi) (T := TLi) (N := 2) hx hb hB inLi hown hK hP 0 rfl rfl 1 (by decide) (hB _ q1_46) (fun _ h9 => h9) rfl dLi_add_21 ?_
      refine lv_iload_n hx hb dLi_add_24 rfl (lv_at hl 1 rfl) ?_
      refine lv_i2c (v := toChar ch) hx hb dLi_add_25 rfl ?_
      refine va_cast hx hb hK hP hD hS 1 2 rfl rfl (vp_in_iff.mpr (by have z0 := tnl c_1; have z1 := tnle c_2; have y0 : (0 : Int32).toInt = 0 := rfl; have y100 : (100 : Int32).toInt = 100 := rfl; omega)) dLi_add_26 (fun H locs hP hD hS => ?_)
      have hP : va_P (dC, dI) vwCl [(o, .inr (2, [.ref o_characters, .int oS_length])), (o_characters, .inl (cC, 100, .inl (upd oS_characters oS_length.toNatClampNeg (vp_nar .char (toChar ch)))))] H := hP
      have hD : va_D A [(o, .inr (2, [.ref o_characters, .int oS_length])), (o_characters, .inl (cC, 100, .inl (upd oS_characters oS_length.toNatClampNeg (vp_nar .char (toChar ch)))))] := hD
      refine lv_aload_n hx hb dLi_add_27 rfl (lv_at hl 0 rfl) ?_
      refine lv_dup hx hb dLi_add_28 rfl ?_
      refine va_get (D := (dC, dI)) (ci := 2) (v := .int oS_length) (C := RLi) (T := TLi) (N := 2) hx hb hB inLi hown hK hP 0 rfl rfl 1 (by decide) (hB _ q1_46) (fun _ h9 => h9) rfl dLi_add_29 ?_
      refine lv_iconst (v := 1) hx hb dLi_add_32 (by decide) ?_
      refine lv_iadd hx hb dLi_add_33 ?_
      refine va_put (D := (dC, dI)) (ci := 2) (v := .int (oS_length + 1)) (ty := .int) (C := RLi) (T := TLi) (N := 2) hx hb hB inLi tyLi tyLi_ok nmLi hown hK hP hD hS 0 rfl rfl 1 (by decide) (hB _ q1_46) (fun _ h9 => h9) rfl (by decide +kernel) rfl rfl (Nat.le_of_ble_eq_true rfl) dLi_add_34 (fun H locs hP hD hS => ?_)
      have hP : va_P (dC, dI) vwCl [(o, .inr (2, [.ref o_characters, .int (oS_length + 1)])), (o_characters, .inl (cC, 100, .inl (upd oS_characters oS_length.toNatClampNeg (vp_nar .char (toChar ch)))))] H := hP
      have hD : va_D A [(o, .inr (2, [.ref o_characters, .int (oS_length + 1)])), (o_characters, .inl (cC, 100, .inl (upd oS_characters oS_length.toNatClampNeg (vp_nar .char (toChar ch)))))] := hD
      have hv : f_Li_add oS_characters oS_length ch = (upd oS_characters oS_length.toNatClampNeg (vp_nar .char (toChar ch)), oS_length + 1) := (by rw [f_Li_add_eq, if_neg c_1, if_neg c_2] <;> rfl)
      have hP9 : va_P (dC, dI) vwCl [(o, .inr (2, [.ref o_characters, .int ((f_Li_add oS_characters oS_length ch).2)])), (o_characters, .inl (cC, 100, .inl ((f_Li_add oS_characters oS_length ch).1)))] H := by first | (rw [hv]; exact hP.sub [0, 1] rfl) | exact hP.sub [0, 1] rfl
      have hD9 : va_D A [(o, .inr (2, [.ref o_characters, .int ((f_Li_add oS_characters oS_length ch).2)])), (o_characters, .inl (cC, 100, .inl ((f_Li_add oS_characters oS_length ch).1)))] := by first | (rw [hv]; exact hD.sub [0, 1] (by decide) rfl) | exact hD.sub [0, 1] (by decide) rfl
      exact rw_retv hx hb hr hlocks hK hP9 hD9 hS dLi_add_37

abbrev cLi_shorten : ByteArray := prog_4_method_3_code
def yLi_shorten : MethodName := ⟨"ChessRules$Line", "shorten", "(I)V"⟩
def wsLi_shorten : List Cond := Cond.code yLi_shorten cLi_shorten 2 none :: BIG
theorem dLi_shorten_0 : decode cLi_shorten 0 = .ok (.iload_n 1, 1) := by decide +kernel
theorem dLi_shorten_1 : decode cLi_shorten 1 = .ok (.ifCond .lt 16, 3) := by decide +kernel
theorem dLi_shorten_4 : decode cLi_shorten 4 = .ok (.iload_n 1, 1) := by decide +kernel
theorem dLi_shorten_5 : decode cLi_shorten 5 = .ok (.aload_n 0, 1) := by decide +kernel
theorem dLi_shorten_6 : decode cLi_shorten 6 = .ok (.getfield 15, 3) := by decide +kernel
theorem dLi_shorten_9 : decode cLi_shorten 9 = .ok (.if_icmp .gt 8, 3) := by decide +kernel
theorem dLi_shorten_12 : decode cLi_shorten 12 = .ok (.aload_n 0, 1) := by decide +kernel
theorem dLi_shorten_13 : decode cLi_shorten 13 = .ok (.iload_n 1, 1) := by decide +kernel
theorem dLi_shorten_14 : decode cLi_shorten 14 = .ok (.putfield 15, 3) := by decide +kernel
theorem dLi_shorten_17 : decode cLi_shorten 17 = .ok (.return_, 1) := by decide +kernel

def f_Li_shorten (oS_length : Int32) (n : Int32) : Int32 :=
  (if n < 0 then oS_length else (if oS_length < n then oS_length else n))
theorem f_Li_shorten_eq (oS_length : Int32) (n : Int32) : f_Li_shorten oS_length n =
  (if n < 0 then oS_length else (if oS_length < n then oS_length else n)) := rfl

set_option maxHeartbeats 4000000 in
set_option maxRecDepth 100000 in
theorem c_Li_shorten (l : Launch) (dC : Nat → ClassId) (dI : Nat → Nat → Nat) (cI cJ cC : ClassId) (ad : Nat → Nat) (o o_characters : Nat) (sz : Nat) (oS_characters : Nat → Int32) (oS_length : Int32) (n : Int32) : Met l yLi_shorten wsLi_shorten { frames := 0, cells := 0, slots := 0, locals := 0 } (rwP dC dI (TYS cI cJ cC) [.ref o, .int n] [(o, .inr (2, [.ref o_characters, .int oS_length])), (o_characters, .inl (cC, 100, .inl oS_characters))] sz (GS ad)) (va_Qv (fun _ : Unit => True) (rwB dC dI (TYS cI cJ cC) [(o, .inr (2, [.ref o_characters, .int (f_Li_shorten oS_length n)])), (o_characters, .inl (cC, 100, .inl oS_characters))] (va_A [(o, .inr (2, [.ref o_characters, .int oS_length])), (o_characters, .inl (cC, 100, .inl oS_characters))] sz)) (va_A [(o, .inr (2, [.ref o_characters, .int oS_length])), (o_characters, .inl (cC, 100, .inl oS_characters))] sz)) 0 0 (va_A [(o, .inr (2, [.ref o_characters, .int oS_length])), (o_characters, .inl (cC, 100, .inl oS_characters))] sz) := by
  refine Met.ofW (cc := cLi_shorten) (maxL := 2) (ret := none) (by decide) rfl ?_
  intro p e s m args below meth c s₁ B hml hv
  obtain ⟨rfl, hsz, hP, hK, hD0, hG⟩ := hv
  have hx := B.exec
  have hb := B.bytes
  have hr := B.returns
  have hB : ∀ w9 ∈ BIG, w9.before ([.ref o, .int n]).toArray s = true := fun w9 h => atoms_spec (ws := wsLi_shorten) B.pre w9 (List.mem_cons_of_mem _ h)
  have hown : s.vm.findClass "ChessRules$Line" = some m.cls := findClass_of_methodNamed B.named
  have hlocks := B.notSynchronized
  subst hsz
  have hD := hD0.self (sz := s.heap.size)
  generalize hAe : va_A [(o, .inr (2, [.ref o_characters, .int oS_length])), (o_characters, .inl (cC, 100, .inl oS_characters))] s.heap.size = A at hD hG ⊢
  have hA : ∀ q : Nat, s.heap.size ≤ q → A q := fun q h => by rw [← hAe]; exact Or.inr h
  have hS : va_S A s.heap s.heap [] := va_S.rf
  have hP : va_P (dC, dI) vwCl [(o, .inr (2, [.ref o_characters, .int oS_length])), (o_characters, .inl (cC, 100, .inl oS_characters))] s.heap := hP
  have hl := lv_entry ([.ref o, .int n]) (n := 2) (Nat.le_of_ble_eq_true rfl)
  rw [lg_entry_eq]
  generalize (lg_sl ([.ref o, .int n]) ++ List.replicate (2 - (lg_sl ([.ref o, .int n])).length) Slot.unset).toArray = ls at hl ⊢
  have hl : lv_has ls 2 [(0, .ref o), (1, .int n)] := hl
  refine lv_iload_n hx hb dLi_shorten_0 rfl (lv_at hl 1 rfl) ?_
  refine lv_if_lt (tgt := 17) hx hb dLi_shorten_1 (by decide) (fun c_1 => ?_) (fun c_1 => ?_)
  · have hv : f_Li_shorten oS_length n = oS_length := (by rw [f_Li_shorten_eq, if_pos c_1] <;> rfl)
    have hP9 : va_P (dC, dI) vwCl [(o, .inr (2, [.ref o_characters, .int (f_Li_shorten oS_length n)])), (o_characters, .inl (cC, 100, .inl oS_characters))] s.heap := by first | (rw [hv]; exact hP.sub [0, 1] rfl) | exact hP.sub [0, 1] rfl
    have hD9 : va_D A [(o, .inr (2, [.ref o_characters, .int (f_Li_shorten oS_length n)])), (o_characters, .inl (cC, 100, .inl oS_characters))] := by first | (rw [hv]; exact hD.sub [0, 1] (by decide) rfl) | exact hD.sub [0, 1] (by decide) rfl
    exact rw_retv hx hb hr hlocks hK hP9 hD9 hS dLi_shorten_17
  · refine lv_iload_n hx hb dLi_shorten_4 rfl (lv_at hl 1 rfl) ?_
    refine lv_aload_n hx hb dLi_shorten_5 rfl (lv_at hl 0 rfl) ?_
    refine va_get (D := (dC, dI)) (ci := 2) (v := .int oS_length) (C := RLi) (T := TLi) (N := 2) hx hb hB inLi hown hK hP 0 rfl rfl 1 (by decide) (hB _ q1_46) (fun _ h9 => h9) rfl dLi_shorten_6 ?_
    refine lv_icmp_gt (tgt := 17) hx hb dLi_shorten_9 (by decide) (fun c_2 => ?_) (fun c_2 => ?_)
    · have hv : f_Li_shorten oS_length n = oS_length := (by rw [f_Li_shorten_eq, if_neg c_1, if_pos c_2] <;> rfl)
      have hP9 : va_P (dC, dI) vwCl [(o, .inr (2, [.ref o_characters, .int (f_Li_shorten oS_length n)])), (o_characters, .inl (cC, 100, .inl oS_characters))] s.heap := by first | (rw [hv]; exact hP.sub [0, 1] rfl) | exact hP.sub [0, 1] rfl
      have hD9 : va_D A [(o, .inr (2, [.ref o_characters, .int (f_Li_shorten oS_length n)])), (o_characters, .inl (cC, 100, .inl oS_characters))] := by first | (rw [hv]; exact hD.sub [0, 1] (by decide) rfl) | exact hD.sub [0, 1] (by decide) rfl
      exact rw_retv hx hb hr hlocks hK hP9 hD9 hS dLi_shorten_17
    · refine lv_aload_n hx hb dLi_shorten_12 rfl (lv_at hl 0 rfl) ?_
      refine lv_iload_n hx hb dLi_shorten_13 rfl (lv_at hl 1 rfl) ?_
      refine va_put (D := (dC, dI)) (ci := 2) (v := .int n) (ty := .int) (C := RLi) (T := TLi) (N := 2) hx hb hB inLi tyLi tyLi_ok nmLi hown hK hP hD hS 0 rfl rfl 1 (by decide) (hB _ q1_46) (fun _ h9 => h9) rfl (by decide +kernel) rfl rfl (Nat.le_of_ble_eq_true rfl) dLi_shorten_14 (fun H locs hP hD hS => ?_)
      have hP : va_P (dC, dI) vwCl [(o, .inr (2, [.ref o_characters, .int n])), (o_characters, .inl (cC, 100, .inl oS_characters))] H := hP
      have hD : va_D A [(o, .inr (2, [.ref o_characters, .int n])), (o_characters, .inl (cC, 100, .inl oS_characters))] := hD
      have hv : f_Li_shorten oS_length n = n := (by rw [f_Li_shorten_eq, if_neg c_1, if_neg c_2] <;> rfl)
      have hP9 : va_P (dC, dI) vwCl [(o, .inr (2, [.ref o_characters, .int (f_Li_shorten oS_length n)])), (o_characters, .inl (cC, 100, .inl oS_characters))] H := by first | (rw [hv]; exact hP.sub [0, 1] rfl) | exact hP.sub [0, 1] rfl
      have hD9 : va_D A [(o, .inr (2, [.ref o_characters, .int (f_Li_shorten oS_length n)])), (o_characters, .inl (cC, 100, .inl oS_characters))] := by first | (rw [hv]; exact hD.sub [0, 1] (by decide) rfl) | exact hD.sub [0, 1] (by decide) rfl
      exact rw_retv hx hb hr hlocks hK hP9 hD9 hS dLi_shorten_17

abbrev cLi_at : ByteArray := prog_4_method_4_code
def yLi_at : MethodName := ⟨"ChessRules$Line", "at", "(I)I"⟩
def wsLi_at : List Cond := Cond.code yLi_at cLi_at 2 (some .int) :: BIG
theorem dLi_at_0 : decode cLi_at 0 = .ok (.iload_n 1, 1) := by decide +kernel
theorem dLi_at_1 : decode cLi_at 1 = .ok (.ifCond .lt 26, 3) := by decide +kernel
theorem dLi_at_4 : decode cLi_at 4 = .ok (.iload_n 1, 1) := by decide +kernel
theorem dLi_at_5 : decode cLi_at 5 = .ok (.aload_n 0, 1) := by decide +kernel
theorem dLi_at_6 : decode cLi_at 6 = .ok (.getfield 15, 3) := by decide +kernel
theorem dLi_at_9 : decode cLi_at 9 = .ok (.if_icmp .ge 18, 3) := by decide +kernel
theorem dLi_at_12 : decode cLi_at 12 = .ok (.iload_n 1, 1) := by decide +kernel
theorem dLi_at_13 : decode cLi_at 13 = .ok (.bipush 100, 2) := by decide +kernel
theorem dLi_at_15 : decode cLi_at 15 = .ok (.if_icmp .ge 12, 3) := by decide +kernel
theorem dLi_at_18 : decode cLi_at 18 = .ok (.aload_n 0, 1) := by decide +kernel
theorem dLi_at_19 : decode cLi_at 19 = .ok (.getfield 9, 3) := by decide +kernel
theorem dLi_at_22 : decode cLi_at 22 = .ok (.iload_n 1, 1) := by decide +kernel
theorem dLi_at_23 : decode cLi_at 23 = .ok (.caload, 1) := by decide +kernel
theorem dLi_at_24 : decode cLi_at 24 = .ok (.goto 4, 3) := by decide +kernel
theorem dLi_at_27 : decode cLi_at 27 = .ok (.iconst 0, 1) := by decide +kernel
theorem dLi_at_28 : decode cLi_at 28 = .ok (.ireturn, 1) := by decide +kernel

def f_Li_at (oS_characters : Nat → Int32) (oS_length : Int32) (i : Int32) : Int32 :=
  (if i < 0 then 0 else (if oS_length ≤ i then 0 else (if 100 ≤ i then 0 else oS_characters i.toNatClampNeg)))
theorem f_Li_at_eq (oS_characters : Nat → Int32) (oS_length : Int32) (i : Int32) : f_Li_at oS_characters oS_length i =
  (if i < 0 then 0 else (if oS_length ≤ i then 0 else (if 100 ≤ i then 0 else oS_characters i.toNatClampNeg))) := rfl

set_option maxHeartbeats 4000000 in
set_option maxRecDepth 100000 in
theorem c_Li_at (l : Launch) (dC : Nat → ClassId) (dI : Nat → Nat → Nat) (cI cJ cC : ClassId) (ad : Nat → Nat) (o o_characters : Nat) (oS_characters : Nat → Int32) (oS_length : Int32) (i : Int32) : Met l yLi_at wsLi_at { frames := 0, cells := 0, slots := 0, locals := 0 } (roP dC dI (TYS cI cJ cC) [.ref o, .int i] [(o, .inr (2, [.ref o_characters, .int oS_length])), (o_characters, .inl (cC, 100, .inl oS_characters))] (GS ad)) (vp_Si (fun r => r = f_Li_at oS_characters oS_length i)) 0 0 (fun _ => False) := by
  refine Met.ofW (cc := cLi_at) (maxL := 2) (ret := (some .int)) (by decide) rfl ?_
  intro p e s m args below meth c s₁ B hml hv
  obtain ⟨rfl, hP, hK, hG⟩ := hv
  have hx := B.exec
  have hb := B.bytes
  have hr := B.returns
  have hB : ∀ w9 ∈ BIG, w9.before ([.ref o, .int i]).toArray s = true := fun w9 h => atoms_spec (ws := wsLi_at) B.pre w9 (List.mem_cons_of_mem _ h)
  have hown : s.vm.findClass "ChessRules$Line" = some m.cls := findClass_of_methodNamed B.named
  have hlocks := B.notSynchronized
  have hS : va_S (fun _ => False) s.heap s.heap [] := va_S.rf
  have hP : va_P (dC, dI) vwCl [(o, .inr (2, [.ref o_characters, .int oS_length])), (o_characters, .inl (cC, 100, .inl oS_characters))] s.heap := hP
  have hl := lv_entry ([.ref o, .int i]) (n := 2) (Nat.le_of_ble_eq_true rfl)
  rw [lg_entry_eq]
  generalize (lg_sl ([.ref o, .int i]) ++ List.replicate (2 - (lg_sl ([.ref o, .int i])).length) Slot.unset).toArray = ls at hl ⊢
  have hl : lv_has ls 2 [(0, .ref o), (1, .int i)] := hl
  refine lv_iload_n hx hb dLi_at_0 rfl (lv_at hl 1 rfl) ?_
  refine lv_if_lt (tgt := 27) hx hb dLi_at_1 (by decide) (fun c_1 => ?_) (fun c_1 => ?_)
  · refine lv_iconst (v := 0) hx hb dLi_at_27 (by decide) ?_
    exact ro_reti hx hb hr hlocks dLi_at_28 (Eq.symm (by rw [f_Li_at_eq, if_pos c_1] <;> rfl))
  · refine lv_iload_n hx hb dLi_at_4 rfl (lv_at hl 1 rfl) ?_
    refine lv_aload_n hx hb dLi_at_5 rfl (lv_at hl 0 rfl) ?_
    refine va_get (D := (dC, dI)) (ci := 2) (v := .int oS_length) (C := RLi) (T := TLi) (N := 2) hx hb hB inLi hown hK hP 0 rfl rfl 1 (by decide) (hB _ q1_46) (fun _ h9 => h9) rfl dLi_at_6 ?_
    refine lv_icmp_ge (tgt := 27) hx hb dLi_at_9 (by decide) (fun c_2 => ?_) (fun c_2 => ?_)
    · refine lv_iconst (v := 0) hx hb dLi_at_27 (by decide) ?_
      exact ro_reti hx hb hr hlocks dLi_at_28 (Eq.symm (by rw [f_Li_at_eq, if_neg c_1, if_pos c_2] <;> rfl))
    · refine lv_iload_n hx hb dLi_at_12 rfl (lv_at hl 1 rfl) ?_
      refine lv_bipush (v := 100) hx hb dLi_at_13 (by decide) ?_
      refine lv_icmp_ge (tgt := 27) hx hb dLi_at_15 (by decide) (fun c_3 => ?_) (fun c_3 => ?_)
      · refine lv_iconst (v := 0) hx hb dLi_at_27 (by decide) ?_
        exact ro_reti hx hb hr hlocks dLi_at_28 (Eq.symm (by rw [f_Li_at_eq, if_neg c_1, if_neg c_2, if_pos c_3] <;> rfl))
      · refine lv_aload_n hx hb dLi_at_18 rfl (lv_at hl 0 rfl) ?_
        refine va_get (D := (dC, dI)) (ci := 2) (v := .ref o_characters) (C := RLi) (T := TLi) (N := 2) hx hb hB inLi hown hK hP 0 rfl rfl 0 (by decide) (hB _ q1_45) (fun _ h9 => h9) rfl dLi_at_19 ?_
        refine lv_iload_n hx hb dLi_at_22 rfl (lv_at hl 1 rfl) ?_
        refine va_cald hx hb hK hP 1 2 rfl rfl (vp_in_iff.mpr (by have z0 := tnl c_1; have z1 := tnle c_2; have z2 := tnle c_3; have y0 : (0 : Int32).toInt = 0 := rfl; have y100 : (100 : Int32).toInt = 100 := rfl; omega)) dLi_at_23 ?_
        refine lv_goto (tgt := 28) hx hb dLi_at_24 (by decide) ?_
        exact ro_reti hx hb hr hlocks dLi_at_28 (Eq.symm (by rw [f_Li_at_eq, if_neg c_1, if_neg c_2, if_neg c_3] <;> rfl))

abbrev cGa_keepPicture : ByteArray := prog_3_method_5_code
def yGa_keepPicture : MethodName := ⟨"ChessRules$Game", "keepPicture", "()V"⟩
def wsGa_keepPicture : List Cond := Cond.code yGa_keepPicture cGa_keepPicture 2 none :: BIG
theorem dGa_keepPicture_0 : decode cGa_keepPicture 0 = .ok (.aload_n 0, 1) := by decide +kernel
theorem dGa_keepPicture_1 : decode cGa_keepPicture 1 = .ok (.getfield 18, 3) := by decide +kernel
theorem dGa_keepPicture_4 : decode cGa_keepPicture 4 = .ok (.ifCond .lt 89, 3) := by decide +kernel
theorem dGa_keepPicture_7 : decode cGa_keepPicture 7 = .ok (.aload_n 0, 1) := by decide +kernel
theorem dGa_keepPicture_8 : decode cGa_keepPicture 8 = .ok (.getfield 18, 3) := by decide +kernel
theorem dGa_keepPicture_11 : decode cGa_keepPicture 11 = .ok (.sipush 400, 3) := by decide +kernel
theorem dGa_keepPicture_14 : decode cGa_keepPicture 14 = .ok (.if_icmp .gt 79, 3) := by decide +kernel
theorem dGa_keepPicture_17 : decode cGa_keepPicture 17 = .ok (.aload_n 0, 1) := by decide +kernel
theorem dGa_keepPicture_18 : decode cGa_keepPicture 18 = .ok (.getfield 29, 3) := by decide +kernel
theorem dGa_keepPicture_21 : decode cGa_keepPicture 21 = .ok (.aload_n 0, 1) := by decide +kernel
theorem dGa_keepPicture_22 : decode cGa_keepPicture 22 = .ok (.getfield 18, 3) := by decide +kernel
theorem dGa_keepPicture_25 : decode cGa_keepPicture 25 = .ok (.aload_n 0, 1) := by decide +kernel
theorem dGa_keepPicture_26 : decode cGa_keepPicture 26 = .ok (.getfield 12, 3) := by decide +kernel
theorem dGa_keepPicture_29 : decode cGa_keepPicture 29 = .ok (.getfield 51, 3) := by decide +kernel
theorem dGa_keepPicture_32 : decode cGa_keepPicture 32 = .ok (.iconst 2, 1) := by decide +kernel
theorem dGa_keepPicture_33 : decode cGa_keepPicture 33 = .ok (.aload_n 0, 1) := by decide +kernel
theorem dGa_keepPicture_34 : decode cGa_keepPicture 34 = .ok (.getfield 12, 3) := by decide +kernel
theorem dGa_keepPicture_37 : decode cGa_keepPicture 37 = .ok (.getfield 54, 3) := by decide +kernel
theorem dGa_keepPicture_40 : decode cGa_keepPicture 40 = .ok (.imul, 1) := by decide +kernel
theorem dGa_keepPicture_41 : decode cGa_keepPicture 41 = .ok (.iadd, 1) := by decide +kernel
theorem dGa_keepPicture_42 : decode cGa_keepPicture 42 = .ok (.bipush 32, 2) := by decide +kernel
theorem dGa_keepPicture_44 : decode cGa_keepPicture 44 = .ok (.aload_n 0, 1) := by decide +kernel
theorem dGa_keepPicture_45 : decode cGa_keepPicture 45 = .ok (.getfield 12, 3) := by decide +kernel
theorem dGa_keepPicture_48 : decode cGa_keepPicture 48 = .ok (.invokevirtual 57, 3) := by decide +kernel
theorem dGa_keepPicture_51 : decode cGa_keepPicture 51 = .ok (.iconst 1, 1) := by decide +kernel
theorem dGa_keepPicture_52 : decode cGa_keepPicture 52 = .ok (.iadd, 1) := by decide +kernel
theorem dGa_keepPicture_53 : decode cGa_keepPicture 53 = .ok (.imul, 1) := by decide +kernel
theorem dGa_keepPicture_54 : decode cGa_keepPicture 54 = .ok (.iadd, 1) := by decide +kernel
theorem dGa_keepPicture_55 : decode cGa_keepPicture 55 = .ok (.iastore, 1) := by decide +kernel
theorem dGa_keepPicture_56 : decode cGa_keepPicture 56 = .ok (.iconst 0, 1) := by decide +kernel
theorem dGa_keepPicture_57 : decode cGa_keepPicture 57 = .ok (.istore_n 1, 1) := by decide +kernel
theorem dGa_keepPicture_58 : decode cGa_keepPicture 58 = .ok (.iload_n 1, 1) := by decide +kernel
theorem dGa_keepPicture_59 : decode cGa_keepPicture 59 = .ok (.iconst 4, 1) := by decide +kernel
theorem dGa_keepPicture_60 : decode cGa_keepPicture 60 = .ok (.if_icmp .ge 33, 3) := by decide +kernel
theorem dGa_keepPicture_63 : decode cGa_keepPicture 63 = .ok (.aload_n 0, 1) := by decide +kernel
theorem dGa_keepPicture_64 : decode cGa_keepPicture 64 = .ok (.getfield 32, 3) := by decide +kernel
theorem dGa_keepPicture_67 : decode cGa_keepPicture 67 = .ok (.iconst 4, 1) := by decide +kernel
theorem dGa_keepPicture_68 : decode cGa_keepPicture 68 = .ok (.aload_n 0, 1) := by decide +kernel
theorem dGa_keepPicture_69 : decode cGa_keepPicture 69 = .ok (.getfield 18, 3) := by decide +kernel
theorem dGa_keepPicture_72 : decode cGa_keepPicture 72 = .ok (.imul, 1) := by decide +kernel
theorem dGa_keepPicture_73 : decode cGa_keepPicture 73 = .ok (.iload_n 1, 1) := by decide +kernel
theorem dGa_keepPicture_74 : decode cGa_keepPicture 74 = .ok (.iadd, 1) := by decide +kernel
theorem dGa_keepPicture_75 : decode cGa_keepPicture 75 = .ok (.aload_n 0, 1) := by decide +kernel
theorem dGa_keepPicture_76 : decode cGa_keepPicture 76 = .ok (.getfield 12, 3) := by decide +kernel
theorem dGa_keepPicture_79 : decode cGa_keepPicture 79 = .ok (.getfield 61, 3) := by decide +kernel
theorem dGa_keepPicture_82 : decode cGa_keepPicture 82 = .ok (.iload_n 1, 1) := by decide +kernel
theorem dGa_keepPicture_83 : decode cGa_keepPicture 83 = .ok (.invokevirtual 65, 3) := by decide +kernel
theorem dGa_keepPicture_86 : decode cGa_keepPicture 86 = .ok (.lastore, 1) := by decide +kernel
theorem dGa_keepPicture_87 : decode cGa_keepPicture 87 = .ok (.iinc 1 1, 3) := by decide +kernel
theorem dGa_keepPicture_90 : decode cGa_keepPicture 90 = .ok (.goto (-32), 3) := by decide +kernel
theorem dGa_keepPicture_93 : decode cGa_keepPicture 93 = .ok (.return_, 1) := by decide +kernel

def f_Ga_keepPicture_58 (oS_present : St_Po) (oS_count : Int32) (oS_marks : Nat → Int32) (oS_pictures : Nat → Int64) : Nat → Int32 → (Nat → Int64) → ((Nat → Int32) × (Nat → Int64))
  | 0 => fun _ _ => (oS_marks, oS_pictures)
  | n_58 + 1 => fun v1_58 W_o_pictures_58 => (if 4 ≤ v1_58 then (upd oS_marks oS_count.toNatClampNeg ((oS_present.2.1 + (2 * oS_present.2.2.1)) + (32 * ((f_Po_passedThatCounts oS_present.1 oS_present.2.1 oS_present.2.2.2.1) + 1))), W_o_pictures_58) else (f_Ga_keepPicture_58 oS_present oS_count oS_marks oS_pictures n_58) (v1_58 + 1) (vp_updL W_o_pictures_58 ((4 * oS_count) + v1_58).toNatClampNeg (f_Bo_squaresWithBit oS_present.1.2 v1_58)))
theorem f_Ga_keepPicture_58_eq (oS_present : St_Po) (oS_count : Int32) (oS_marks : Nat → Int32) (oS_pictures : Nat → Int64) (n_58 : Nat) (v1_58 : Int32) (W_o_pictures_58 : (Nat → Int64)) : f_Ga_keepPicture_58 oS_present oS_count oS_marks oS_pictures (n_58 + 1) v1_58 W_o_pictures_58 =
  (if 4 ≤ v1_58 then (upd oS_marks oS_count.toNatClampNeg ((oS_present.2.1 + (2 * oS_present.2.2.1)) + (32 * ((f_Po_passedThatCounts oS_present.1 oS_present.2.1 oS_present.2.2.2.1) + 1))), W_o_pictures_58) else (f_Ga_keepPicture_58 oS_present oS_count oS_marks oS_pictures n_58) (v1_58 + 1) (vp_updL W_o_pictures_58 ((4 * oS_count) + v1_58).toNatClampNeg (f_Bo_squaresWithBit oS_present.1.2 v1_58))) := rfl

def f_Ga_keepPicture (oS_present : St_Po) (oS_count : Int32) (oS_marks : Nat → Int32) (oS_pictures : Nat → Int64) : (Nat → Int32) × (Nat → Int64) :=
  (if oS_count < 0 then (oS_marks, oS_pictures) else (if 400 < oS_count then (oS_marks, oS_pictures) else f_Ga_keepPicture_58 oS_present oS_count oS_marks oS_pictures (5) 0 oS_pictures))
theorem f_Ga_keepPicture_eq (oS_present : St_Po) (oS_count : Int32) (oS_marks : Nat → Int32) (oS_pictures : Nat → Int64) : f_Ga_keepPicture oS_present oS_count oS_marks oS_pictures =
  (if oS_count < 0 then (oS_marks, oS_pictures) else (if 400 < oS_count then (oS_marks, oS_pictures) else f_Ga_keepPicture_58 oS_present oS_count oS_marks oS_pictures (5) 0 oS_pictures)) := rfl

set_option maxHeartbeats 4000000 in
set_option maxRecDepth 100000 in
theorem c_Ga_keepPicture (l : Launch) (dC : Nat → ClassId) (dI : Nat → Nat → Nat) (cI cJ cC : ClassId) (ad : Nat → Nat) (o o_present o_present_board o_present_board_men o_present_board_sets o_told o_memories o_marks o_pictures : Nat) (sz : Nat) (oS_present : St_Po) (oS_count : Int32) (oS_told : Nat → Int32) (oS_memories : Nat → Int32) (oS_marks : Nat → Int32) (oS_pictures : Nat → Int64) : Met l yGa_keepPicture wsGa_keepPicture { frames := 4, cells := 0, slots := 0, locals := 116 } (rwP dC dI (TYS cI cJ cC) [.ref o] [(o, .inr (1, [.ref o_present, .int oS_count, .ref o_told, .ref o_memories, .ref o_marks, .ref o_pictures])), (o_present, .inr (3, [.ref o_present_board, .int oS_present.2.1, .int oS_present.2.2.1, .int oS_present.2.2.2.1, .int oS_present.2.2.2.2.1, .int oS_present.2.2.2.2.2])), (o_present_board, .inr (0, [.ref o_present_board_men, .ref o_present_board_sets])), (o_present_board_men, .inl (cI, 64, .inl oS_present.1.1)), (o_present_board_sets, .inl (cJ, 16, .inr (.inl oS_present.1.2))), (o_told, .inl (cI, 400, .inl oS_told)), (o_memories, .inl (cI, 400, .inl oS_memories)), (o_marks, .inl (cI, 401, .inl oS_marks)), (o_pictures, .inl (cJ, 1604, .inr (.inl oS_pictures)))] sz (GS ad)) (va_Qv (fun _ : Unit => True) (rwB dC dI (TYS cI cJ cC) [(o, .inr (1, [.ref o_present, .int oS_count, .ref o_told, .ref o_memories, .ref o_marks, .ref o_pictures])), (o_present, .inr (3, [.ref o_present_board, .int oS_present.2.1, .int oS_present.2.2.1, .int oS_present.2.2.2.1, .int oS_present.2.2.2.2.1, .int oS_present.2.2.2.2.2])), (o_present_board, .inr (0, [.ref o_present_board_men, .ref o_present_board_sets])), (o_present_board_men, .inl (cI, 64, .inl oS_present.1.1)), (o_present_board_sets, .inl (cJ, 16, .inr (.inl oS_present.1.2))), (o_told, .inl (cI, 400, .inl oS_told)), (o_memories, .inl (cI, 400, .inl oS_memories)), (o_marks, .inl (cI, 401, .inl ((f_Ga_keepPicture oS_present oS_count oS_marks oS_pictures).1))), (o_pictures, .inl (cJ, 1604, .inr (.inl ((f_Ga_keepPicture oS_present oS_count oS_marks oS_pictures).2))))] (va_A [(o, .inr (1, [.ref o_present, .int oS_count, .ref o_told, .ref o_memories, .ref o_marks, .ref o_pictures])), (o_present, .inr (3, [.ref o_present_board, .int oS_present.2.1, .int oS_present.2.2.1, .int oS_present.2.2.2.1, .int oS_present.2.2.2.2.1, .int oS_present.2.2.2.2.2])), (o_present_board, .inr (0, [.ref o_present_board_men, .ref o_present_board_sets])), (o_present_board_men, .inl (cI, 64, .inl oS_present.1.1)), (o_present_board_sets, .inl (cJ, 16, .inr (.inl oS_present.1.2))), (o_told, .inl (cI, 400, .inl oS_told)), (o_memories, .inl (cI, 400, .inl oS_memories)), (o_marks, .inl (cI, 401, .inl oS_marks)), (o_pictures, .inl (cJ, 1604, .inr (.inl oS_pictures)))] sz)) (va_A [(o, .inr (1, [.ref o_present, .int oS_count, .ref o_told, .ref o_memories, .ref o_marks, .ref o_pictures])), (o_present, .inr (3, [.ref o_present_board, .int oS_present.2.1, .int oS_present.2.2.1, .int oS_present.2.2.2.1, .int oS_present.2.2.2.2.1, .int oS_present.2.2.2.2.2])), (o_present_board, .inr (0, [.ref o_present_board_men, .ref o_present_board_sets])), (o_present_board_men, .inl (cI, 64, .inl oS_present.1.1)), (o_present_board_sets, .inl (cJ, 16, .inr (.inl oS_present.1.2))), (o_told, .inl (cI, 400, .inl oS_told)), (o_memories, .inl (cI, 400, .inl oS_memories)), (o_marks, .inl (cI, 401, .inl oS_marks)), (o_pictures, .inl (cJ, 1604, .inr (.inl oS_pictures)))] sz)) 0 0 (va_A [(o, .inr (1, [.ref o_present, .int oS_count, .ref o_told, .ref o_memories, .ref o_marks, .ref o_pictures])), (o_present, .inr (3, [.ref o_present_board, .int oS_present.2.1, .int oS_present.2.2.1, .int oS_present.2.2.2.1, .int oS_present.2.2.2.2.1, .int oS_present.2.2.2.2.2])), (o_present_board, .inr (0, [.ref o_present_board_men, .ref o_present_board_sets])), (o_present_board_men, .inl (cI, 64, .inl oS_present.1.1)), (o_present_board_sets, .inl (cJ, 16, .inr (.inl oS_present.1.2))), (o_told, .inl (cI, 400, .inl oS_told)), (o_memories, .inl (cI, 400, .inl oS_memories)), (o_marks, .inl (cI, 401, .inl oS_marks)), (o_pictures, .inl (cJ, 1604, .inr (.inl oS_pictures)))] sz) := by
  refine Met.ofW (cc := cGa_keepPicture) (maxL := 2) (ret := none) (by decide) rfl ?_
  intro p e s m args below meth c s₁ B hml hv
  obtain ⟨rfl, hsz, hP, hK, hD0, hG⟩ := hv
  have hx := B.exec
  have hb := B.bytes
  have hr := B.returns
  have hB : ∀ w9 ∈ BIG, w9.before ([.ref o]).toArray s = true := fun w9 h => atoms_spec (ws := wsGa_keepPicture) B.pre w9 (List.mem_cons_of_mem _ h)
  have hown : s.vm.findClass "ChessRules$Game" = some m.cls := findClass_of_methodNamed B.named
  have hlocks := B.notSynchronized
  subst hsz
  have hD := hD0.self (sz := s.heap.size)
  generalize hAe : va_A [(o, .inr (1, [.ref o_present, .int oS_count, .ref o_told, .ref o_memories, .ref o_marks, .ref o_pictures])), (o_present, .inr (3, [.ref o_present_board, .int oS_present.2.1, .int oS_present.2.2.1, .int oS_present.2.2.2.1, .int oS_present.2.2.2.2.1, .int oS_present.2.2.2.2.2])), (o_present_board, .inr (0, [.ref o_present_board_men, .ref o_present_board_sets])), (o_present_board_men, .inl (cI, 64, .inl oS_present.1.1)), (o_present_board_sets, .inl (cJ, 16, .inr (.inl oS_present.1.2))), (o_told, .inl (cI, 400, .inl oS_told)), (o_memories, .inl (cI, 400, .inl oS_memories)), (o_marks, .inl (cI, 401, .inl oS_marks)), (o_pictures, .inl (cJ, 1604, .inr (.inl oS_pictures)))] s.heap.size = A at hD hG ⊢
  have hA : ∀ q : Nat, s.heap.size ≤ q → A q := fun q h => by rw [← hAe]; exact Or.inr h
  have hS : va_S A s.heap s.heap [] := va_S.rf
  have hP : va_P (dC, dI) vwCl [(o, .inr (1, [.ref o_present, .int oS_count, .ref o_told, .ref o_memories, .ref o_marks, .ref o_pictures])), (o_present, .inr (3, [.ref o_present_board, .int oS_present.2.1, .int oS_present.2.2.1, .int oS_present.2.2.2.1, .int oS_present.2.2.2.2.1, .int oS_present.2.2.2.2.2])), (o_present_board, .inr (0, [.ref o_present_board_men, .ref o_present_board_sets])), (o_present_board_men, .inl (cI, 64, .inl oS_present.1.1)), (o_present_board_sets, .inl (cJ, 16, .inr (.inl oS_present.1.2))), (o_told, .inl (cI, 400, .inl oS_told)), (o_memories, .inl (cI, 400, .inl oS_memories)), (o_marks, .inl (cI, 401, .inl oS_marks)), (o_pictures, .inl (cJ, 1604, .inr (.inl oS_pictures)))] s.heap := hP
  have hl := lv_entry ([.ref o]) (n := 2) (Nat.le_of_ble_eq_true rfl)
  rw [lg_entry_eq]
  generalize (lg_sl ([.ref o]) ++ List.replicate (2 - (lg_sl ([.ref o])).length) Slot.unset).toArray = ls at hl ⊢
  have hl : lv_has ls 2 [(0, .ref o)] := hl
  refine lv_aload_n hx hb dGa_keepPicture_0 rfl (lv_at hl 0 rfl) ?_
  refine va_get (D := (dC, dI)) (ci := 1) (v := .int oS_count) (C := RGa) (T := TGa) (N := 6) hx hb hB inGa hown hK hP 0 rfl rfl 1 (by decide) (hB _ q1_144) (fun _ h9 => h9) rfl dGa_keepPicture_1 ?_
  refine lv_if_lt (tgt := 93) hx hb dGa_keepPicture_4 (by decide) (fun c_1 => ?_) (fun c_1 => ?_)
  · have hv : f_Ga_keepPicture oS_present oS_count oS_marks oS_pictures = (oS_marks, oS_pictures) := (by rw [f_Ga_keepPicture_eq, if_pos c_1] <;> rfl)
    have hP9 : va_P (dC, dI) vwCl [(o, .inr (1, [.ref o_present, .int oS_count, .ref o_told, .ref o_memories, .ref o_marks, .ref o_pictures])), (o_present, .inr (3, [.ref o_present_board, .int oS_present.2.1, .int oS_present.2.2.1, .int oS_present.2.2.2.1, .int oS_present.2.2.2.2.1, .int oS_present.2.2.2.2.2])), (o_present_board, .inr (0, [.ref o_present_board_men, .ref o_present_board_sets])), (o_present_board_men, .inl (cI, 64, .inl oS_present.1.1)), (o_present_board_sets, .inl (cJ, 16, .inr (.inl oS_present.1.2))), (o_told, .inl (cI, 400, .inl oS_told)), (o_memories, .inl (cI, 400, .inl oS_memories)), (o_marks, .inl (cI, 401, .inl ((f_Ga_keepPicture oS_present oS_count oS_marks oS_pictures).1))), (o_pictures, .inl (cJ, 1604, .inr (.inl ((f_Ga_keepPicture oS_present oS_count oS_marks oS_pictures).2))))] s.heap := by first | (rw [hv]; exact hP.sub [0, 1, 2, 3, 4, 5, 6, 7, 8] rfl) | exact hP.sub [0, 1, 2, 3, 4, 5, 6, 7, 8] rfl
    have hD9 : va_D A [(o, .inr (1, [.ref o_present, .int oS_count, .ref o_told, .ref o_memories, .ref o_marks, .ref o_pictures])), (o_present, .inr (3, [.ref o_present_board, .int oS_present.2.1, .int oS_present.2.2.1, .int oS_present.2.2.2.1, .int oS_present.2.2.2.2.1, .int oS_present.2.2.2.2.2])), (o_present_board, .inr (0, [.ref o_present_board_men, .ref o_present_board_sets])), (o_present_board_men, .inl (cI, 64, .inl oS_present.1.1)), (o_present_board_sets, .inl (cJ, 16, .inr (.inl oS_present.1.2))), (o_told, .inl (cI, 400, .inl oS_told)), (o_memories, .inl (cI, 400, .inl oS_memories)), (o_marks, .inl (cI, 401, .inl ((f_Ga_keepPicture oS_present oS_count oS_marks oS_pictures).1))), (o_pictures, .inl (cJ, 1604, .inr (.inl ((f_Ga_keepPicture oS_present oS_count oS_marks oS_pictures).2))))] := by first | (rw [hv]; exact hD.sub [0, 1, 2, 3, 4, 5, 6, 7, 8] (by decide) rfl) | exact hD.sub [0, 1, 2, 3, 4, 5, 6, 7, 8] (by decide) rfl
    exact rw_retv hx hb hr hlocks hK hP9 hD9 hS dGa_keepPicture_93
  · refine lv_aload_n hx hb dGa_keepPicture_7 rfl (lv_at hl 0 rfl) ?_
    refine va_get (D := (dC, dI)) (ci := 1) (v := .int oS_count) (C := RGa) (T := TGa) (N := 6) hx hb hB inGa hown hK hP 0 rfl rfl 1 (by decide) (hB _ q1_144) (fun _ h9 => h9) rfl dGa_keepPicture_8 ?_
    refine lv_sipush (v := 400) hx hb dGa_keepPicture_11 (by decide) ?_
    refine lv_icmp_gt (tgt := 93) hx hb dGa_keepPicture_14 (by decide) (fun c_2 => ?_) (fun c_2 => ?_)
    · have hv : f_Ga_keepPicture oS_present oS_count oS_marks oS_pictures = (oS_marks, oS_pictures) := (by rw [f_Ga_keepPicture_eq, if_neg c_1, if_pos c_2] <;> rfl)
      have hP9 : va_P (dC, dI) vwCl [(o, .inr (1, [.ref o_present, .int oS_count, .ref o_told, .ref o_memories, .ref o_marks, .ref o_pictures])), (o_present, .inr (3, [.ref o_present_board, .int oS_present.2.1, .int oS_present.2.2.1, .int oS_present.2.2.2.1, .int oS_present.2.2.2.2.1, .int oS_present.2.2.2.2.2])), (o_present_board, .inr (0, [.ref o_present_board_men, .ref o_present_board_sets])), (o_present_board_men, .inl (cI, 64, .inl oS_present.1.1)), (o_present_board_sets, .inl (cJ, 16, .inr (.inl oS_present.1.2))), (o_told, .inl (cI, 400, .inl oS_told)), (o_memories, .inl (cI, 400, .inl oS_memories)), (o_marks, .inl (cI, 401, .inl ((f_Ga_keepPicture oS_present oS_count oS_marks oS_pictures).1))), (o_pictures, .inl (cJ, 1604, .inr (.inl ((f_Ga_keepPicture oS_present oS_count oS_marks oS_pictures).2))))] s.heap := by first | (rw [hv]; exact hP.sub [0, 1, 2, 3, 4, 5, 6, 7, 8] rfl) | exact hP.sub [0, 1, 2, 3, 4, 5, 6, 7, 8] rfl
      have hD9 : va_D A [(o, .inr (1, [.ref o_present, .int oS_count, .ref o_told, .ref o_memories, .ref o_marks, .ref o_pictures])), (o_present, .inr (3, [.ref o_present_board, .int oS_present.2.1, .int oS_present.2.2.1, .int oS_present.2.2.2.1, .int oS_present.2.2.2.2.1, .int oS_present.2.2.2.2.2])), (o_present_board, .inr (0, [.ref o_present_board_men, .ref o_present_board_sets])), (o_present_board_men, .inl (cI, 64, .inl oS_present.1.1)), (o_present_board_sets, .inl (cJ, 16, .inr (.inl oS_present.1.2))), (o_told, .inl (cI, 400, .inl oS_told)), (o_memories, .inl (cI, 400, .inl oS_memories)), (o_marks, .inl (cI, 401, .inl ((f_Ga_keepPicture oS_present oS_count oS_marks oS_pictures).1))), (o_pictures, .inl (cJ, 1604, .inr (.inl ((f_Ga_keepPicture oS_present oS_count oS_marks oS_pictures).2))))] := by first | (rw [hv]; exact hD.sub [0, 1, 2, 3, 4, 5, 6, 7, 8] (by decide) rfl) | exact hD.sub [0, 1, 2, 3, 4, 5, 6, 7, 8] (by decide) rfl
      exact rw_retv hx hb hr hlocks hK hP9 hD9 hS dGa_keepPicture_93
    · refine lv_aload_n hx hb dGa_keepPicture_17 rfl (lv_at hl 0 rfl) ?_
      refine va_get (D := (dC, dI)) (ci := 1) (v := .ref o_marks) (C := RGa) (T := TGa) (N := 6) hx hb hB inGa hown hK hP 0 rfl rfl 4 (by decide) (hB _ q1_149) (fun _ h9 => h9) rfl dGa_keepPicture_18 ?_
      refine lv_aload_n hx hb dGa_keepPicture_21 rfl (lv_at hl 0 rfl) ?_
      refine va_get (D := (dC, dI)) (ci := 1) (v := .int oS_count) (C := RGa) (T := TGa) (N := 6) hx hb hB inGa hown hK hP 0 rfl rfl 1 (by decide) (hB _ q1_144) (fun _ h9 => h9) rfl dGa_keepPicture_22 ?_
      refine lv_aload_n hx hb dGa_keepPicture_25 rfl (lv_at hl 0 rfl) ?_
      refine va_get (D := (dC, dI)) (ci := 1) (v := .ref o_present) (C := RGa) (T := TGa) (N := 6) hx hb hB inGa hown hK hP 0 rfl rfl 0 (by decide) (hB _ q1_142) (fun _ h9 => h9) rfl dGa_keepPicture_26 ?_
      refine va_getN (D := (dC, dI)) (ci := 3) (v := .int oS_present.2.1) (C := RPo) (T := TPo) (N := 6) hx hb hB inPo hown hK hP 1 rfl rfl 1 (by decide) (va_Nw.use rfl (hG.1 _ q1_87)) (fun _ h9 => h9) rfl dGa_keepPicture_29 ?_
      refine lv_iconst (v := 2) hx hb dGa_keepPicture_32 (by decide) ?_
      refine lv_aload_n hx hb dGa_keepPicture_33 rfl (lv_at hl 0 rfl) ?_
      refine va_get (D := (dC, dI)) (ci := 1) (v := .ref o_present) (C := RGa) (T := TGa) (N := 6) hx hb hB inGa hown hK hP 0 rfl rfl 0 (by decide) (hB _ q1_142) (fun _ h9 => h9) rfl dGa_keepPicture_34 ?_
      refine va_getN (D := (dC, dI)) (ci := 3) (v := .int oS_present.2.2.1) (C := RPo) (T := TPo) (N := 6) hx hb hB inPo hown hK hP 1 rfl rfl 2 (by decide) (va_Nw.use rfl (hG.1 _ q1_91)) (fun _ h9 => h9) rfl dGa_keepPicture_37 ?_
      refine lv_imul hx hb dGa_keepPicture_40 ?_
      refine lv_iadd hx hb dGa_keepPicture_41 ?_
      refine lv_bipush (v := 32) hx hb dGa_keepPicture_42 (by decide) ?_
      refine lv_aload_n hx hb dGa_keepPicture_44 rfl (lv_at hl 0 rfl) ?_
      refine va_get (D := (dC, dI)) (ci := 1) (v := .ref o_present) (C := RGa) (T := TGa) (N := 6) hx hb hB inGa hown hK hP 0 rfl rfl 0 (by decide) (hB _ q1_142) (fun _ h9 => h9) rfl dGa_keepPicture_45 ?_
      refine ro_goi (va_runVN (C := "ChessRules$Position") (As := []) (rest := [.int 32, .int (oS_present.2.1 + (2 * oS_present.2.2.1)), .int oS_count, .ref o_marks]) ⟨hx, hb, hml, hown, hB⟩ (c_Po_passedThatCounts l dC dI cI cJ cC ad o_present o_present_board o_present_board_men o_present_board_sets oS_present.1 oS_present.2.1 oS_present.2.2.1 oS_present.2.2.2.1 oS_present.2.2.2.2.1 oS_present.2.2.2.2.2) ⟨va_cnB 0 hB (big_self q2_214) rfl rfl rfl (hG.1 _ q2_211) (hB _ q1_4) (by decide +kernel) ⟨Nat.le_of_ble_eq_true rfl, Nat.le_of_ble_eq_true rfl⟩, (hB _ q2_213), (hB _ qs3_0)⟩ (ro_preV (GS_ok ad) hK hP hG hS [1, 2, 3, 4] rfl (va_recv hK hP (ci := 3) (q0 := 1) rfl rfl)) rfl rfl hl.1 rfl (lv_room (Nat.le_of_ble_eq_true rfl)) dGa_keepPicture_48 ⟨Nat.le_of_ble_eq_true rfl, Nat.le_of_ble_eq_true rfl⟩) ?_
      refine lv_iconst (v := 1) hx hb dGa_keepPicture_51 (by decide) ?_
      refine lv_iadd hx hb dGa_keepPicture_52 ?_
      refine lv_imul hx hb dGa_keepPicture_53 ?_
      refine lv_iadd hx hb dGa_keepPicture_54 ?_
      refine va_iast hx hb hK hP hD hS 7 0 rfl rfl (vp_in_iff.mpr (by have z0 := tnl c_1; have z1 := tnl c_2; have y0 : (0 : Int32).toInt = 0 := rfl; have y400 : (400 : Int32).toInt = 400 := rfl; omega)) dGa_keepPicture_55 (fun H locs hP hD hS => ?_)
      have hP : va_P (dC, dI) vwCl [(o, .inr (1, [.ref o_present, .int oS_count, .ref o_told, .ref o_memories, .ref o_marks, .ref o_pictures])), (o_present, .inr (3, [.ref o_present_board, .int oS_present.2.1, .int oS_present.2.2.1, .int oS_present.2.2.2.1, .int oS_present.2.2.2.2.1, .int oS_present.2.2.2.2.2])), (o_present_board, .inr (0, [.ref o_present_board_men, .ref o_present_board_sets])), (o_present_board_men, .inl (cI, 64, .inl oS_present.1.1)), (o_present_board_sets, .inl (cJ, 16, .inr (.inl oS_present.1.2))), (o_told, .inl (cI, 400, .inl oS_told)), (o_memories, .inl (cI, 400, .inl oS_memories)), (o_marks, .inl (cI, 401, .inl (upd oS_marks oS_count.toNatClampNeg ((oS_present.2.1 + (2 * oS_present.2.2.1)) + (32 * ((f_Po_passedThatCounts oS_present.1 oS_present.2.1 oS_present.2.2.2.1) + 1)))))), (o_pictures, .inl (cJ, 1604, .inr (.inl oS_pictures)))] H := hP
      have hD : va_D A [(o, .inr (1, [.ref o_present, .int oS_count, .ref o_told, .ref o_memories, .ref o_marks, .ref o_pictures])), (o_present, .inr (3, [.ref o_present_board, .int oS_present.2.1, .int oS_present.2.2.1, .int oS_present.2.2.2.1, .int oS_present.2.2.2.2.1, .int oS_present.2.2.2.2.2])), (o_present_board, .inr (0, [.ref o_present_board_men, .ref o_present_board_sets])), (o_present_board_men, .inl (cI, 64, .inl oS_present.1.1)), (o_present_board_sets, .inl (cJ, 16, .inr (.inl oS_present.1.2))), (o_told, .inl (cI, 400, .inl oS_told)), (o_memories, .inl (cI, 400, .inl oS_memories)), (o_marks, .inl (cI, 401, .inl (upd oS_marks oS_count.toNatClampNeg ((oS_present.2.1 + (2 * oS_present.2.2.1)) + (32 * ((f_Po_passedThatCounts oS_present.1 oS_present.2.1 oS_present.2.2.2.1) + 1)))))), (o_pictures, .inl (cJ, 1604, .inr (.inl oS_pictures)))] := hD
      refine lv_iconst (v := 0) hx hb dGa_keepPicture_56 (by decide) ?_
      refine lv_istore_n (lv' := [(1, .int 0), (0, .ref o)]) hx hb dGa_keepPicture_57 rfl hl (by decide) rfl (fun ls hl => ?_)
      have J_58 : ∀ (n_58 : Nat) (v1_58 : Int32) (W_o_pictures_58 : (Nat → Int64)), f_Ga_keepPicture oS_present oS_count oS_marks oS_pictures = f_Ga_keepPicture_58 oS_present oS_count oS_marks oS_pictures n_58 v1_58 W_o_pictures_58 → ((0 : Int) ≤ v1_58.toInt ∧ (4 : Int32).toInt - v1_58.toInt + 1 ≤ (n_58 : Int) ∧ (1 : Int) ≤ (n_58 : Int)) → ∀ (H : Heap) (locs : List Loc), va_P (dC, dI) vwCl [(o, .inr (1, [.ref o_present, .int oS_count, .ref o_told, .ref o_memories, .ref o_marks, .ref o_pictures])), (o_present, .inr (3, [.ref o_present_board, .int oS_present.2.1, .int oS_present.2.2.1, .int oS_present.2.2.2.1, .int oS_present.2.2.2.2.1, .int oS_present.2.2.2.2.2])), (o_present_board, .inr (0, [.ref o_present_board_men, .ref o_present_board_sets])), (o_present_board_men, .inl (cI, 64, .inl oS_present.1.1)), (o_present_board_sets, .inl (cJ, 16, .inr (.inl oS_present.1.2))), (o_told, .inl (cI, 400, .inl oS_told)), (o_memories, .inl (cI, 400, .inl oS_memories)), (o_marks, .inl (cI, 401, .inl (upd oS_marks oS_count.toNatClampNeg ((oS_present.2.1 + (2 * oS_present.2.2.1)) + (32 * ((f_Po_passedThatCounts oS_present.1 oS_present.2.1 oS_present.2.2.2.1) + 1)))))), (o_pictures, .inl (cJ, 1604, .inr (.inl W_o_pictures_58)))] H → va_D A [(o, .inr (1, [.ref o_present, .int oS_count, .ref o_told, .ref o_memories, .ref o_marks, .ref o_pictures])), (o_present, .inr (3, [.ref o_present_board, .int oS_present.2.1, .int oS_present.2.2.1, .int oS_present.2.2.2.1, .int oS_present.2.2.2.2.1, .int oS_present.2.2.2.2.2])), (o_present_board, .inr (0, [.ref o_present_board_men, .ref o_present_board_sets])), (o_present_board_men, .inl (cI, 64, .inl oS_present.1.1)), (o_present_board_sets, .inl (cJ, 16, .inr (.inl oS_present.1.2))), (o_told, .inl (cI, 400, .inl oS_told)), (o_memories, .inl (cI, 400, .inl oS_memories)), (o_marks, .inl (cI, 401, .inl (upd oS_marks oS_count.toNatClampNeg ((oS_present.2.1 + (2 * oS_present.2.2.1)) + (32 * ((f_Po_passedThatCounts oS_present.1 oS_present.2.1 oS_present.2.2.2.1) + 1)))))), (o_pictures, .inl (cJ, 1604, .inr (.inl W_o_pictures_58)))] → va_S A s.heap H locs → ∀ ls : Array Slot, lv_has ls 2 [(0, .ref o), (1, .int v1_58)] → W p l e (headSpec wsGa_keepPicture { frames := 4, cells := 0, slots := 0, locals := 116 }).room s m ([.ref o]).toArray below meth c H locs 0 0 (MQ below (va_Qv (fun _ : Unit => True) (rwB dC dI (TYS cI cJ cC) [(o, .inr (1, [.ref o_present, .int oS_count, .ref o_told, .ref o_memories, .ref o_marks, .ref o_pictures])), (o_present, .inr (3, [.ref o_present_board, .int oS_present.2.1, .int oS_present.2.2.1, .int oS_present.2.2.2.1, .int oS_present.2.2.2.2.1, .int oS_present.2.2.2.2.2])), (o_present_board, .inr (0, [.ref o_present_board_men, .ref o_present_board_sets])), (o_present_board_men, .inl (cI, 64, .inl oS_present.1.1)), (o_present_board_sets, .inl (cJ, 16, .inr (.inl oS_present.1.2))), (o_told, .inl (cI, 400, .inl oS_told)), (o_memories, .inl (cI, 400, .inl oS_memories)), (o_marks, .inl (cI, 401, .inl ((f_Ga_keepPicture oS_present oS_count oS_marks oS_pictures).1))), (o_pictures, .inl (cJ, 1604, .inr (.inl ((f_Ga_keepPicture oS_present oS_count oS_marks oS_pictures).2))))] A) A) ([.ref o]).toArray s 0 0 A) (F0 m 58 ls []) := by
        intro n_58
        induction n_58 with
        | zero => intro v1_58 W_o_pictures_58 _ hm_58; exact absurd hm_58 (by omega)
        | succ n_58 ih_58 =>
          intro v1_58 W_o_pictures_58 he_58 hm_58 H locs hP hD hS ls hl
          refine lv_iload_n hx hb dGa_keepPicture_58 rfl (lv_at hl 1 rfl) ?_
          refine lv_iconst (v := 4) hx hb dGa_keepPicture_59 (by decide) ?_
          refine lv_icmp_ge (tgt := 93) hx hb dGa_keepPicture_60 (by decide) (fun c_3 => ?_) (fun c_3 => ?_)
          · have hv : f_Ga_keepPicture oS_present oS_count oS_marks oS_pictures = (upd oS_marks oS_count.toNatClampNeg ((oS_present.2.1 + (2 * oS_present.2.2.1)) + (32 * ((f_Po_passedThatCounts oS_present.1 oS_present.2.1 oS_present.2.2.2.1) + 1))), W_o_pictures_58) := (he_58.trans (by rw [f_Ga_keepPicture_58_eq, if_pos c_3] <;> rfl))
            have hP9 : va_P (dC, dI) vwCl [(o, .inr (1, [.ref o_present, .int oS_count, .ref o_told, .ref o_memories, .ref o_marks, .ref o_pictures])), (o_present, .inr (3, [.ref o_present_board, .int oS_present.2.1, .int oS_present.2.2.1, .int oS_present.2.2.2.1, .int oS_present.2.2.2.2.1, .int oS_present.2.2.2.2.2])), (o_present_board, .inr (0, [.ref o_present_board_men, .ref o_present_board_sets])), (o_present_board_men, .inl (cI, 64, .inl oS_present.1.1)), (o_present_board_sets, .inl (cJ, 16, .inr (.inl oS_present.1.2))), (o_told, .inl (cI, 400, .inl oS_told)), (o_memories, .inl (cI, 400, .inl oS_memories)), (o_marks, .inl (cI, 401, .inl ((f_Ga_keepPicture oS_present oS_count oS_marks oS_pictures).1))), (o_pictures, .inl (cJ, 1604, .inr (.inl ((f_Ga_keepPicture oS_present oS_count oS_marks oS_pictures).2))))] H := by first | (rw [hv]; exact hP.sub [0, 1, 2, 3, 4, 5, 6, 7, 8] rfl) | exact hP.sub [0, 1, 2, 3, 4, 5, 6, 7, 8] rfl
            have hD9 : va_D A [(o, .inr (1, [.ref o_present, .int oS_count, .ref o_told, .ref o_memories, .ref o_marks, .ref o_pictures])), (o_present, .inr (3, [.ref o_present_board, .int oS_present.2.1, .int oS_present.2.2.1, .int oS_present.2.2.2.1, .int oS_present.2.2.2.2.1, .int oS_present.2.2.2.2.2])), (o_present_board, .inr (0, [.ref o_present_board_men, .ref o_present_board_sets])), (o_present_board_men, .inl (cI, 64, .inl oS_present.1.1)), (o_present_board_sets, .inl (cJ, 16, .inr (.inl oS_present.1.2))), (o_told, .inl (cI, 400, .inl oS_told)), (o_memories, .inl (cI, 400, .inl oS_memories)), (o_marks, .inl (cI, 401, .inl ((f_Ga_keepPicture oS_present oS_count oS_marks oS_pictures).1))), (o_pictures, .inl (cJ, 1604, .inr (.inl ((f_Ga_keepPicture oS_present oS_count oS_marks oS_pictures).2))))] := by first | (rw [hv]; exact hD.sub [0, 1, 2, 3, 4, 5, 6, 7, 8] (by decide) rfl) | exact hD.sub [0, 1, 2, 3, 4, 5, 6, 7, 8] (by decide) rfl
            exact rw_retv hx hb hr hlocks hK hP9 hD9 hS dGa_keepPicture_93
          · refine lv_aload_n hx hb dGa_keepPicture_63 rfl (lv_at hl 0 rfl) ?_
            refine va_get (D := (dC, dI)) (ci := 1) (v := .ref o_pictures) (C := RGa) (T := TGa) (N := 6) hx hb hB inGa hown hK hP 0 rfl rfl 5 (by decide) (hB _ q1_150) (fun _ h9 => h9) rfl dGa_keepPicture_64 ?_
            refine lv_iconst (v := 4) hx hb dGa_keepPicture_67 (by decide) ?_
            refine lv_aload_n hx hb dGa_keepPicture_68 rfl (lv_at hl 0 rfl) ?_
            refine va_get (D := (dC, dI)) (ci := 1) (v := .int oS_count) (C := RGa) (T := TGa) (N := 6) hx hb hB inGa hown hK hP 0 rfl rfl 1 (by decide) (hB _ q1_144) (fun _ h9 => h9) rfl dGa_keepPicture_69 ?_
            refine lv_imul hx hb dGa_keepPicture_72 ?_
            refine lv_iload_n hx hb dGa_keepPicture_73 rfl (lv_at hl 1 rfl) ?_
            refine lv_iadd hx hb dGa_keepPicture_74 ?_
            refine lv_aload_n hx hb dGa_keepPicture_75 rfl (lv_at hl 0 rfl) ?_
            refine va_get (D := (dC, dI)) (ci := 1) (v := .ref o_present) (C := RGa) (T := TGa) (N := 6) hx hb hB inGa hown hK hP 0 rfl rfl 0 (by decide) (hB _ q1_142) (fun _ h9 => h9) rfl dGa_keepPicture_76 ?_
            refine va_getN (D := (dC, dI)) (ci := 3) (v := .ref o_present_board) (C := RPo) (T := TPo) (N := 6) hx hb hB inPo hown hK hP 1 rfl rfl 0 (by decide) (va_Nw.use rfl (hG.1 _ q1_81)) (fun _ h9 => h9) rfl dGa_keepPicture_79 ?_
            refine lv_iload_n hx hb dGa_keepPicture_82 rfl (lv_at hl 1 rfl) ?_
            refine ro_gol (va_runVN (C := "ChessRules$Board") (As := [.int v1_58]) (rest := [.int ((4 * oS_count) + v1_58), .ref o_pictures]) ⟨hx, hb, hml, hown, hB⟩ (c_Bo_squaresWithBit l dC dI cI cJ cC ad o_present_board o_present_board_men o_present_board_sets oS_present.1.1 oS_present.1.2 v1_58) ⟨va_cnB 1 hB (big_self q2_235) rfl rfl rfl (hG.1 _ q2_232) (hB _ q1_5) (by decide +kernel) ⟨Nat.le_of_ble_eq_true rfl, Nat.le_of_ble_eq_true rfl⟩, (hB _ q2_234), (hB _ qs3_3)⟩ (ro_preV (GS_ok ad) hK hP hG hS [2, 3, 4] rfl (va_recv hK hP (ci := 0) (q0 := 2) rfl rfl)) rfl rfl hl.1 rfl (lv_room (Nat.le_of_ble_eq_true rfl)) dGa_keepPicture_83 ⟨Nat.le_of_ble_eq_true rfl, Nat.le_of_ble_eq_true rfl⟩) ?_
            refine va_last hx hb hK hP hD hS 8 1 rfl rfl (pic_in (c := oS_count) (b := v1_58) (by have z0 := tnl c_1; have z1 := tnl c_2; have z3 := tnle c_3; have y0 : (0 : Int32).toInt = 0 := rfl; have y4 : (4 : Int32).toInt = 4 := rfl; have y400 : (400 : Int32).toInt = 400 := rfl; omega) (by have z0 := tnl c_1; have z1 := tnl c_2; have z3 := tnle c_3; have y0 : (0 : Int32).toInt = 0 := rfl; have y4 : (4 : Int32).toInt = 4 := rfl; have y400 : (400 : Int32).toInt = 400 := rfl; omega) (by have z0 := tnl c_1; have z1 := tnl c_2; have z3 := tnle c_3; have y0 : (0 : Int32).toInt = 0 := rfl; have y4 : (4 : Int32).toInt = 4 := rfl; have y400 : (400 : Int32).toInt = 400 := rfl; omega) (by have z0 := tnl c_1; have z1 := tnl c_2; have z3 := tnle c_3; have y0 : (0 : Int32).toInt = 0 := rfl; have y4 : (4 : Int32).toInt = 4 := rfl; have y400 : (400 : Int32).toInt = 400 := rfl; omega)) dGa_keepPicture_86 (fun H locs hP hD hS => ?_)
            have hP : va_P (dC, dI) vwCl [(o, .inr (1, [.ref o_present, .int oS_count, .ref o_told, .ref o_memories, .ref o_marks, .ref o_pictures])), (o_present, .inr (3, [.ref o_present_board, .int oS_present.2.1, .int oS_present.2.2.1, .int oS_present.2.2.2.1, .int oS_present.2.2.2.2.1, .int oS_present.2.2.2.2.2])), (o_present_board, .inr (0, [.ref o_present_board_men, .ref o_present_board_sets])), (o_present_board_men, .inl (cI, 64, .inl oS_present.1.1)), (o_present_board_sets, .inl (cJ, 16, .inr (.inl oS_present.1.2))), (o_told, .inl (cI, 400, .inl oS_told)), (o_memories, .inl (cI, 400, .inl oS_memories)), (o_marks, .inl (cI, 401, .inl (upd oS_marks oS_count.toNatClampNeg ((oS_present.2.1 + (2 * oS_present.2.2.1)) + (32 * ((f_Po_passedThatCounts oS_present.1 oS_present.2.1 oS_present.2.2.2.1) + 1)))))), (o_pictures, .inl (cJ, 1604, .inr (.inl (vp_updL W_o_pictures_58 ((4 * oS_count) + v1_58).toNatClampNeg (f_Bo_squaresWithBit oS_present.1.2 v1_58)))))] H := hP
            have hD : va_D A [(o, .inr (1, [.ref o_present, .int oS_count, .ref o_told, .ref o_memories, .ref o_marks, .ref o_pictures])), (o_present, .inr (3, [.ref o_present_board, .int oS_present.2.1, .int oS_present.2.2.1, .int oS_present.2.2.2.1, .int oS_present.2.2.2.2.1, .int oS_present.2.2.2.2.2])), (o_present_board, .inr (0, [.ref o_present_board_men, .ref o_present_board_sets])), (o_present_board_men, .inl (cI, 64, .inl oS_present.1.1)), (o_present_board_sets, .inl (cJ, 16, .inr (.inl oS_present.1.2))), (o_told, .inl (cI, 400, .inl oS_told)), (o_memories, .inl (cI, 400, .inl oS_memories)), (o_marks, .inl (cI, 401, .inl (upd oS_marks oS_count.toNatClampNeg ((oS_present.2.1 + (2 * oS_present.2.2.1)) + (32 * ((f_Po_passedThatCounts oS_present.1 oS_present.2.1 oS_present.2.2.2.1) + 1)))))), (o_pictures, .inl (cJ, 1604, .inr (.inl (vp_updL W_o_pictures_58 ((4 * oS_count) + v1_58).toNatClampNeg (f_Bo_squaresWithBit oS_present.1.2 v1_58)))))] := hD
            refine lv_iinc (v := v1_58 + 1) (lv' := [(1, .int (v1_58 + 1)), (0, .ref o)]) hx hb dGa_keepPicture_87 hl (k := 1) rfl rfl (by decide) rfl (fun ls hl => ?_)
            refine lv_goto (tgt := 58) hx hb dGa_keepPicture_90 (by decide) ?_
            exact ih_58 (v1_58 + 1) (vp_updL W_o_pictures_58 ((4 * oS_count) + v1_58).toNatClampNeg (f_Bo_squaresWithBit oS_present.1.2 v1_58)) (he_58.trans (by rw [f_Ga_keepPicture_58_eq, if_neg c_3] <;> rfl)) (by have z0 := tnl c_1; have z1 := tnl c_2; have z3 := tnle c_3; have y0 : (0 : Int32).toInt = 0 := rfl; have y4 : (4 : Int32).toInt = 4 := rfl; have y400 : (400 : Int32).toInt = 400 := rfl; have zr := i_rng (4 : Int32); have zs := i_succ9 v1_58 (by omega); omega) _ _ (hP.sub [0, 1, 2, 3, 4, 5, 6, 7, 8] rfl) (hD.sub [0, 1, 2, 3, 4, 5, 6, 7, 8] (by decide) rfl) hS ls (lv_sub hl [1, 0] rfl)
      exact J_58 (5) 0 oS_pictures (by rw [f_Ga_keepPicture_eq, if_neg c_1, if_neg c_2] <;> rfl) (by decide) _ _ (hP.sub [0, 1, 2, 3, 4, 5, 6, 7, 8] rfl) (hD.sub [0, 1, 2, 3, 4, 5, 6, 7, 8] (by decide) rfl) hS ls (lv_sub hl [1, 0] rfl)

abbrev cGa_isSameAsPresent : ByteArray := prog_3_method_7_code
def yGa_isSameAsPresent : MethodName := ⟨"ChessRules$Game", "isSameAsPresent", "(I)Z"⟩
def wsGa_isSameAsPresent : List Cond := Cond.code yGa_isSameAsPresent cGa_isSameAsPresent 3 (some .boolean) :: BIG
theorem dGa_isSameAsPresent_0 : decode cGa_isSameAsPresent 0 = .ok (.iload_n 1, 1) := by decide +kernel
theorem dGa_isSameAsPresent_1 : decode cGa_isSameAsPresent 1 = .ok (.ifCond .lt 39, 3) := by decide +kernel
theorem dGa_isSameAsPresent_4 : decode cGa_isSameAsPresent 4 = .ok (.iload_n 1, 1) := by decide +kernel
theorem dGa_isSameAsPresent_5 : decode cGa_isSameAsPresent 5 = .ok (.aload_n 0, 1) := by decide +kernel
theorem dGa_isSameAsPresent_6 : decode cGa_isSameAsPresent 6 = .ok (.getfield 18, 3) := by decide +kernel
theorem dGa_isSameAsPresent_9 : decode cGa_isSameAsPresent 9 = .ok (.if_icmp .gt 31, 3) := by decide +kernel
theorem dGa_isSameAsPresent_12 : decode cGa_isSameAsPresent 12 = .ok (.aload_n 0, 1) := by decide +kernel
theorem dGa_isSameAsPresent_13 : decode cGa_isSameAsPresent 13 = .ok (.getfield 18, 3) := by decide +kernel
theorem dGa_isSameAsPresent_16 : decode cGa_isSameAsPresent 16 = .ok (.sipush 400, 3) := by decide +kernel
theorem dGa_isSameAsPresent_19 : decode cGa_isSameAsPresent 19 = .ok (.if_icmp .gt 21, 3) := by decide +kernel
theorem dGa_isSameAsPresent_22 : decode cGa_isSameAsPresent 22 = .ok (.aload_n 0, 1) := by decide +kernel
theorem dGa_isSameAsPresent_23 : decode cGa_isSameAsPresent 23 = .ok (.getfield 29, 3) := by decide +kernel
theorem dGa_isSameAsPresent_26 : decode cGa_isSameAsPresent 26 = .ok (.iload_n 1, 1) := by decide +kernel
theorem dGa_isSameAsPresent_27 : decode cGa_isSameAsPresent 27 = .ok (.iaload, 1) := by decide +kernel
theorem dGa_isSameAsPresent_28 : decode cGa_isSameAsPresent 28 = .ok (.aload_n 0, 1) := by decide +kernel
theorem dGa_isSameAsPresent_29 : decode cGa_isSameAsPresent 29 = .ok (.getfield 29, 3) := by decide +kernel
theorem dGa_isSameAsPresent_32 : decode cGa_isSameAsPresent 32 = .ok (.aload_n 0, 1) := by decide +kernel
theorem dGa_isSameAsPresent_33 : decode cGa_isSameAsPresent 33 = .ok (.getfield 18, 3) := by decide +kernel
theorem dGa_isSameAsPresent_36 : decode cGa_isSameAsPresent 36 = .ok (.iaload, 1) := by decide +kernel
theorem dGa_isSameAsPresent_37 : decode cGa_isSameAsPresent 37 = .ok (.if_icmp .eq 5, 3) := by decide +kernel
theorem dGa_isSameAsPresent_40 : decode cGa_isSameAsPresent 40 = .ok (.iconst 0, 1) := by decide +kernel
theorem dGa_isSameAsPresent_41 : decode cGa_isSameAsPresent 41 = .ok (.ireturn, 1) := by decide +kernel
theorem dGa_isSameAsPresent_42 : decode cGa_isSameAsPresent 42 = .ok (.iconst 0, 1) := by decide +kernel
theorem dGa_isSameAsPresent_43 : decode cGa_isSameAsPresent 43 = .ok (.istore_n 2, 1) := by decide +kernel
theorem dGa_isSameAsPresent_44 : decode cGa_isSameAsPresent 44 = .ok (.iload_n 2, 1) := by decide +kernel
theorem dGa_isSameAsPresent_45 : decode cGa_isSameAsPresent 45 = .ok (.iconst 4, 1) := by decide +kernel
theorem dGa_isSameAsPresent_46 : decode cGa_isSameAsPresent 46 = .ok (.if_icmp .ge 38, 3) := by decide +kernel
theorem dGa_isSameAsPresent_49 : decode cGa_isSameAsPresent 49 = .ok (.aload_n 0, 1) := by decide +kernel
theorem dGa_isSameAsPresent_50 : decode cGa_isSameAsPresent 50 = .ok (.getfield 32, 3) := by decide +kernel
theorem dGa_isSameAsPresent_53 : decode cGa_isSameAsPresent 53 = .ok (.iconst 4, 1) := by decide +kernel
theorem dGa_isSameAsPresent_54 : decode cGa_isSameAsPresent 54 = .ok (.iload_n 1, 1) := by decide +kernel
theorem dGa_isSameAsPresent_55 : decode cGa_isSameAsPresent 55 = .ok (.imul, 1) := by decide +kernel
theorem dGa_isSameAsPresent_56 : decode cGa_isSameAsPresent 56 = .ok (.iload_n 2, 1) := by decide +kernel
theorem dGa_isSameAsPresent_57 : decode cGa_isSameAsPresent 57 = .ok (.iadd, 1) := by decide +kernel
theorem dGa_isSameAsPresent_58 : decode cGa_isSameAsPresent 58 = .ok (.laload, 1) := by decide +kernel
theorem dGa_isSameAsPresent_59 : decode cGa_isSameAsPresent 59 = .ok (.aload_n 0, 1) := by decide +kernel
theorem dGa_isSameAsPresent_60 : decode cGa_isSameAsPresent 60 = .ok (.getfield 32, 3) := by decide +kernel
theorem dGa_isSameAsPresent_63 : decode cGa_isSameAsPresent 63 = .ok (.iconst 4, 1) := by decide +kernel
theorem dGa_isSameAsPresent_64 : decode cGa_isSameAsPresent 64 = .ok (.aload_n 0, 1) := by decide +kernel
theorem dGa_isSameAsPresent_65 : decode cGa_isSameAsPresent 65 = .ok (.getfield 18, 3) := by decide +kernel
theorem dGa_isSameAsPresent_68 : decode cGa_isSameAsPresent 68 = .ok (.imul, 1) := by decide +kernel
theorem dGa_isSameAsPresent_69 : decode cGa_isSameAsPresent 69 = .ok (.iload_n 2, 1) := by decide +kernel
theorem dGa_isSameAsPresent_70 : decode cGa_isSameAsPresent 70 = .ok (.iadd, 1) := by decide +kernel
theorem dGa_isSameAsPresent_71 : decode cGa_isSameAsPresent 71 = .ok (.laload, 1) := by decide +kernel
theorem dGa_isSameAsPresent_72 : decode cGa_isSameAsPresent 72 = .ok (.lcmp, 1) := by decide +kernel
theorem dGa_isSameAsPresent_73 : decode cGa_isSameAsPresent 73 = .ok (.ifCond .eq 5, 3) := by decide +kernel
theorem dGa_isSameAsPresent_76 : decode cGa_isSameAsPresent 76 = .ok (.iconst 0, 1) := by decide +kernel
theorem dGa_isSameAsPresent_77 : decode cGa_isSameAsPresent 77 = .ok (.ireturn, 1) := by decide +kernel
theorem dGa_isSameAsPresent_78 : decode cGa_isSameAsPresent 78 = .ok (.iinc 2 1, 3) := by decide +kernel
theorem dGa_isSameAsPresent_81 : decode cGa_isSameAsPresent 81 = .ok (.goto (-37), 3) := by decide +kernel
theorem dGa_isSameAsPresent_84 : decode cGa_isSameAsPresent 84 = .ok (.iconst 1, 1) := by decide +kernel
theorem dGa_isSameAsPresent_85 : decode cGa_isSameAsPresent 85 = .ok (.ireturn, 1) := by decide +kernel

def f_Ga_isSameAsPresent_44 (oS_count : Int32) (oS_marks : Nat → Int32) (oS_pictures : Nat → Int64) (i : Int32) : Nat → Int32 → Int32
  | 0 => fun _ => 0
  | n_44 + 1 => fun v2_44 => (if 4 ≤ v2_44 then 1 else (if (oS_pictures ((4 * i) + v2_44).toNatClampNeg) = (oS_pictures ((4 * oS_count) + v2_44).toNatClampNeg) then (f_Ga_isSameAsPresent_44 oS_count oS_marks oS_pictures i n_44) (v2_44 + 1) else 0))
theorem f_Ga_isSameAsPresent_44_eq (oS_count : Int32) (oS_marks : Nat → Int32) (oS_pictures : Nat → Int64) (i : Int32) (n_44 : Nat) (v2_44 : Int32) : f_Ga_isSameAsPresent_44 oS_count oS_marks oS_pictures i (n_44 + 1) v2_44 =
  (if 4 ≤ v2_44 then 1 else (if (oS_pictures ((4 * i) + v2_44).toNatClampNeg) = (oS_pictures ((4 * oS_count) + v2_44).toNatClampNeg) then (f_Ga_isSameAsPresent_44 oS_count oS_marks oS_pictures i n_44) (v2_44 + 1) else 0)) := rfl

def f_Ga_isSameAsPresent (oS_count : Int32) (oS_marks : Nat → Int32) (oS_pictures : Nat → Int64) (i : Int32) : Int32 :=
  (if i < 0 then 0 else (if oS_count < i then 0 else (if 400 < oS_count then 0 else (if (oS_marks i.toNatClampNeg) = (oS_marks oS_count.toNatClampNeg) then f_Ga_isSameAsPresent_44 oS_count oS_marks oS_pictures i (5) 0 else 0))))
theorem f_Ga_isSameAsPresent_eq (oS_count : Int32) (oS_marks : Nat → Int32) (oS_pictures : Nat → Int64) (i : Int32) : f_Ga_isSameAsPresent oS_count oS_marks oS_pictures i =
  (if i < 0 then 0 else (if oS_count < i then 0 else (if 400 < oS_count then 0 else (if (oS_marks i.toNatClampNeg) = (oS_marks oS_count.toNatClampNeg) then f_Ga_isSameAsPresent_44 oS_count oS_marks oS_pictures i (5) 0 else 0)))) := rfl

set_option maxHeartbeats 4000000 in
set_option maxRecDepth 100000 in
theorem c_Ga_isSameAsPresent (l : Launch) (dC : Nat → ClassId) (dI : Nat → Nat → Nat) (cI cJ cC : ClassId) (ad : Nat → Nat) (o o_present o_present_board o_present_board_men o_present_board_sets o_told o_memories o_marks o_pictures : Nat) (oS_present : St_Po) (oS_count : Int32) (oS_told : Nat → Int32) (oS_memories : Nat → Int32) (oS_marks : Nat → Int32) (oS_pictures : Nat → Int64) (i : Int32) : Met l yGa_isSameAsPresent wsGa_isSameAsPresent { frames := 0, cells := 0, slots := 0, locals := 0 } (roP dC dI (TYS cI cJ cC) [.ref o, .int i] [(o, .inr (1, [.ref o_present, .int oS_count, .ref o_told, .ref o_memories, .ref o_marks, .ref o_pictures])), (o_present, .inr (3, [.ref o_present_board, .int oS_present.2.1, .int oS_present.2.2.1, .int oS_present.2.2.2.1, .int oS_present.2.2.2.2.1, .int oS_present.2.2.2.2.2])), (o_present_board, .inr (0, [.ref o_present_board_men, .ref o_present_board_sets])), (o_present_board_men, .inl (cI, 64, .inl oS_present.1.1)), (o_present_board_sets, .inl (cJ, 16, .inr (.inl oS_present.1.2))), (o_told, .inl (cI, 400, .inl oS_told)), (o_memories, .inl (cI, 400, .inl oS_memories)), (o_marks, .inl (cI, 401, .inl oS_marks)), (o_pictures, .inl (cJ, 1604, .inr (.inl oS_pictures)))] (GS ad)) (vp_Si (fun r => r = f_Ga_isSameAsPresent oS_count oS_marks oS_pictures i)) 0 0 (fun _ => False) := by
  refine Met.ofW (cc := cGa_isSameAsPresent) (maxL := 3) (ret := (some .boolean)) (by decide) rfl ?_
  intro p e s m args below meth c s₁ B hml hv
  obtain ⟨rfl, hP, hK, hG⟩ := hv
  have hx := B.exec
  have hb := B.bytes
  have hr := B.returns
  have hB : ∀ w9 ∈ BIG, w9.before ([.ref o, .int i]).toArray s = true := fun w9 h => atoms_spec (ws := wsGa_isSameAsPresent) B.pre w9 (List.mem_cons_of_mem _ h)
  have hown : s.vm.findClass "ChessRules$Game" = some m.cls := findClass_of_methodNamed B.named
  have hlocks := B.notSynchronized
  have hS : va_S (fun _ => False) s.heap s.heap [] := va_S.rf
  have hP : va_P (dC, dI) vwCl [(o, .inr (1, [.ref o_present, .int oS_count, .ref o_told, .ref o_memories, .ref o_marks, .ref o_pictures])), (o_present, .inr (3, [.ref o_present_board, .int oS_present.2.1, .int oS_present.2.2.1, .int oS_present.2.2.2.1, .int oS_present.2.2.2.2.1, .int oS_present.2.2.2.2.2])), (o_present_board, .inr (0, [.ref o_present_board_men, .ref o_present_board_sets])), (o_present_board_men, .inl (cI, 64, .inl oS_present.1.1)), (o_present_board_sets, .inl (cJ, 16, .inr (.inl oS_present.1.2))), (o_told, .inl (cI, 400, .inl oS_told)), (o_memories, .inl (cI, 400, .inl oS_memories)), (o_marks, .inl (cI, 401, .inl oS_marks)), (o_pictures, .inl (cJ, 1604, .inr (.inl oS_pictures)))] s.heap := hP
  have hl := lv_entry ([.ref o, .int i]) (n := 3) (Nat.le_of_ble_eq_true rfl)
  rw [lg_entry_eq]
  generalize (lg_sl ([.ref o, .int i]) ++ List.replicate (3 - (lg_sl ([.ref o, .int i])).length) Slot.unset).toArray = ls at hl ⊢
  have hl : lv_has ls 3 [(0, .ref o), (1, .int i)] := hl
  refine lv_iload_n hx hb dGa_isSameAsPresent_0 rfl (lv_at hl 1 rfl) ?_
  refine lv_if_lt (tgt := 40) hx hb dGa_isSameAsPresent_1 (by decide) (fun c_1 => ?_) (fun c_1 => ?_)
  · refine lv_iconst (v := 0) hx hb dGa_isSameAsPresent_40 (by decide) ?_
    exact ro_retz hx hb hr rfl hlocks dGa_isSameAsPresent_41 (Eq.symm (by rw [f_Ga_isSameAsPresent_eq, if_pos c_1] <;> rfl))
  · refine lv_iload_n hx hb dGa_isSameAsPresent_4 rfl (lv_at hl 1 rfl) ?_
    refine lv_aload_n hx hb dGa_isSameAsPresent_5 rfl (lv_at hl 0 rfl) ?_
    refine va_get (D := (dC, dI)) (ci := 1) (v := .int oS_count) (C := RGa) (T := TGa) (N := 6) hx hb hB inGa hown hK hP 0 rfl rfl 1 (by decide) (hB _ q1_144) (fun _ h9 => h9) rfl dGa_isSameAsPresent_6 ?_
    refine lv_icmp_gt (tgt := 40) hx hb dGa_isSameAsPresent_9 (by decide) (fun c_2 => ?_) (fun c_2 => ?_)
    · refine lv_iconst (v := 0) hx hb dGa_isSameAsPresent_40 (by decide) ?_
      exact ro_retz hx hb hr rfl hlocks dGa_isSameAsPresent_41 (Eq.symm (by rw [f_Ga_isSameAsPresent_eq, if_neg c_1, if_pos c_2] <;> rfl))
    · refine lv_aload_n hx hb dGa_isSameAsPresent_12 rfl (lv_at hl 0 rfl) ?_
      refine va_get (D := (dC, dI)) (ci := 1) (v := .int oS_count) (C := RGa) (T := TGa) (N := 6) hx hb hB inGa hown hK hP 0 rfl rfl 1 (by decide) (hB _ q1_144) (fun _ h9 => h9) rfl dGa_isSameAsPresent_13 ?_
      refine lv_sipush (v := 400) hx hb dGa_isSameAsPresent_16 (by decide) ?_
      refine lv_icmp_gt (tgt := 40) hx hb dGa_isSameAsPresent_19 (by decide) (fun c_3 => ?_) (fun c_3 => ?_)
      · refine lv_iconst (v := 0) hx hb dGa_isSameAsPresent_40 (by decide) ?_
        exact ro_retz hx hb hr rfl hlocks dGa_isSameAsPresent_41 (Eq.symm (by rw [f_Ga_isSameAsPresent_eq, if_neg c_1, if_neg c_2, if_pos c_3] <;> rfl))
      · refine lv_aload_n hx hb dGa_isSameAsPresent_22 rfl (lv_at hl 0 rfl) ?_
        refine va_get (D := (dC, dI)) (ci := 1) (v := .ref o_marks) (C := RGa) (T := TGa) (N := 6) hx hb hB inGa hown hK hP 0 rfl rfl 4 (by decide) (hB _ q1_149) (fun _ h9 => h9) rfl dGa_isSameAsPresent_23 ?_
        refine lv_iload_n hx hb dGa_isSameAsPresent_26 rfl (lv_at hl 1 rfl) ?_
        refine va_iald hx hb hK hP 7 0 rfl rfl (vp_in_iff.mpr (by have z0 := tnl c_1; have z1 := tnl c_2; have z2 := tnl c_3; have y0 : (0 : Int32).toInt = 0 := rfl; have y400 : (400 : Int32).toInt = 400 := rfl; omega)) dGa_isSameAsPresent_27 ?_
        refine lv_aload_n hx hb dGa_isSameAsPresent_28 rfl (lv_at hl 0 rfl) ?_
        refine va_get (D := (dC, dI)) (ci := 1) (v := .ref o_marks) (C := RGa) (T := TGa) (N := 6) hx hb hB inGa hown hK hP 0 rfl rfl 4 (by decide) (hB _ q1_149) (fun _ h9 => h9) rfl dGa_isSameAsPresent_29 ?_
        refine lv_aload_n hx hb dGa_isSameAsPresent_32 rfl (lv_at hl 0 rfl) ?_
        refine va_get (D := (dC, dI)) (ci := 1) (v := .int oS_count) (C := RGa) (T := TGa) (N := 6) hx hb hB inGa hown hK hP 0 rfl rfl 1 (by decide) (hB _ q1_144) (fun _ h9 => h9) rfl dGa_isSameAsPresent_33 ?_
        refine va_iald hx hb hK hP 7 0 rfl rfl (vp_in_iff.mpr (by have z0 := tnl c_1; have z1 := tnl c_2; have z2 := tnl c_3; have y0 : (0 : Int32).toInt = 0 := rfl; have y400 : (400 : Int32).toInt = 400 := rfl; omega)) dGa_isSameAsPresent_36 ?_
        refine lv_icmp_eq (tgt := 42) hx hb dGa_isSameAsPresent_37 (by decide) (fun c_4 => ?_) (fun c_4 => ?_)
        · refine lv_iconst (v := 0) hx hb dGa_isSameAsPresent_42 (by decide) ?_
          refine lv_istore_n (lv' := [(2, .int 0), (0, .ref o), (1, .int i)]) hx hb dGa_isSameAsPresent_43 rfl hl (by decide) rfl (fun ls hl => ?_)
          have J_44 : ∀ (n_44 : Nat) (v2_44 : Int32), f_Ga_isSameAsPresent oS_count oS_marks oS_pictures i = f_Ga_isSameAsPresent_44 oS_count oS_marks oS_pictures i n_44 v2_44 → ((0 : Int) ≤ v2_44.toInt ∧ (4 : Int32).toInt - v2_44.toInt + 1 ≤ (n_44 : Int) ∧ (1 : Int) ≤ (n_44 : Int)) → ∀ ls : Array Slot, lv_has ls 3 [(0, .ref o), (1, .int i), (2, .int v2_44)] → W p l e (headSpec wsGa_isSameAsPresent { frames := 0, cells := 0, slots := 0, locals := 0 }).room s m ([.ref o, .int i]).toArray below meth c s.heap [] 0 0 (MQ below (vp_Si (fun r => r = f_Ga_isSameAsPresent oS_count oS_marks oS_pictures i)) ([.ref o, .int i]).toArray s 0 0 (fun _ => False)) (F0 m 44 ls []) := by
            intro n_44
            induction n_44 with
            | zero => intro v2_44 _ hm_44; exact absurd hm_44 (by omega)
            | succ n_44 ih_44 =>
              intro v2_44 he_44 hm_44 ls hl
              refine lv_iload_n hx hb dGa_isSameAsPresent_44 rfl (lv_at hl 2 rfl) ?_
              refine lv_iconst (v := 4) hx hb dGa_isSameAsPresent_45 (by decide) ?_
              refine lv_icmp_ge (tgt := 84) hx hb dGa_isSameAsPresent_46 (by decide) (fun c_5 => ?_) (fun c_5 => ?_)
              · refine lv_iconst (v := 1) hx hb dGa_isSameAsPresent_84 (by decide) ?_
                exact ro_retz hx hb hr rfl hlocks dGa_isSameAsPresent_85 (Eq.symm (he_44.trans (by rw [f_Ga_isSameAsPresent_44_eq, if_pos c_5] <;> rfl)))
              · refine lv_aload_n hx hb dGa_isSameAsPresent_49 rfl (lv_at hl 0 rfl) ?_
                refine va_get (D := (dC, dI)) (ci := 1) (v := .ref o_pictures) (C := RGa) (T := TGa) (N := 6) hx hb hB inGa hown hK hP 0 rfl rfl 5 (by decide) (hB _ q1_150) (fun _ h9 => h9) rfl dGa_isSameAsPresent_50 ?_
                refine lv_iconst (v := 4) hx hb dGa_isSameAsPresent_53 (by decide) ?_
                refine lv_iload_n hx hb dGa_isSameAsPresent_54 rfl (lv_at hl 1 rfl) ?_
                refine lv_imul hx hb dGa_isSameAsPresent_55 ?_
                refine lv_iload_n hx hb dGa_isSameAsPresent_56 rfl (lv_at hl 2 rfl) ?_
                refine lv_iadd hx hb dGa_isSameAsPresent_57 ?_
                refine va_lald hx hb hK hP 8 1 rfl rfl (pic_in (c := i) (b := v2_44) (by have z0 := tnl c_1; have z1 := tnl c_2; have z2 := tnl c_3; have z3 := teq c_4; have z5 := tnle c_5; have y0 : (0 : Int32).toInt = 0 := rfl; have y4 : (4 : Int32).toInt = 4 := rfl; have y400 : (400 : Int32).toInt = 400 := rfl; omega) (by have z0 := tnl c_1; have z1 := tnl c_2; have z2 := tnl c_3; have z3 := teq c_4; have z5 := tnle c_5; have y0 : (0 : Int32).toInt = 0 := rfl; have y4 : (4 : Int32).toInt = 4 := rfl; have y400 : (400 : Int32).toInt = 400 := rfl; omega) (by have z0 := tnl c_1; have z1 := tnl c_2; have z2 := tnl c_3; have z3 := teq c_4; have z5 := tnle c_5; have y0 : (0 : Int32).toInt = 0 := rfl; have y4 : (4 : Int32).toInt = 4 := rfl; have y400 : (400 : Int32).toInt = 400 := rfl; omega) (by have z0 := tnl c_1; have z1 := tnl c_2; have z2 := tnl c_3; have z3 := teq c_4; have z5 := tnle c_5; have y0 : (0 : Int32).toInt = 0 := rfl; have y4 : (4 : Int32).toInt = 4 := rfl; have y400 : (400 : Int32).toInt = 400 := rfl; omega)) dGa_isSameAsPresent_58 ?_
                refine lv_aload_n hx hb dGa_isSameAsPresent_59 rfl (lv_at hl 0 rfl) ?_
                refine va_get (D := (dC, dI)) (ci := 1) (v := .ref o_pictures) (C := RGa) (T := TGa) (N := 6) hx hb hB inGa hown hK hP 0 rfl rfl 5 (by decide) (hB _ q1_150) (fun _ h9 => h9) rfl dGa_isSameAsPresent_60 ?_
                refine lv_iconst (v := 4) hx hb dGa_isSameAsPresent_63 (by decide) ?_
                refine lv_aload_n hx hb dGa_isSameAsPresent_64 rfl (lv_at hl 0 rfl) ?_
                refine va_get (D := (dC, dI)) (ci := 1) (v := .int oS_count) (C := RGa) (T := TGa) (N := 6) hx hb hB inGa hown hK hP 0 rfl rfl 1 (by decide) (hB _ q1_144) (fun _ h9 => h9) rfl dGa_isSameAsPresent_65 ?_
                refine lv_imul hx hb dGa_isSameAsPresent_68 ?_
                refine lv_iload_n hx hb dGa_isSameAsPresent_69 rfl (lv_at hl 2 rfl) ?_
                refine lv_iadd hx hb dGa_isSameAsPresent_70 ?_
                refine va_lald hx hb hK hP 8 1 rfl rfl (pic_in (c := oS_count) (b := v2_44) (by have z0 := tnl c_1; have z1 := tnl c_2; have z2 := tnl c_3; have z3 := teq c_4; have z5 := tnle c_5; have y0 : (0 : Int32).toInt = 0 := rfl; have y4 : (4 : Int32).toInt = 4 := rfl; have y400 : (400 : Int32).toInt = 400 := rfl; omega) (by have z0 := tnl c_1; have z1 := tnl c_2; have z2 := tnl c_3; have z3 := teq c_4; have z5 := tnle c_5; have y0 : (0 : Int32).toInt = 0 := rfl; have y4 : (4 : Int32).toInt = 4 := rfl; have y400 : (400 : Int32).toInt = 400 := rfl; omega) (by have z0 := tnl c_1; have z1 := tnl c_2; have z2 := tnl c_3; have z3 := teq c_4; have z5 := tnle c_5; have y0 : (0 : Int32).toInt = 0 := rfl; have y4 : (4 : Int32).toInt = 4 := rfl; have y400 : (400 : Int32).toInt = 400 := rfl; omega) (by have z0 := tnl c_1; have z1 := tnl c_2; have z2 := tnl c_3; have z3 := teq c_4; have z5 := tnle c_5; have y0 : (0 : Int32).toInt = 0 := rfl; have y4 : (4 : Int32).toInt = 4 := rfl; have y400 : (400 : Int32).toInt = 400 := rfl; omega)) dGa_isSameAsPresent_71 ?_
                refine W.lcmp hx hb dGa_isSameAsPresent_72 ?_
                refine lv_if_eq (tgt := 78) hx hb dGa_isSameAsPresent_73 (by decide) (fun q => let_c (h := (oS_pictures ((4 * i) + v2_44).toNatClampNeg) = (oS_pictures ((4 * oS_count) + v2_44).toNatClampNeg)) (lgc_eq.1 q) (fun c_6 => ?_)) (fun q => let_c (h := ¬ (oS_pictures ((4 * i) + v2_44).toNatClampNeg) = (oS_pictures ((4 * oS_count) + v2_44).toNatClampNeg)) (lgc_eq.2 q) (fun c_6 => ?_))
                · refine lv_iinc (v := v2_44 + 1) (lv' := [(2, .int (v2_44 + 1)), (0, .ref o), (1, .int i)]) hx hb dGa_isSameAsPresent_78 hl (k := 2) rfl rfl (by decide) rfl (fun ls hl => ?_)
                  refine lv_goto (tgt := 44) hx hb dGa_isSameAsPresent_81 (by decide) ?_
                  exact ih_44 (v2_44 + 1) (he_44.trans (by rw [f_Ga_isSameAsPresent_44_eq, if_neg c_5, if_pos c_6] <;> rfl)) (by have z0 := tnl c_1; have z1 := tnl c_2; have z2 := tnl c_3; have z3 := teq c_4; have z5 := tnle c_5; have y0 : (0 : Int32).toInt = 0 := rfl; have y4 : (4 : Int32).toInt = 4 := rfl; have y400 : (400 : Int32).toInt = 400 := rfl; have zr := i_rng (4 : Int32); have zs := i_succ9 v2_44 (by omega); omega) ls (lv_sub hl [1, 2, 0] rfl)
                · refine lv_iconst (v := 0) hx hb dGa_isSameAsPresent_76 (by decide) ?_
                  exact ro_retz hx hb hr rfl hlocks dGa_isSameAsPresent_77 (Eq.symm (he_44.trans (by rw [f_Ga_isSameAsPresent_44_eq, if_neg c_5, if_neg c_6] <;> rfl)))
          exact J_44 (5) 0 (by rw [f_Ga_isSameAsPresent_eq, if_neg c_1, if_neg c_2, if_neg c_3, if_pos c_4] <;> rfl) (by decide) ls (lv_sub hl [1, 2, 0] rfl)
        · refine lv_iconst (v := 0) hx hb dGa_isSameAsPresent_40 (by decide) ?_
          exact ro_retz hx hb hr rfl hlocks dGa_isSameAsPresent_41 (Eq.symm (by rw [f_Ga_isSameAsPresent_eq, if_neg c_1, if_neg c_2, if_neg c_3, if_neg c_4] <;> rfl))

abbrev cGa_timesStood : ByteArray := prog_3_method_6_code
def yGa_timesStood : MethodName := ⟨"ChessRules$Game", "timesStood", "()I"⟩
def wsGa_timesStood : List Cond := Cond.code yGa_timesStood cGa_timesStood 3 (some .int) :: BIG
theorem dGa_timesStood_0 : decode cGa_timesStood 0 = .ok (.iconst 0, 1) := by decide +kernel
theorem dGa_timesStood_1 : decode cGa_timesStood 1 = .ok (.istore_n 1, 1) := by decide +kernel
theorem dGa_timesStood_2 : decode cGa_timesStood 2 = .ok (.iconst 0, 1) := by decide +kernel
theorem dGa_timesStood_3 : decode cGa_timesStood 3 = .ok (.istore_n 2, 1) := by decide +kernel
theorem dGa_timesStood_4 : decode cGa_timesStood 4 = .ok (.iload_n 2, 1) := by decide +kernel
theorem dGa_timesStood_5 : decode cGa_timesStood 5 = .ok (.aload_n 0, 1) := by decide +kernel
theorem dGa_timesStood_6 : decode cGa_timesStood 6 = .ok (.getfield 18, 3) := by decide +kernel
theorem dGa_timesStood_9 : decode cGa_timesStood 9 = .ok (.if_icmp .gt 20, 3) := by decide +kernel
theorem dGa_timesStood_12 : decode cGa_timesStood 12 = .ok (.aload_n 0, 1) := by decide +kernel
theorem dGa_timesStood_13 : decode cGa_timesStood 13 = .ok (.iload_n 2, 1) := by decide +kernel
theorem dGa_timesStood_14 : decode cGa_timesStood 14 = .ok (.invokevirtual 71, 3) := by decide +kernel
theorem dGa_timesStood_17 : decode cGa_timesStood 17 = .ok (.ifCond .eq 6, 3) := by decide +kernel
theorem dGa_timesStood_20 : decode cGa_timesStood 20 = .ok (.iinc 1 1, 3) := by decide +kernel
theorem dGa_timesStood_23 : decode cGa_timesStood 23 = .ok (.iinc 2 1, 3) := by decide +kernel
theorem dGa_timesStood_26 : decode cGa_timesStood 26 = .ok (.goto (-22), 3) := by decide +kernel
theorem dGa_timesStood_29 : decode cGa_timesStood 29 = .ok (.iload_n 1, 1) := by decide +kernel
theorem dGa_timesStood_30 : decode cGa_timesStood 30 = .ok (.ireturn, 1) := by decide +kernel

def f_Ga_timesStood_4 (oS_count : Int32) (oS_marks : Nat → Int32) (oS_pictures : Nat → Int64) : Nat → Int32 → Int32 → Int32
  | 0 => fun _ _ => 0
  | n_4 + 1 => fun v1_4 v2_4 => (if oS_count < v2_4 then v1_4 else (if (f_Ga_isSameAsPresent oS_count oS_marks oS_pictures v2_4) = 0 then (f_Ga_timesStood_4 oS_count oS_marks oS_pictures n_4) v1_4 (v2_4 + 1) else (f_Ga_timesStood_4 oS_count oS_marks oS_pictures n_4) (v1_4 + 1) (v2_4 + 1)))
theorem f_Ga_timesStood_4_eq (oS_count : Int32) (oS_marks : Nat → Int32) (oS_pictures : Nat → Int64) (n_4 : Nat) (v1_4 : Int32) (v2_4 : Int32) : f_Ga_timesStood_4 oS_count oS_marks oS_pictures (n_4 + 1) v1_4 v2_4 =
  (if oS_count < v2_4 then v1_4 else (if (f_Ga_isSameAsPresent oS_count oS_marks oS_pictures v2_4) = 0 then (f_Ga_timesStood_4 oS_count oS_marks oS_pictures n_4) v1_4 (v2_4 + 1) else (f_Ga_timesStood_4 oS_count oS_marks oS_pictures n_4) (v1_4 + 1) (v2_4 + 1))) := rfl

def f_Ga_timesStood (oS_count : Int32) (oS_marks : Nat → Int32) (oS_pictures : Nat → Int64) : Int32 :=
  f_Ga_timesStood_4 oS_count oS_marks oS_pictures (((oS_count : Int32).toInt - 0).toNat + 2) 0 0
theorem f_Ga_timesStood_eq (oS_count : Int32) (oS_marks : Nat → Int32) (oS_pictures : Nat → Int64) : f_Ga_timesStood oS_count oS_marks oS_pictures =
  f_Ga_timesStood_4 oS_count oS_marks oS_pictures (((oS_count : Int32).toInt - 0).toNat + 2) 0 0 := rfl

set_option maxHeartbeats 4000000 in
set_option maxRecDepth 100000 in
theorem c_Ga_timesStood (l : Launch) (dC : Nat → ClassId) (dI : Nat → Nat → Nat) (cI cJ cC : ClassId) (ad : Nat → Nat) (o o_present o_present_board o_present_board_men o_present_board_sets o_told o_memories o_marks o_pictures : Nat) (oS_present : St_Po) (oS_count : Int32) (oS_told : Nat → Int32) (oS_memories : Nat → Int32) (oS_marks : Nat → Int32) (oS_pictures : Nat → Int64) (hc : oS_count.toInt ≤ 400) : Met l yGa_timesStood wsGa_timesStood { frames := 1, cells := 0, slots := 0, locals := 22 } (roP dC dI (TYS cI cJ cC) [.ref o] [(o, .inr (1, [.ref o_present, .int oS_count, .ref o_told, .ref o_memories, .ref o_marks, .ref o_pictures])), (o_present, .inr (3, [.ref o_present_board, .int oS_present.2.1, .int oS_present.2.2.1, .int oS_present.2.2.2.1, .int oS_present.2.2.2.2.1, .int oS_present.2.2.2.2.2])), (o_present_board, .inr (0, [.ref o_present_board_men, .ref o_present_board_sets])), (o_present_board_men, .inl (cI, 64, .inl oS_present.1.1)), (o_present_board_sets, .inl (cJ, 16, .inr (.inl oS_present.1.2))), (o_told, .inl (cI, 400, .inl oS_told)), (o_memories, .inl (cI, 400, .inl oS_memories)), (o_marks, .inl (cI, 401, .inl oS_marks)), (o_pictures, .inl (cJ, 1604, .inr (.inl oS_pictures)))] (GS ad)) (vp_Si (fun r => r = f_Ga_timesStood oS_count oS_marks oS_pictures)) 0 0 (fun _ => False) := by
  refine Met.ofW (cc := cGa_timesStood) (maxL := 3) (ret := (some .int)) (by decide) rfl ?_
  intro p e s m args below meth c s₁ B hml hv
  obtain ⟨rfl, hP, hK, hG⟩ := hv
  have hx := B.exec
  have hb := B.bytes
  have hr := B.returns
  have hB : ∀ w9 ∈ BIG, w9.before ([.ref o]).toArray s = true := fun w9 h => atoms_spec (ws := wsGa_timesStood) B.pre w9 (List.mem_cons_of_mem _ h)
  have hown : s.vm.findClass "ChessRules$Game" = some m.cls := findClass_of_methodNamed B.named
  have hlocks := B.notSynchronized
  have hS : va_S (fun _ => False) s.heap s.heap [] := va_S.rf
  have hP : va_P (dC, dI) vwCl [(o, .inr (1, [.ref o_present, .int oS_count, .ref o_told, .ref o_memories, .ref o_marks, .ref o_pictures])), (o_present, .inr (3, [.ref o_present_board, .int oS_present.2.1, .int oS_present.2.2.1, .int oS_present.2.2.2.1, .int oS_present.2.2.2.2.1, .int oS_present.2.2.2.2.2])), (o_present_board, .inr (0, [.ref o_present_board_men, .ref o_present_board_sets])), (o_present_board_men, .inl (cI, 64, .inl oS_present.1.1)), (o_present_board_sets, .inl (cJ, 16, .inr (.inl oS_present.1.2))), (o_told, .inl (cI, 400, .inl oS_told)), (o_memories, .inl (cI, 400, .inl oS_memories)), (o_marks, .inl (cI, 401, .inl oS_marks)), (o_pictures, .inl (cJ, 1604, .inr (.inl oS_pictures)))] s.heap := hP
  have hl := lv_entry ([.ref o]) (n := 3) (Nat.le_of_ble_eq_true rfl)
  rw [lg_entry_eq]
  generalize (lg_sl ([.ref o]) ++ List.replicate (3 - (lg_sl ([.ref o])).length) Slot.unset).toArray = ls at hl ⊢
  have hl : lv_has ls 3 [(0, .ref o)] := hl
  refine lv_iconst (v := 0) hx hb dGa_timesStood_0 (by decide) ?_
  refine lv_istore_n (lv' := [(1, .int 0), (0, .ref o)]) hx hb dGa_timesStood_1 rfl hl (by decide) rfl (fun ls hl => ?_)
  refine lv_iconst (v := 0) hx hb dGa_timesStood_2 (by decide) ?_
  refine lv_istore_n (lv' := [(2, .int 0), (1, .int 0), (0, .ref o)]) hx hb dGa_timesStood_3 rfl hl (by decide) rfl (fun ls hl => ?_)
  have J_4 : ∀ (n_4 : Nat) (v1_4 : Int32) (v2_4 : Int32), f_Ga_timesStood oS_count oS_marks oS_pictures = f_Ga_timesStood_4 oS_count oS_marks oS_pictures n_4 v1_4 v2_4 → ((0 : Int) ≤ v2_4.toInt ∧ (oS_count : Int32).toInt - v2_4.toInt + 2 ≤ (n_4 : Int) ∧ (1 : Int) ≤ (n_4 : Int)) → ∀ ls : Array Slot, lv_has ls 3 [(0, .ref o), (1, .int v1_4), (2, .int v2_4)] → W p l e (headSpec wsGa_timesStood { frames := 1, cells := 0, slots := 0, locals := 22 }).room s m ([.ref o]).toArray below meth c s.heap [] 0 0 (MQ below (vp_Si (fun r => r = f_Ga_timesStood oS_count oS_marks oS_pictures)) ([.ref o]).toArray s 0 0 (fun _ => False)) (F0 m 4 ls []) := by
    intro n_4
    induction n_4 with
    | zero => intro v1_4 v2_4 _ hm_4; exact absurd hm_4 (by omega)
    | succ n_4 ih_4 =>
      intro v1_4 v2_4 he_4 hm_4 ls hl
      refine lv_iload_n hx hb dGa_timesStood_4 rfl (lv_at hl 2 rfl) ?_
      refine lv_aload_n hx hb dGa_timesStood_5 rfl (lv_at hl 0 rfl) ?_
      refine va_get (D := (dC, dI)) (ci := 1) (v := .int oS_count) (C := RGa) (T := TGa) (N := 6) hx hb hB inGa hown hK hP 0 rfl rfl 1 (by decide) (hB _ q1_144) (fun _ h9 => h9) rfl dGa_timesStood_6 ?_
      refine lv_icmp_gt (tgt := 29) hx hb dGa_timesStood_9 (by decide) (fun c_1 => ?_) (fun c_1 => ?_)
      · refine lv_iload_n hx hb dGa_timesStood_29 rfl (lv_at hl 1 rfl) ?_
        exact ro_reti hx hb hr hlocks dGa_timesStood_30 (Eq.symm (he_4.trans (by rw [f_Ga_timesStood_4_eq, if_pos c_1] <;> rfl)))
      · refine lv_aload_n hx hb dGa_timesStood_12 rfl (lv_at hl 0 rfl) ?_
        refine lv_iload_n hx hb dGa_timesStood_13 rfl (lv_at hl 2 rfl) ?_
        refine ro_goi (va_runV (C := "ChessRules$Game") (As := [.int v2_4]) (rest := []) ⟨hx, hb, hml, hown, hB⟩ (c_Ga_isSameAsPresent l dC dI cI cJ cC ad o o_present o_present_board o_present_board_men o_present_board_sets o_told o_memories o_marks o_pictures oS_present oS_count oS_told oS_memories oS_marks oS_pictures v2_4) ⟨callB_of 1 hB (big_self q3_146) rfl rfl rfl (hB _ q1_6) (hB _ q3_143) (by decide +kernel) ⟨Nat.le_of_ble_eq_true rfl, Nat.le_of_ble_eq_true rfl⟩, (hB _ q3_145), (hB _ qs4_1)⟩ (ro_preV (GS_ok ad) hK hP hG hS [0, 1, 2, 3, 4, 5, 6, 7, 8] rfl (va_recv hK hP (ci := 1) (q0 := 0) rfl rfl)) rfl rfl hl.1 rfl (lv_room (Nat.le_of_ble_eq_true rfl)) dGa_timesStood_14 ⟨Nat.le_of_ble_eq_true rfl, Nat.le_of_ble_eq_true rfl⟩) ?_
        refine lv_if_eq (tgt := 23) hx hb dGa_timesStood_17 (by decide) (fun c_2 => ?_) (fun c_2 => ?_)
        · refine lv_iinc (v := v2_4 + 1) (lv' := [(2, .int (v2_4 + 1)), (0, .ref o), (1, .int v1_4)]) hx hb dGa_timesStood_23 hl (k := 2) rfl rfl (by decide) rfl (fun ls hl => ?_)
          refine lv_goto (tgt := 4) hx hb dGa_timesStood_26 (by decide) ?_
          exact ih_4 v1_4 (v2_4 + 1) (he_4.trans (by rw [f_Ga_timesStood_4_eq, if_neg c_1, if_pos c_2] <;> rfl)) (by have z1 := tnl c_1; have z2 := teq c_2; have y0 : (0 : Int32).toInt = 0 := rfl; have zr := i_rng (oS_count : Int32); have zs := i_succ9 v2_4 (by omega); omega) ls (lv_sub hl [1, 2, 0] rfl)
        · refine lv_iinc (v := v1_4 + 1) (lv' := [(1, .int (v1_4 + 1)), (0, .ref o), (2, .int v2_4)]) hx hb dGa_timesStood_20 hl (k := 1) rfl rfl (by decide) rfl (fun ls hl => ?_)
          refine lv_iinc (v := v2_4 + 1) (lv' := [(2, .int (v2_4 + 1)), (1, .int (v1_4 + 1)), (0, .ref o)]) hx hb dGa_timesStood_23 hl (k := 2) rfl rfl (by decide) rfl (fun ls hl => ?_)
          refine lv_goto (tgt := 4) hx hb dGa_timesStood_26 (by decide) ?_
          exact ih_4 (v1_4 + 1) (v2_4 + 1) (he_4.trans (by rw [f_Ga_timesStood_4_eq, if_neg c_1, if_neg c_2] <;> rfl)) (by have z1 := tnl c_1; have z2 := tne c_2; have y0 : (0 : Int32).toInt = 0 := rfl; have zr := i_rng (oS_count : Int32); have zs := i_succ9 v2_4 (by omega); omega) ls (lv_sub hl [2, 1, 0] rfl)
  exact J_4 (((oS_count : Int32).toInt - 0).toNat + 2) 0 0 (by rw [f_Ga_timesStood_eq] <;> rfl) (by have y0 : (0 : Int32).toInt = 0 := rfl; omega) ls (lv_sub hl [2, 1, 0] rfl)

abbrev cGa_endByItself : ByteArray := prog_3_method_8_code
def yGa_endByItself : MethodName := ⟨"ChessRules$Game", "endByItself", "()I"⟩
def wsGa_endByItself : List Cond := Cond.code yGa_endByItself cGa_endByItself 1 (some .int) :: BIG
theorem dGa_endByItself_0 : decode cGa_endByItself 0 = .ok (.aload_n 0, 1) := by decide +kernel
theorem dGa_endByItself_1 : decode cGa_endByItself 1 = .ok (.getfield 12, 3) := by decide +kernel
theorem dGa_endByItself_4 : decode cGa_endByItself 4 = .ok (.getfield 61, 3) := by decide +kernel
theorem dGa_endByItself_7 : decode cGa_endByItself 7 = .ok (.invokevirtual 75, 3) := by decide +kernel
theorem dGa_endByItself_10 : decode cGa_endByItself 10 = .ok (.ifCond .eq 5, 3) := by decide +kernel
theorem dGa_endByItself_13 : decode cGa_endByItself 13 = .ok (.iconst 3, 1) := by decide +kernel
theorem dGa_endByItself_14 : decode cGa_endByItself 14 = .ok (.ireturn, 1) := by decide +kernel
theorem dGa_endByItself_15 : decode cGa_endByItself 15 = .ok (.aload_n 0, 1) := by decide +kernel
theorem dGa_endByItself_16 : decode cGa_endByItself 16 = .ok (.invokevirtual 79, 3) := by decide +kernel
theorem dGa_endByItself_19 : decode cGa_endByItself 19 = .ok (.iconst 5, 1) := by decide +kernel
theorem dGa_endByItself_20 : decode cGa_endByItself 20 = .ok (.if_icmp .lt 5, 3) := by decide +kernel
theorem dGa_endByItself_23 : decode cGa_endByItself 23 = .ok (.iconst 4, 1) := by decide +kernel
theorem dGa_endByItself_24 : decode cGa_endByItself 24 = .ok (.ireturn, 1) := by decide +kernel
theorem dGa_endByItself_25 : decode cGa_endByItself 25 = .ok (.aload_n 0, 1) := by decide +kernel
theorem dGa_endByItself_26 : decode cGa_endByItself 26 = .ok (.getfield 12, 3) := by decide +kernel
theorem dGa_endByItself_29 : decode cGa_endByItself 29 = .ok (.getfield 82, 3) := by decide +kernel
theorem dGa_endByItself_32 : decode cGa_endByItself 32 = .ok (.sipush 150, 3) := by decide +kernel
theorem dGa_endByItself_35 : decode cGa_endByItself 35 = .ok (.if_icmp .lt 7, 3) := by decide +kernel
theorem dGa_endByItself_38 : decode cGa_endByItself 38 = .ok (.iconst 5, 1) := by decide +kernel
theorem dGa_endByItself_39 : decode cGa_endByItself 39 = .ok (.goto 4, 3) := by decide +kernel
theorem dGa_endByItself_42 : decode cGa_endByItself 42 = .ok (.iconst 0, 1) := by decide +kernel
theorem dGa_endByItself_43 : decode cGa_endByItself 43 = .ok (.ireturn, 1) := by decide +kernel

def f_Ga_endByItself (oS_present : St_Po) (oS_count : Int32) (oS_marks : Nat → Int32) (oS_pictures : Nat → Int64) : Int32 :=
  (if (f_Bo_hasTooLittle oS_present.1.2) = 0 then (if (f_Ga_timesStood oS_count oS_marks oS_pictures) < 5 then (if oS_present.2.2.2.2.1 < 150 then 0 else 5) else 4) else 3)
theorem f_Ga_endByItself_eq (oS_present : St_Po) (oS_count : Int32) (oS_marks : Nat → Int32) (oS_pictures : Nat → Int64) : f_Ga_endByItself oS_present oS_count oS_marks oS_pictures =
  (if (f_Bo_hasTooLittle oS_present.1.2) = 0 then (if (f_Ga_timesStood oS_count oS_marks oS_pictures) < 5 then (if oS_present.2.2.2.2.1 < 150 then 0 else 5) else 4) else 3) := rfl

set_option maxHeartbeats 4000000 in
set_option maxRecDepth 100000 in
theorem c_Ga_endByItself (l : Launch) (dC : Nat → ClassId) (dI : Nat → Nat → Nat) (cI cJ cC : ClassId) (ad : Nat → Nat) (o o_present o_present_board o_present_board_men o_present_board_sets o_told o_memories o_marks o_pictures : Nat) (oS_present : St_Po) (oS_count : Int32) (oS_told : Nat → Int32) (oS_memories : Nat → Int32) (oS_marks : Nat → Int32) (oS_pictures : Nat → Int64) (hc : oS_count.toInt ≤ 400) : Met l yGa_endByItself wsGa_endByItself { frames := 3, cells := 0, slots := 0, locals := 66 } (roP dC dI (TYS cI cJ cC) [.ref o] [(o, .inr (1, [.ref o_present, .int oS_count, .ref o_told, .ref o_memories, .ref o_marks, .ref o_pictures])), (o_present, .inr (3, [.ref o_present_board, .int oS_present.2.1, .int oS_present.2.2.1, .int oS_present.2.2.2.1, .int oS_present.2.2.2.2.1, .int oS_present.2.2.2.2.2])), (o_present_board, .inr (0, [.ref o_present_board_men, .ref o_present_board_sets])), (o_present_board_men, .inl (cI, 64, .inl oS_present.1.1)), (o_present_board_sets, .inl (cJ, 16, .inr (.inl oS_present.1.2))), (o_told, .inl (cI, 400, .inl oS_told)), (o_memories, .inl (cI, 400, .inl oS_memories)), (o_marks, .inl (cI, 401, .inl oS_marks)), (o_pictures, .inl (cJ, 1604, .inr (.inl oS_pictures)))] (GS ad)) (vp_Si (fun r => r = f_Ga_endByItself oS_present oS_count oS_marks oS_pictures)) 0 0 (fun _ => False) := by
  refine Met.ofW (cc := cGa_endByItself) (maxL := 1) (ret := (some .int)) (by decide) rfl ?_
  intro p e s m args below meth c s₁ B hml hv
  obtain ⟨rfl, hP, hK, hG⟩ := hv
  have hx := B.exec
  have hb := B.bytes
  have hr := B.returns
  have hB : ∀ w9 ∈ BIG, w9.before ([.ref o]).toArray s = true := fun w9 h => atoms_spec (ws := wsGa_endByItself) B.pre w9 (List.mem_cons_of_mem _ h)
  have hown : s.vm.findClass "ChessRules$Game" = some m.cls := findClass_of_methodNamed B.named
  have hlocks := B.notSynchronized
  have hS : va_S (fun _ => False) s.heap s.heap [] := va_S.rf
  have hP : va_P (dC, dI) vwCl [(o, .inr (1, [.ref o_present, .int oS_count, .ref o_told, .ref o_memories, .ref o_marks, .ref o_pictures])), (o_present, .inr (3, [.ref o_present_board, .int oS_present.2.1, .int oS_present.2.2.1, .int oS_present.2.2.2.1, .int oS_present.2.2.2.2.1, .int oS_present.2.2.2.2.2])), (o_present_board, .inr (0, [.ref o_present_board_men, .ref o_present_board_sets])), (o_present_board_men, .inl (cI, 64, .inl oS_present.1.1)), (o_present_board_sets, .inl (cJ, 16, .inr (.inl oS_present.1.2))), (o_told, .inl (cI, 400, .inl oS_told)), (o_memories, .inl (cI, 400, .inl oS_memories)), (o_marks, .inl (cI, 401, .inl oS_marks)), (o_pictures, .inl (cJ, 1604, .inr (.inl oS_pictures)))] s.heap := hP
  have hl := lv_entry ([.ref o]) (n := 1) (Nat.le_of_ble_eq_true rfl)
  rw [lg_entry_eq]
  generalize (lg_sl ([.ref o]) ++ List.replicate (1 - (lg_sl ([.ref o])).length) Slot.unset).toArray = ls at hl ⊢
  have hl : lv_has ls 1 [(0, .ref o)] := hl
  refine lv_aload_n hx hb dGa_endByItself_0 rfl (lv_at hl 0 rfl) ?_
  refine va_get (D := (dC, dI)) (ci := 1) (v := .ref o_present) (C := RGa) (T := TGa) (N := 6) hx hb hB inGa hown hK hP 0 rfl rfl 0 (by decide) (hB _ q1_142) (fun _ h9 => h9) rfl dGa_endByItself_1 ?_
  refine va_getN (D := (dC, dI)) (ci := 3) (v := .ref o_present_board) (C := RPo) (T := TPo) (N := 6) hx hb hB inPo hown hK hP 1 rfl rfl 0 (by decide) (va_Nw.use rfl (hG.1 _ q1_81)) (fun _ h9 => h9) rfl dGa_endByItself_4 ?_
  refine ro_goi (va_runVN (C := "ChessRules$Board") (As := []) (rest := []) ⟨hx, hb, hml, hown, hB⟩ (c_Bo_hasTooLittle l dC dI cI cJ cC ad o_present_board o_present_board_men o_present_board_sets oS_present.1.1 oS_present.1.2) ⟨va_cnB 0 hB (big_self q3_162) rfl rfl rfl (hG.1 _ q3_159) (hB _ q1_5) (by decide +kernel) ⟨Nat.le_of_ble_eq_true rfl, Nat.le_of_ble_eq_true rfl⟩, (hB _ q3_161), (hB _ qs4_4)⟩ (ro_preV (GS_ok ad) hK hP hG hS [2, 3, 4] rfl (va_recv hK hP (ci := 0) (q0 := 2) rfl rfl)) rfl rfl hl.1 rfl (lv_room (Nat.le_of_ble_eq_true rfl)) dGa_endByItself_7 ⟨Nat.le_of_ble_eq_true rfl, Nat.le_of_ble_eq_true rfl⟩) ?_
  refine lv_if_eq (tgt := 15) hx hb dGa_endByItself_10 (by decide) (fun c_1 => ?_) (fun c_1 => ?_)
  · refine lv_aload_n hx hb dGa_endByItself_15 rfl (lv_at hl 0 rfl) ?_
    refine ro_goi (va_runV (C := "ChessRules$Game") (As := []) (rest := []) ⟨hx, hb, hml, hown, hB⟩ (c_Ga_timesStood l dC dI cI cJ cC ad o o_present o_present_board o_present_board_men o_present_board_sets o_told o_memories o_marks o_pictures oS_present oS_count oS_told oS_memories oS_marks oS_pictures hc) ⟨callB_of 0 hB (big_self q3_142) rfl rfl rfl (hB _ q1_6) (hB _ q3_167) (by decide +kernel) ⟨Nat.le_of_ble_eq_true rfl, Nat.le_of_ble_eq_true rfl⟩, (hB _ q3_141), (hB _ qs4_0)⟩ (ro_preV (GS_ok ad) hK hP hG hS [0, 1, 2, 3, 4, 5, 6, 7, 8] rfl (va_recv hK hP (ci := 1) (q0 := 0) rfl rfl)) rfl rfl hl.1 rfl (lv_room (Nat.le_of_ble_eq_true rfl)) dGa_endByItself_16 ⟨Nat.le_of_ble_eq_true rfl, Nat.le_of_ble_eq_true rfl⟩) ?_
    refine lv_iconst (v := 5) hx hb dGa_endByItself_19 (by decide) ?_
    refine lv_icmp_lt (tgt := 25) hx hb dGa_endByItself_20 (by decide) (fun c_2 => ?_) (fun c_2 => ?_)
    · refine lv_aload_n hx hb dGa_endByItself_25 rfl (lv_at hl 0 rfl) ?_
      refine va_get (D := (dC, dI)) (ci := 1) (v := .ref o_present) (C := RGa) (T := TGa) (N := 6) hx hb hB inGa hown hK hP 0 rfl rfl 0 (by decide) (hB _ q1_142) (fun _ h9 => h9) rfl dGa_endByItself_26 ?_
      refine va_getN (D := (dC, dI)) (ci := 3) (v := .int oS_present.2.2.2.2.1) (C := RPo) (T := TPo) (N := 6) hx hb hB inPo hown hK hP 1 rfl rfl 4 (by decide) (va_Nw.use rfl (hG.1 _ q1_100)) (fun _ h9 => h9) rfl dGa_endByItself_29 ?_
      refine lv_sipush (v := 150) hx hb dGa_endByItself_32 (by decide) ?_
      refine lv_icmp_lt (tgt := 42) hx hb dGa_endByItself_35 (by decide) (fun c_3 => ?_) (fun c_3 => ?_)
      · refine lv_iconst (v := 0) hx hb dGa_endByItself_42 (by decide) ?_
        exact ro_reti hx hb hr hlocks dGa_endByItself_43 (Eq.symm (by rw [f_Ga_endByItself_eq, if_pos c_1, if_pos c_2, if_pos c_3] <;> rfl))
      · refine lv_iconst (v := 5) hx hb dGa_endByItself_38 (by decide) ?_
        refine lv_goto (tgt := 43) hx hb dGa_endByItself_39 (by decide) ?_
        exact ro_reti hx hb hr hlocks dGa_endByItself_43 (Eq.symm (by rw [f_Ga_endByItself_eq, if_pos c_1, if_pos c_2, if_neg c_3] <;> rfl))
    · refine lv_iconst (v := 4) hx hb dGa_endByItself_23 (by decide) ?_
      exact ro_reti hx hb hr hlocks dGa_endByItself_24 (Eq.symm (by rw [f_Ga_endByItself_eq, if_pos c_1, if_neg c_2] <;> rfl))
  · refine lv_iconst (v := 3) hx hb dGa_endByItself_13 (by decide) ?_
    exact ro_reti hx hb hr hlocks dGa_endByItself_14 (Eq.symm (by rw [f_Ga_endByItself_eq, if_neg c_1] <;> rfl))

abbrev cGa_begin : ByteArray := prog_3_method_2_code
def yGa_begin : MethodName := ⟨"ChessRules$Game", "begin", "(LChessRules$Position;)V"⟩
def wsGa_begin : List Cond := Cond.code yGa_begin cGa_begin 2 none :: BIG
theorem dGa_begin_0 : decode cGa_begin 0 = .ok (.aload_n 0, 1) := by decide +kernel
theorem dGa_begin_1 : decode cGa_begin 1 = .ok (.getfield 12, 3) := by decide +kernel
theorem dGa_begin_4 : decode cGa_begin 4 = .ok (.aload_n 1, 1) := by decide +kernel
theorem dGa_begin_5 : decode cGa_begin 5 = .ok (.invokevirtual 36, 3) := by decide +kernel
theorem dGa_begin_8 : decode cGa_begin 8 = .ok (.aload_n 0, 1) := by decide +kernel
theorem dGa_begin_9 : decode cGa_begin 9 = .ok (.iconst 0, 1) := by decide +kernel
theorem dGa_begin_10 : decode cGa_begin 10 = .ok (.putfield 18, 3) := by decide +kernel
theorem dGa_begin_13 : decode cGa_begin 13 = .ok (.aload_n 0, 1) := by decide +kernel
theorem dGa_begin_14 : decode cGa_begin 14 = .ok (.invokevirtual 40, 3) := by decide +kernel
theorem dGa_begin_17 : decode cGa_begin 17 = .ok (.return_, 1) := by decide +kernel

def f_Ga_begin_r14 (oS_present : St_Po) (oS_marks : Nat → Int32) (oS_pictures : Nat → Int64) (xS_board : St_Bo) (xS_side : Int32) (xS_rights : Int32) (xS_passed : Int32) (xS_clock : Int32) (xS_number : Int32) (R_5 : (St_Bo × Int32 × Int32 × Int32 × Int32 × Int32)) (R_14 : ((Nat → Int32) × (Nat → Int64))) : St_Po × Int32 × (Nat → Int32) × (Nat → Int64) :=
  (R_5, 0, R_14.1, R_14.2)
theorem f_Ga_begin_r14_eq (oS_present : St_Po) (oS_marks : Nat → Int32) (oS_pictures : Nat → Int64) (xS_board : St_Bo) (xS_side : Int32) (xS_rights : Int32) (xS_passed : Int32) (xS_clock : Int32) (xS_number : Int32) (R_5 : (St_Bo × Int32 × Int32 × Int32 × Int32 × Int32)) (R_14 : ((Nat → Int32) × (Nat → Int64))) : f_Ga_begin_r14 oS_present oS_marks oS_pictures xS_board xS_side xS_rights xS_passed xS_clock xS_number R_5 R_14 =
  (R_5, 0, R_14.1, R_14.2) := rfl

def f_Ga_begin_r5 (oS_present : St_Po) (oS_marks : Nat → Int32) (oS_pictures : Nat → Int64) (xS_board : St_Bo) (xS_side : Int32) (xS_rights : Int32) (xS_passed : Int32) (xS_clock : Int32) (xS_number : Int32) (R_5 : (St_Bo × Int32 × Int32 × Int32 × Int32 × Int32)) : St_Po × Int32 × (Nat → Int32) × (Nat → Int64) :=
  f_Ga_begin_r14 oS_present oS_marks oS_pictures xS_board xS_side xS_rights xS_passed xS_clock xS_number R_5 (f_Ga_keepPicture R_5 0 oS_marks oS_pictures)
theorem f_Ga_begin_r5_eq (oS_present : St_Po) (oS_marks : Nat → Int32) (oS_pictures : Nat → Int64) (xS_board : St_Bo) (xS_side : Int32) (xS_rights : Int32) (xS_passed : Int32) (xS_clock : Int32) (xS_number : Int32) (R_5 : (St_Bo × Int32 × Int32 × Int32 × Int32 × Int32)) : f_Ga_begin_r5 oS_present oS_marks oS_pictures xS_board xS_side xS_rights xS_passed xS_clock xS_number R_5 =
  f_Ga_begin_r14 oS_present oS_marks oS_pictures xS_board xS_side xS_rights xS_passed xS_clock xS_number R_5 (f_Ga_keepPicture R_5 0 oS_marks oS_pictures) := rfl

def f_Ga_begin (oS_present : St_Po) (oS_marks : Nat → Int32) (oS_pictures : Nat → Int64) (xS_board : St_Bo) (xS_side : Int32) (xS_rights : Int32) (xS_passed : Int32) (xS_clock : Int32) (xS_number : Int32) : St_Po × Int32 × (Nat → Int32) × (Nat → Int64) :=
  f_Ga_begin_r5 oS_present oS_marks oS_pictures xS_board xS_side xS_rights xS_passed xS_clock xS_number (f_Po_copy oS_present.1 oS_present.2.1 oS_present.2.2.1 oS_present.2.2.2.1 oS_present.2.2.2.2.1 oS_present.2.2.2.2.2 xS_board xS_side xS_rights xS_passed xS_clock xS_number)
theorem f_Ga_begin_eq (oS_present : St_Po) (oS_marks : Nat → Int32) (oS_pictures : Nat → Int64) (xS_board : St_Bo) (xS_side : Int32) (xS_rights : Int32) (xS_passed : Int32) (xS_clock : Int32) (xS_number : Int32) : f_Ga_begin oS_present oS_marks oS_pictures xS_board xS_side xS_rights xS_passed xS_clock xS_number =
  f_Ga_begin_r5 oS_present oS_marks oS_pictures xS_board xS_side xS_rights xS_passed xS_clock xS_number (f_Po_copy oS_present.1 oS_present.2.1 oS_present.2.2.1 oS_present.2.2.2.1 oS_present.2.2.2.2.1 oS_present.2.2.2.2.2 xS_board xS_side xS_rights xS_passed xS_clock xS_number) := rfl

set_option maxHeartbeats 4000000 in
set_option maxRecDepth 100000 in
theorem c_Ga_begin (l : Launch) (dC : Nat → ClassId) (dI : Nat → Nat → Nat) (cI cJ cC : ClassId) (ad : Nat → Nat) (o o_present o_present_board o_present_board_men o_present_board_sets o_told o_memories o_marks o_pictures x x_board x_board_men x_board_sets : Nat) (sz : Nat) (oS_present : St_Po) (oS_count : Int32) (oS_told : Nat → Int32) (oS_memories : Nat → Int32) (oS_marks : Nat → Int32) (oS_pictures : Nat → Int64) (xS_board : St_Bo) (xS_side : Int32) (xS_rights : Int32) (xS_passed : Int32) (xS_clock : Int32) (xS_number : Int32) : Met l yGa_begin wsGa_begin { frames := 5, cells := 0, slots := 0, locals := 137 } (rwP dC dI (TYS cI cJ cC) [.ref o, .ref x] [(o, .inr (1, [.ref o_present, .int oS_count, .ref o_told, .ref o_memories, .ref o_marks, .ref o_pictures])), (o_present, .inr (3, [.ref o_present_board, .int oS_present.2.1, .int oS_present.2.2.1, .int oS_present.2.2.2.1, .int oS_present.2.2.2.2.1, .int oS_present.2.2.2.2.2])), (o_present_board, .inr (0, [.ref o_present_board_men, .ref o_present_board_sets])), (o_present_board_men, .inl (cI, 64, .inl oS_present.1.1)), (o_present_board_sets, .inl (cJ, 16, .inr (.inl oS_present.1.2))), (o_told, .inl (cI, 400, .inl oS_told)), (o_memories, .inl (cI, 400, .inl oS_memories)), (o_marks, .inl (cI, 401, .inl oS_marks)), (o_pictures, .inl (cJ, 1604, .inr (.inl oS_pictures))), (x, .inr (3, [.ref x_board, .int xS_side, .int xS_rights, .int xS_passed, .int xS_clock, .int xS_number])), (x_board, .inr (0, [.ref x_board_men, .ref x_board_sets])), (x_board_men, .inl (cI, 64, .inl xS_board.1)), (x_board_sets, .inl (cJ, 16, .inr (.inl xS_board.2)))] sz (GS ad)) (va_Qv (fun _ : Unit => True) (rwB dC dI (TYS cI cJ cC) [(o, .inr (1, [.ref o_present, .int ((f_Ga_begin oS_present oS_marks oS_pictures xS_board xS_side xS_rights xS_passed xS_clock xS_number).2.1), .ref o_told, .ref o_memories, .ref o_marks, .ref o_pictures])), (o_present, .inr (3, [.ref o_present_board, .int (((f_Ga_begin oS_present oS_marks oS_pictures xS_board xS_side xS_rights xS_passed xS_clock xS_number).1).2.1), .int (((f_Ga_begin oS_present oS_marks oS_pictures xS_board xS_side xS_rights xS_passed xS_clock xS_number).1).2.2.1), .int (((f_Ga_begin oS_present oS_marks oS_pictures xS_board xS_side xS_rights xS_passed xS_clock xS_number).1).2.2.2.1), .int (((f_Ga_begin oS_present oS_marks oS_pictures xS_board xS_side xS_rights xS_passed xS_clock xS_number).1).2.2.2.2.1), .int (((f_Ga_begin oS_present oS_marks oS_pictures xS_board xS_side xS_rights xS_passed xS_clock xS_number).1).2.2.2.2.2)])), (o_present_board, .inr (0, [.ref o_present_board_men, .ref o_present_board_sets])), (o_present_board_men, .inl (cI, 64, .inl ((((f_Ga_begin oS_present oS_marks oS_pictures xS_board xS_side xS_rights xS_passed xS_clock xS_number).1).1).1))), (o_present_board_sets, .inl (cJ, 16, .inr (.inl ((((f_Ga_begin oS_present oS_marks oS_pictures xS_board xS_side xS_rights xS_passed xS_clock xS_number).1).1).2)))), (o_told, .inl (cI, 400, .inl oS_told)), (o_memories, .inl (cI, 400, .inl oS_memories)), (o_marks, .inl (cI, 401, .inl ((f_Ga_begin oS_present oS_marks oS_pictures xS_board xS_side xS_rights xS_passed xS_clock xS_number).2.2.1))), (o_pictures, .inl (cJ, 1604, .inr (.inl ((f_Ga_begin oS_present oS_marks oS_pictures xS_board xS_side xS_rights xS_passed xS_clock xS_number).2.2.2)))), (x, .inr (3, [.ref x_board, .int xS_side, .int xS_rights, .int xS_passed, .int xS_clock, .int xS_number])), (x_board, .inr (0, [.ref x_board_men, .ref x_board_sets])), (x_board_men, .inl (cI, 64, .inl xS_board.1)), (x_board_sets, .inl (cJ, 16, .inr (.inl xS_board.2)))] (va_A [(o, .inr (1, [.ref o_present, .int oS_count, .ref o_told, .ref o_memories, .ref o_marks, .ref o_pictures])), (o_present, .inr (3, [.ref o_present_board, .int oS_present.2.1, .int oS_present.2.2.1, .int oS_present.2.2.2.1, .int oS_present.2.2.2.2.1, .int oS_present.2.2.2.2.2])), (o_present_board, .inr (0, [.ref o_present_board_men, .ref o_present_board_sets])), (o_present_board_men, .inl (cI, 64, .inl oS_present.1.1)), (o_present_board_sets, .inl (cJ, 16, .inr (.inl oS_present.1.2))), (o_told, .inl (cI, 400, .inl oS_told)), (o_memories, .inl (cI, 400, .inl oS_memories)), (o_marks, .inl (cI, 401, .inl oS_marks)), (o_pictures, .inl (cJ, 1604, .inr (.inl oS_pictures))), (x, .inr (3, [.ref x_board, .int xS_side, .int xS_rights, .int xS_passed, .int xS_clock, .int xS_number])), (x_board, .inr (0, [.ref x_board_men, .ref x_board_sets])), (x_board_men, .inl (cI, 64, .inl xS_board.1)), (x_board_sets, .inl (cJ, 16, .inr (.inl xS_board.2)))] sz)) (va_A [(o, .inr (1, [.ref o_present, .int oS_count, .ref o_told, .ref o_memories, .ref o_marks, .ref o_pictures])), (o_present, .inr (3, [.ref o_present_board, .int oS_present.2.1, .int oS_present.2.2.1, .int oS_present.2.2.2.1, .int oS_present.2.2.2.2.1, .int oS_present.2.2.2.2.2])), (o_present_board, .inr (0, [.ref o_present_board_men, .ref o_present_board_sets])), (o_present_board_men, .inl (cI, 64, .inl oS_present.1.1)), (o_present_board_sets, .inl (cJ, 16, .inr (.inl oS_present.1.2))), (o_told, .inl (cI, 400, .inl oS_told)), (o_memories, .inl (cI, 400, .inl oS_memories)), (o_marks, .inl (cI, 401, .inl oS_marks)), (o_pictures, .inl (cJ, 1604, .inr (.inl oS_pictures))), (x, .inr (3, [.ref x_board, .int xS_side, .int xS_rights, .int xS_passed, .int xS_clock, .int xS_number])), (x_board, .inr (0, [.ref x_board_men, .ref x_board_sets])), (x_board_men, .inl (cI, 64, .inl xS_board.1)), (x_board_sets, .inl (cJ, 16, .inr (.inl xS_board.2)))] sz)) 0 0 (va_A [(o, .inr (1, [.ref o_present, .int oS_count, .ref o_told, .ref o_memories, .ref o_marks, .ref o_pictures])), (o_present, .inr (3, [.ref o_present_board, .int oS_present.2.1, .int oS_present.2.2.1, .int oS_present.2.2.2.1, .int oS_present.2.2.2.2.1, .int oS_present.2.2.2.2.2])), (o_present_board, .inr (0, [.ref o_present_board_men, .ref o_present_board_sets])), (o_present_board_men, .inl (cI, 64, .inl oS_present.1.1)), (o_present_board_sets, .inl (cJ, 16, .inr (.inl oS_present.1.2))), (o_told, .inl (cI, 400, .inl oS_told)), (o_memories, .inl (cI, 400, .inl oS_memories)), (o_marks, .inl (cI, 401, .inl oS_marks)), (o_pictures, .inl (cJ, 1604, .inr (.inl oS_pictures))), (x, .inr (3, [.ref x_board, .int xS_side, .int xS_rights, .int xS_passed, .int xS_clock, .int xS_number])), (x_board, .inr (0, [.ref x_board_men, .ref x_board_sets])), (x_board_men, .inl (cI, 64, .inl xS_board.1)), (x_board_sets, .inl (cJ, 16, .inr (.inl xS_board.2)))] sz) := by
  refine Met.ofW (cc := cGa_begin) (maxL := 2) (ret := none) (by decide) rfl ?_
  intro p e s m args below meth c s₁ B hml hv
  obtain ⟨rfl, hsz, hP, hK, hD0, hG⟩ := hv
  have hx := B.exec
  have hb := B.bytes
  have hr := B.returns
  have hB : ∀ w9 ∈ BIG, w9.before ([.ref o, .ref x]).toArray s = true := fun w9 h => atoms_spec (ws := wsGa_begin) B.pre w9 (List.mem_cons_of_mem _ h)
  have hown : s.vm.findClass "ChessRules$Game" = some m.cls := findClass_of_methodNamed B.named
  have hlocks := B.notSynchronized
  subst hsz
  have hD := hD0.self (sz := s.heap.size)
  generalize hAe : va_A [(o, .inr (1, [.ref o_present, .int oS_count, .ref o_told, .ref o_memories, .ref o_marks, .ref o_pictures])), (o_present, .inr (3, [.ref o_present_board, .int oS_present.2.1, .int oS_present.2.2.1, .int oS_present.2.2.2.1, .int oS_present.2.2.2.2.1, .int oS_present.2.2.2.2.2])), (o_present_board, .inr (0, [.ref o_present_board_men, .ref o_present_board_sets])), (o_present_board_men, .inl (cI, 64, .inl oS_present.1.1)), (o_present_board_sets, .inl (cJ, 16, .inr (.inl oS_present.1.2))), (o_told, .inl (cI, 400, .inl oS_told)), (o_memories, .inl (cI, 400, .inl oS_memories)), (o_marks, .inl (cI, 401, .inl oS_marks)), (o_pictures, .inl (cJ, 1604, .inr (.inl oS_pictures))), (x, .inr (3, [.ref x_board, .int xS_side, .int xS_rights, .int xS_passed, .int xS_clock, .int xS_number])), (x_board, .inr (0, [.ref x_board_men, .ref x_board_sets])), (x_board_men, .inl (cI, 64, .inl xS_board.1)), (x_board_sets, .inl (cJ, 16, .inr (.inl xS_board.2)))] s.heap.size = A at hD hG ⊢
  have hA : ∀ q : Nat, s.heap.size ≤ q → A q := fun q h => by rw [← hAe]; exact Or.inr h
  have hS : va_S A s.heap s.heap [] := va_S.rf
  have hP : va_P (dC, dI) vwCl [(o, .inr (1, [.ref o_present, .int oS_count, .ref o_told, .ref o_memories, .ref o_marks, .ref o_pictures])), (o_present, .inr (3, [.ref o_present_board, .int oS_present.2.1, .int oS_present.2.2.1, .int oS_present.2.2.2.1, .int oS_present.2.2.2.2.1, .int oS_present.2.2.2.2.2])), (o_present_board, .inr (0, [.ref o_present_board_men, .ref o_present_board_sets])), (o_present_board_men, .inl (cI, 64, .inl oS_present.1.1)), (o_present_board_sets, .inl (cJ, 16, .inr (.inl oS_present.1.2))), (o_told, .inl (cI, 400, .inl oS_told)), (o_memories, .inl (cI, 400, .inl oS_memories)), (o_marks, .inl (cI, 401, .inl oS_marks)), (o_pictures, .inl (cJ, 1604, .inr (.inl oS_pictures))), (x, .inr (3, [.ref x_board, .int xS_side, .int xS_rights, .int xS_passed, .int xS_clock, .int xS_number])), (x_board, .inr (0, [.ref x_board_men, .ref x_board_sets])), (x_board_men, .inl (cI, 64, .inl xS_board.1)), (x_board_sets, .inl (cJ, 16, .inr (.inl xS_board.2)))] s.heap := hP
  have hl := lv_entry ([.ref o, .ref x]) (n := 2) (Nat.le_of_ble_eq_true rfl)
  rw [lg_entry_eq]
  generalize (lg_sl ([.ref o, .ref x]) ++ List.replicate (2 - (lg_sl ([.ref o, .ref x])).length) Slot.unset).toArray = ls at hl ⊢
  have hl : lv_has ls 2 [(0, .ref o), (1, .ref x)] := hl
  refine lv_aload_n hx hb dGa_begin_0 rfl (lv_at hl 0 rfl) ?_
  refine va_get (D := (dC, dI)) (ci := 1) (v := .ref o_present) (C := RGa) (T := TGa) (N := 6) hx hb hB inGa hown hK hP 0 rfl rfl 0 (by decide) (hB _ q1_142) (fun _ h9 => h9) rfl dGa_begin_1 ?_
  refine lv_aload_n hx hb dGa_begin_4 rfl (lv_at hl 1 rfl) ?_
  obtain ⟨R_5, hR_5⟩ : ∃ R9, R9 = f_Po_copy oS_present.1 oS_present.2.1 oS_present.2.2.1 oS_present.2.2.2.1 oS_present.2.2.2.2.1 oS_present.2.2.2.2.2 xS_board xS_side xS_rights xS_passed xS_clock xS_number := ⟨_, rfl⟩
  have hM_5 := (c_Po_copy l dC dI cI cJ cC ad o_present o_present_board o_present_board_men o_present_board_sets x x_board x_board_men x_board_sets s.heap.size oS_present.1 oS_present.2.1 oS_present.2.2.1 oS_present.2.2.2.1 oS_present.2.2.2.2.1 oS_present.2.2.2.2.2 xS_board xS_side xS_rights xS_passed xS_clock xS_number)
  rw [← hR_5] at hM_5
  refine rw_gov (wr := [(o, .inr (1, [.ref o_present, .int oS_count, .ref o_told, .ref o_memories, .ref o_marks, .ref o_pictures])), (o_told, .inl (cI, 400, .inl oS_told)), (o_memories, .inl (cI, 400, .inl oS_memories)), (o_marks, .inl (cI, 401, .inl oS_marks)), (o_pictures, .inl (cJ, 1604, .inr (.inl oS_pictures)))]) (va_runVN (C := "ChessRules$Position") (As := [.ref x]) (rest := []) ⟨hx, hb, hml, hown, hB⟩ hM_5 ⟨va_cnB 1 hB (big_self q2_205) rfl rfl rfl (hG.1 _ q2_202) (hB _ q1_4) (by decide +kernel) ⟨Nat.le_of_ble_eq_true rfl, Nat.le_of_ble_eq_true rfl⟩, (hB _ q2_204), (hB _ qs2_14)⟩ (rw_preV (GS_ok ad) hK hP hD hA hG hS [1, 2, 3, 4, 9, 10, 11, 12] (by decide) rfl rfl (va_recv hK hP (ci := 3) (q0 := 1) rfl rfl)) rfl rfl hl.1 rfl (lv_room (Nat.le_of_ble_eq_true rfl)) dGa_begin_5 ⟨Nat.le_of_ble_eq_true rfl, Nat.le_of_ble_eq_true rfl⟩) hP hD hS hA [1, 2, 3, 4, 9, 10, 11, 12] [0, 5, 6, 7, 8] rfl rfl (by decide) (by decide) (fun H locs hP hD hS => ?_)
  have hP : va_P (dC, dI) vwCl [(o, .inr (1, [.ref o_present, .int oS_count, .ref o_told, .ref o_memories, .ref o_marks, .ref o_pictures])), (o_told, .inl (cI, 400, .inl oS_told)), (o_memories, .inl (cI, 400, .inl oS_memories)), (o_marks, .inl (cI, 401, .inl oS_marks)), (o_pictures, .inl (cJ, 1604, .inr (.inl oS_pictures))), (o_present, .inr (3, [.ref o_present_board, .int R_5.2.1, .int R_5.2.2.1, .int R_5.2.2.2.1, .int R_5.2.2.2.2.1, .int R_5.2.2.2.2.2])), (o_present_board, .inr (0, [.ref o_present_board_men, .ref o_present_board_sets])), (o_present_board_men, .inl (cI, 64, .inl R_5.1.1)), (o_present_board_sets, .inl (cJ, 16, .inr (.inl R_5.1.2))), (x, .inr (3, [.ref x_board, .int xS_side, .int xS_rights, .int xS_passed, .int xS_clock, .int xS_number])), (x_board, .inr (0, [.ref x_board_men, .ref x_board_sets])), (x_board_men, .inl (cI, 64, .inl xS_board.1)), (x_board_sets, .inl (cJ, 16, .inr (.inl xS_board.2)))] H := hP
  have hD : va_D A [(o, .inr (1, [.ref o_present, .int oS_count, .ref o_told, .ref o_memories, .ref o_marks, .ref o_pictures])), (o_told, .inl (cI, 400, .inl oS_told)), (o_memories, .inl (cI, 400, .inl oS_memories)), (o_marks, .inl (cI, 401, .inl oS_marks)), (o_pictures, .inl (cJ, 1604, .inr (.inl oS_pictures))), (o_present, .inr (3, [.ref o_present_board, .int R_5.2.1, .int R_5.2.2.1, .int R_5.2.2.2.1, .int R_5.2.2.2.2.1, .int R_5.2.2.2.2.2])), (o_present_board, .inr (0, [.ref o_present_board_men, .ref o_present_board_sets])), (o_present_board_men, .inl (cI, 64, .inl R_5.1.1)), (o_present_board_sets, .inl (cJ, 16, .inr (.inl R_5.1.2))), (x, .inr (3, [.ref x_board, .int xS_side, .int xS_rights, .int xS_passed, .int xS_clock, .int xS_number])), (x_board, .inr (0, [.ref x_board_men, .ref x_board_sets])), (x_board_men, .inl (cI, 64, .inl xS_board.1)), (x_board_sets, .inl (cJ, 16, .inr (.inl xS_board.2)))] := hD
  have he_r5 : f_Ga_begin oS_present oS_marks oS_pictures xS_board xS_side xS_rights xS_passed xS_clock xS_number = f_Ga_begin_r5 oS_present oS_marks oS_pictures xS_board xS_side xS_rights xS_passed xS_clock xS_number R_5 := (by rw [f_Ga_begin_eq, ← hR_5] <;> rfl)
  refine lv_aload_n hx hb dGa_begin_8 rfl (lv_at hl 0 rfl) ?_
  refine lv_iconst (v := 0) hx hb dGa_begin_9 (by decide) ?_
  refine va_put (D := (dC, dI)) (ci := 1) (v := .int 0) (ty := .int) (C := RGa) (T := TGa) (N := 6) hx hb hB inGa tyGa tyGa_ok nmGa hown hK hP hD hS 0 rfl rfl 1 (by decide) (hB _ q1_144) (fun _ h9 => h9) rfl (by decide +kernel) rfl rfl (Nat.le_of_ble_eq_true rfl) dGa_begin_10 (fun H locs hP hD hS => ?_)
  have hP : va_P (dC, dI) vwCl [(o, .inr (1, [.ref o_present, .int 0, .ref o_told, .ref o_memories, .ref o_marks, .ref o_pictures])), (o_told, .inl (cI, 400, .inl oS_told)), (o_memories, .inl (cI, 400, .inl oS_memories)), (o_marks, .inl (cI, 401, .inl oS_marks)), (o_pictures, .inl (cJ, 1604, .inr (.inl oS_pictures))), (o_present, .inr (3, [.ref o_present_board, .int R_5.2.1, .int R_5.2.2.1, .int R_5.2.2.2.1, .int R_5.2.2.2.2.1, .int R_5.2.2.2.2.2])), (o_present_board, .inr (0, [.ref o_present_board_men, .ref o_present_board_sets])), (o_present_board_men, .inl (cI, 64, .inl R_5.1.1)), (o_present_board_sets, .inl (cJ, 16, .inr (.inl R_5.1.2))), (x, .inr (3, [.ref x_board, .int xS_side, .int xS_rights, .int xS_passed, .int xS_clock, .int xS_number])), (x_board, .inr (0, [.ref x_board_men, .ref x_board_sets])), (x_board_men, .inl (cI, 64, .inl xS_board.1)), (x_board_sets, .inl (cJ, 16, .inr (.inl xS_board.2)))] H := hP
  have hD : va_D A [(o, .inr (1, [.ref o_present, .int 0, .ref o_told, .ref o_memories, .ref o_marks, .ref o_pictures])), (o_told, .inl (cI, 400, .inl oS_told)), (o_memories, .inl (cI, 400, .inl oS_memories)), (o_marks, .inl (cI, 401, .inl oS_marks)), (o_pictures, .inl (cJ, 1604, .inr (.inl oS_pictures))), (o_present, .inr (3, [.ref o_present_board, .int R_5.2.1, .int R_5.2.2.1, .int R_5.2.2.2.1, .int R_5.2.2.2.2.1, .int R_5.2.2.2.2.2])), (o_present_board, .inr (0, [.ref o_present_board_men, .ref o_present_board_sets])), (o_present_board_men, .inl (cI, 64, .inl R_5.1.1)), (o_present_board_sets, .inl (cJ, 16, .inr (.inl R_5.1.2))), (x, .inr (3, [.ref x_board, .int xS_side, .int xS_rights, .int xS_passed, .int xS_clock, .int xS_number])), (x_board, .inr (0, [.ref x_board_men, .ref x_board_sets])), (x_board_men, .inl (cI, 64, .inl xS_board.1)), (x_board_sets, .inl (cJ, 16, .inr (.inl xS_board.2)))] := hD
  refine lv_aload_n hx hb dGa_begin_13 rfl (lv_at hl 0 rfl) ?_
  obtain ⟨R_14, hR_14⟩ : ∃ R9, R9 = f_Ga_keepPicture R_5 0 oS_marks oS_pictures := ⟨_, rfl⟩
  have hM_14 := (c_Ga_keepPicture l dC dI cI cJ cC ad o o_present o_present_board o_present_board_men o_present_board_sets o_told o_memories o_marks o_pictures H.size R_5 0 oS_told oS_memories oS_marks oS_pictures)
  rw [← hR_14] at hM_14
  refine rw_gov (wr := [(x, .inr (3, [.ref x_board, .int xS_side, .int xS_rights, .int xS_passed, .int xS_clock, .int xS_number])), (x_board, .inr (0, [.ref x_board_men, .ref x_board_sets])), (x_board_men, .inl (cI, 64, .inl xS_board.1)), (x_board_sets, .inl (cJ, 16, .inr (.inl xS_board.2)))]) (va_runV (C := "ChessRules$Game") (As := []) (rest := []) ⟨hx, hb, hml, hown, hB⟩ hM_14 ⟨callB_of 0 hB (big_self q2_210) rfl rfl rfl (hB _ q1_6) (hB _ q2_207) (by decide +kernel) ⟨Nat.le_of_ble_eq_true rfl, Nat.le_of_ble_eq_true rfl⟩, (hB _ q2_209), (hB _ qs2_15)⟩ (rw_preV (GS_ok ad) hK hP hD hA hG hS [0, 5, 6, 7, 8, 1, 2, 3, 4] (by decide) rfl rfl (va_recv hK hP (ci := 1) (q0 := 0) rfl rfl)) rfl rfl hl.1 rfl (lv_room (Nat.le_of_ble_eq_true rfl)) dGa_begin_14 ⟨Nat.le_of_ble_eq_true rfl, Nat.le_of_ble_eq_true rfl⟩) hP hD hS hA [0, 5, 6, 7, 8, 1, 2, 3, 4] [9, 10, 11, 12] rfl rfl (by decide) (by decide) (fun H locs hP hD hS => ?_)
  have hP : va_P (dC, dI) vwCl [(x, .inr (3, [.ref x_board, .int xS_side, .int xS_rights, .int xS_passed, .int xS_clock, .int xS_number])), (x_board, .inr (0, [.ref x_board_men, .ref x_board_sets])), (x_board_men, .inl (cI, 64, .inl xS_board.1)), (x_board_sets, .inl (cJ, 16, .inr (.inl xS_board.2))), (o, .inr (1, [.ref o_present, .int 0, .ref o_told, .ref o_memories, .ref o_marks, .ref o_pictures])), (o_present, .inr (3, [.ref o_present_board, .int R_5.2.1, .int R_5.2.2.1, .int R_5.2.2.2.1, .int R_5.2.2.2.2.1, .int R_5.2.2.2.2.2])), (o_present_board, .inr (0, [.ref o_present_board_men, .ref o_present_board_sets])), (o_present_board_men, .inl (cI, 64, .inl R_5.1.1)), (o_present_board_sets, .inl (cJ, 16, .inr (.inl R_5.1.2))), (o_told, .inl (cI, 400, .inl oS_told)), (o_memories, .inl (cI, 400, .inl oS_memories)), (o_marks, .inl (cI, 401, .inl R_14.1)), (o_pictures, .inl (cJ, 1604, .inr (.inl R_14.2)))] H := hP
  have hD : va_D A [(x, .inr (3, [.ref x_board, .int xS_side, .int xS_rights, .int xS_passed, .int xS_clock, .int xS_number])), (x_board, .inr (0, [.ref x_board_men, .ref x_board_sets])), (x_board_men, .inl (cI, 64, .inl xS_board.1)), (x_board_sets, .inl (cJ, 16, .inr (.inl xS_board.2))), (o, .inr (1, [.ref o_present, .int 0, .ref o_told, .ref o_memories, .ref o_marks, .ref o_pictures])), (o_present, .inr (3, [.ref o_present_board, .int R_5.2.1, .int R_5.2.2.1, .int R_5.2.2.2.1, .int R_5.2.2.2.2.1, .int R_5.2.2.2.2.2])), (o_present_board, .inr (0, [.ref o_present_board_men, .ref o_present_board_sets])), (o_present_board_men, .inl (cI, 64, .inl R_5.1.1)), (o_present_board_sets, .inl (cJ, 16, .inr (.inl R_5.1.2))), (o_told, .inl (cI, 400, .inl oS_told)), (o_memories, .inl (cI, 400, .inl oS_memories)), (o_marks, .inl (cI, 401, .inl R_14.1)), (o_pictures, .inl (cJ, 1604, .inr (.inl R_14.2)))] := hD
  have he_r14 : f_Ga_begin oS_present oS_marks oS_pictures xS_board xS_side xS_rights xS_passed xS_clock xS_number = f_Ga_begin_r14 oS_present oS_marks oS_pictures xS_board xS_side xS_rights xS_passed xS_clock xS_number R_5 R_14 := (he_r5.trans (by rw [f_Ga_begin_r5_eq, ← hR_14] <;> rfl))
  have hv : f_Ga_begin oS_present oS_marks oS_pictures xS_board xS_side xS_rights xS_passed xS_clock xS_number = (R_5, 0, R_14.1, R_14.2) := (he_r14.trans (by rw [f_Ga_begin_r14_eq] <;> rfl))
  have hP9 : va_P (dC, dI) vwCl [(o, .inr (1, [.ref o_present, .int ((f_Ga_begin oS_present oS_marks oS_pictures xS_board xS_side xS_rights xS_passed xS_clock xS_number).2.1), .ref o_told, .ref o_memories, .ref o_marks, .ref o_pictures])), (o_present, .inr (3, [.ref o_present_board, .int (((f_Ga_begin oS_present oS_marks oS_pictures xS_board xS_side xS_rights xS_passed xS_clock xS_number).1).2.1), .int (((f_Ga_begin oS_present oS_marks oS_pictures xS_board xS_side xS_rights xS_passed xS_clock xS_number).1).2.2.1), .int (((f_Ga_begin oS_present oS_marks oS_pictures xS_board xS_side xS_rights xS_passed xS_clock xS_number).1).2.2.2.1), .int (((f_Ga_begin oS_present oS_marks oS_pictures xS_board xS_side xS_rights xS_passed xS_clock xS_number).1).2.2.2.2.1), .int (((f_Ga_begin oS_present oS_marks oS_pictures xS_board xS_side xS_rights xS_passed xS_clock xS_number).1).2.2.2.2.2)])), (o_present_board, .inr (0, [.ref o_present_board_men, .ref o_present_board_sets])), (o_present_board_men, .inl (cI, 64, .inl ((((f_Ga_begin oS_present oS_marks oS_pictures xS_board xS_side xS_rights xS_passed xS_clock xS_number).1).1).1))), (o_present_board_sets, .inl (cJ, 16, .inr (.inl ((((f_Ga_begin oS_present oS_marks oS_pictures xS_board xS_side xS_rights xS_passed xS_clock xS_number).1).1).2)))), (o_told, .inl (cI, 400, .inl oS_told)), (o_memories, .inl (cI, 400, .inl oS_memories)), (o_marks, .inl (cI, 401, .inl ((f_Ga_begin oS_present oS_marks oS_pictures xS_board xS_side xS_rights xS_passed xS_clock xS_number).2.2.1))), (o_pictures, .inl (cJ, 1604, .inr (.inl ((f_Ga_begin oS_present oS_marks oS_pictures xS_board xS_side xS_rights xS_passed xS_clock xS_number).2.2.2)))), (x, .inr (3, [.ref x_board, .int xS_side, .int xS_rights, .int xS_passed, .int xS_clock, .int xS_number])), (x_board, .inr (0, [.ref x_board_men, .ref x_board_sets])), (x_board_men, .inl (cI, 64, .inl xS_board.1)), (x_board_sets, .inl (cJ, 16, .inr (.inl xS_board.2)))] H := by first | (rw [hv]; exact hP.sub [4, 5, 6, 7, 8, 9, 10, 11, 12, 0, 1, 2, 3] rfl) | exact hP.sub [4, 5, 6, 7, 8, 9, 10, 11, 12, 0, 1, 2, 3] rfl
  have hD9 : va_D A [(o, .inr (1, [.ref o_present, .int ((f_Ga_begin oS_present oS_marks oS_pictures xS_board xS_side xS_rights xS_passed xS_clock xS_number).2.1), .ref o_told, .ref o_memories, .ref o_marks, .ref o_pictures])), (o_present, .inr (3, [.ref o_present_board, .int (((f_Ga_begin oS_present oS_marks oS_pictures xS_board xS_side xS_rights xS_passed xS_clock xS_number).1).2.1), .int (((f_Ga_begin oS_present oS_marks oS_pictures xS_board xS_side xS_rights xS_passed xS_clock xS_number).1).2.2.1), .int (((f_Ga_begin oS_present oS_marks oS_pictures xS_board xS_side xS_rights xS_passed xS_clock xS_number).1).2.2.2.1), .int (((f_Ga_begin oS_present oS_marks oS_pictures xS_board xS_side xS_rights xS_passed xS_clock xS_number).1).2.2.2.2.1), .int (((f_Ga_begin oS_present oS_marks oS_pictures xS_board xS_side xS_rights xS_passed xS_clock xS_number).1).2.2.2.2.2)])), (o_present_board, .inr (0, [.ref o_present_board_men, .ref o_present_board_sets])), (o_present_board_men, .inl (cI, 64, .inl ((((f_Ga_begin oS_present oS_marks oS_pictures xS_board xS_side xS_rights xS_passed xS_clock xS_number).1).1).1))), (o_present_board_sets, .inl (cJ, 16, .inr (.inl ((((f_Ga_begin oS_present oS_marks oS_pictures xS_board xS_side xS_rights xS_passed xS_clock xS_number).1).1).2)))), (o_told, .inl (cI, 400, .inl oS_told)), (o_memories, .inl (cI, 400, .inl oS_memories)), (o_marks, .inl (cI, 401, .inl ((f_Ga_begin oS_present oS_marks oS_pictures xS_board xS_side xS_rights xS_passed xS_clock xS_number).2.2.1))), (o_pictures, .inl (cJ, 1604, .inr (.inl ((f_Ga_begin oS_present oS_marks oS_pictures xS_board xS_side xS_rights xS_passed xS_clock xS_number).2.2.2)))), (x, .inr (3, [.ref x_board, .int xS_side, .int xS_rights, .int xS_passed, .int xS_clock, .int xS_number])), (x_board, .inr (0, [.ref x_board_men, .ref x_board_sets])), (x_board_men, .inl (cI, 64, .inl xS_board.1)), (x_board_sets, .inl (cJ, 16, .inr (.inl xS_board.2)))] := by first | (rw [hv]; exact hD.sub [4, 5, 6, 7, 8, 9, 10, 11, 12, 0, 1, 2, 3] (by decide) rfl) | exact hD.sub [4, 5, 6, 7, 8, 9, 10, 11, 12, 0, 1, 2, 3] (by decide) rfl
  exact rw_retv hx hb hr hlocks hK hP9 hD9 hS dGa_begin_17

abbrev cGa_advance : ByteArray := prog_3_method_3_code
def yGa_advance : MethodName := ⟨"ChessRules$Game", "advance", "(I)V"⟩
def wsGa_advance : List Cond := Cond.code yGa_advance cGa_advance 2 none :: BIG
theorem dGa_advance_0 : decode cGa_advance 0 = .ok (.aload_n 0, 1) := by decide +kernel
theorem dGa_advance_1 : decode cGa_advance 1 = .ok (.getfield 18, 3) := by decide +kernel
theorem dGa_advance_4 : decode cGa_advance 4 = .ok (.ifCond .lt 54, 3) := by decide +kernel
theorem dGa_advance_7 : decode cGa_advance 7 = .ok (.aload_n 0, 1) := by decide +kernel
theorem dGa_advance_8 : decode cGa_advance 8 = .ok (.getfield 18, 3) := by decide +kernel
theorem dGa_advance_11 : decode cGa_advance 11 = .ok (.sipush 400, 3) := by decide +kernel
theorem dGa_advance_14 : decode cGa_advance 14 = .ok (.if_icmp .ge 44, 3) := by decide +kernel
theorem dGa_advance_17 : decode cGa_advance 17 = .ok (.aload_n 0, 1) := by decide +kernel
theorem dGa_advance_18 : decode cGa_advance 18 = .ok (.getfield 22, 3) := by decide +kernel
theorem dGa_advance_21 : decode cGa_advance 21 = .ok (.aload_n 0, 1) := by decide +kernel
theorem dGa_advance_22 : decode cGa_advance 22 = .ok (.getfield 18, 3) := by decide +kernel
theorem dGa_advance_25 : decode cGa_advance 25 = .ok (.iload_n 1, 1) := by decide +kernel
theorem dGa_advance_26 : decode cGa_advance 26 = .ok (.iastore, 1) := by decide +kernel
theorem dGa_advance_27 : decode cGa_advance 27 = .ok (.aload_n 0, 1) := by decide +kernel
theorem dGa_advance_28 : decode cGa_advance 28 = .ok (.getfield 26, 3) := by decide +kernel
theorem dGa_advance_31 : decode cGa_advance 31 = .ok (.aload_n 0, 1) := by decide +kernel
theorem dGa_advance_32 : decode cGa_advance 32 = .ok (.getfield 18, 3) := by decide +kernel
theorem dGa_advance_35 : decode cGa_advance 35 = .ok (.aload_n 0, 1) := by decide +kernel
theorem dGa_advance_36 : decode cGa_advance 36 = .ok (.getfield 12, 3) := by decide +kernel
theorem dGa_advance_39 : decode cGa_advance 39 = .ok (.iload_n 1, 1) := by decide +kernel
theorem dGa_advance_40 : decode cGa_advance 40 = .ok (.invokevirtual 43, 3) := by decide +kernel
theorem dGa_advance_43 : decode cGa_advance 43 = .ok (.iastore, 1) := by decide +kernel
theorem dGa_advance_44 : decode cGa_advance 44 = .ok (.aload_n 0, 1) := by decide +kernel
theorem dGa_advance_45 : decode cGa_advance 45 = .ok (.dup, 1) := by decide +kernel
theorem dGa_advance_46 : decode cGa_advance 46 = .ok (.getfield 18, 3) := by decide +kernel
theorem dGa_advance_49 : decode cGa_advance 49 = .ok (.iconst 1, 1) := by decide +kernel
theorem dGa_advance_50 : decode cGa_advance 50 = .ok (.iadd, 1) := by decide +kernel
theorem dGa_advance_51 : decode cGa_advance 51 = .ok (.putfield 18, 3) := by decide +kernel
theorem dGa_advance_54 : decode cGa_advance 54 = .ok (.aload_n 0, 1) := by decide +kernel
theorem dGa_advance_55 : decode cGa_advance 55 = .ok (.invokevirtual 40, 3) := by decide +kernel
theorem dGa_advance_58 : decode cGa_advance 58 = .ok (.return_, 1) := by decide +kernel

def f_Ga_advance_r55 (oS_present : St_Po) (oS_count : Int32) (oS_told : Nat → Int32) (oS_memories : Nat → Int32) (oS_marks : Nat → Int32) (oS_pictures : Nat → Int64) (move : Int32) (R_40 : (Int32 × St_Bo × Int32 × Int32 × Int32 × Int32 × Int32)) (R_55 : ((Nat → Int32) × (Nat → Int64))) : St_Po × Int32 × (Nat → Int32) × (Nat → Int32) × (Nat → Int32) × (Nat → Int64) :=
  (R_40.2, oS_count + 1, upd oS_told oS_count.toNatClampNeg move, upd oS_memories oS_count.toNatClampNeg R_40.1, R_55.1, R_55.2)
theorem f_Ga_advance_r55_eq (oS_present : St_Po) (oS_count : Int32) (oS_told : Nat → Int32) (oS_memories : Nat → Int32) (oS_marks : Nat → Int32) (oS_pictures : Nat → Int64) (move : Int32) (R_40 : (Int32 × St_Bo × Int32 × Int32 × Int32 × Int32 × Int32)) (R_55 : ((Nat → Int32) × (Nat → Int64))) : f_Ga_advance_r55 oS_present oS_count oS_told oS_memories oS_marks oS_pictures move R_40 R_55 =
  (R_40.2, oS_count + 1, upd oS_told oS_count.toNatClampNeg move, upd oS_memories oS_count.toNatClampNeg R_40.1, R_55.1, R_55.2) := rfl

def f_Ga_advance_r40 (oS_present : St_Po) (oS_count : Int32) (oS_told : Nat → Int32) (oS_memories : Nat → Int32) (oS_marks : Nat → Int32) (oS_pictures : Nat → Int64) (move : Int32) (R_40 : (Int32 × St_Bo × Int32 × Int32 × Int32 × Int32 × Int32)) : St_Po × Int32 × (Nat → Int32) × (Nat → Int32) × (Nat → Int32) × (Nat → Int64) :=
  f_Ga_advance_r55 oS_present oS_count oS_told oS_memories oS_marks oS_pictures move R_40 (f_Ga_keepPicture R_40.2 (oS_count + 1) oS_marks oS_pictures)
theorem f_Ga_advance_r40_eq (oS_present : St_Po) (oS_count : Int32) (oS_told : Nat → Int32) (oS_memories : Nat → Int32) (oS_marks : Nat → Int32) (oS_pictures : Nat → Int64) (move : Int32) (R_40 : (Int32 × St_Bo × Int32 × Int32 × Int32 × Int32 × Int32)) : f_Ga_advance_r40 oS_present oS_count oS_told oS_memories oS_marks oS_pictures move R_40 =
  f_Ga_advance_r55 oS_present oS_count oS_told oS_memories oS_marks oS_pictures move R_40 (f_Ga_keepPicture R_40.2 (oS_count + 1) oS_marks oS_pictures) := rfl

def f_Ga_advance (oS_present : St_Po) (oS_count : Int32) (oS_told : Nat → Int32) (oS_memories : Nat → Int32) (oS_marks : Nat → Int32) (oS_pictures : Nat → Int64) (move : Int32) : St_Po × Int32 × (Nat → Int32) × (Nat → Int32) × (Nat → Int32) × (Nat → Int64) :=
  (if oS_count < 0 then (oS_present, oS_count, oS_told, oS_memories, oS_marks, oS_pictures) else (if 400 ≤ oS_count then (oS_present, oS_count, oS_told, oS_memories, oS_marks, oS_pictures) else f_Ga_advance_r40 oS_present oS_count oS_told oS_memories oS_marks oS_pictures move (f_Po_make oS_present.1 oS_present.2.1 oS_present.2.2.1 oS_present.2.2.2.1 oS_present.2.2.2.2.1 oS_present.2.2.2.2.2 move)))
theorem f_Ga_advance_eq (oS_present : St_Po) (oS_count : Int32) (oS_told : Nat → Int32) (oS_memories : Nat → Int32) (oS_marks : Nat → Int32) (oS_pictures : Nat → Int64) (move : Int32) : f_Ga_advance oS_present oS_count oS_told oS_memories oS_marks oS_pictures move =
  (if oS_count < 0 then (oS_present, oS_count, oS_told, oS_memories, oS_marks, oS_pictures) else (if 400 ≤ oS_count then (oS_present, oS_count, oS_told, oS_memories, oS_marks, oS_pictures) else f_Ga_advance_r40 oS_present oS_count oS_told oS_memories oS_marks oS_pictures move (f_Po_make oS_present.1 oS_present.2.1 oS_present.2.2.1 oS_present.2.2.2.1 oS_present.2.2.2.2.1 oS_present.2.2.2.2.2 move))) := rfl

set_option maxHeartbeats 4000000 in
set_option maxRecDepth 100000 in
theorem c_Ga_advance (l : Launch) (dC : Nat → ClassId) (dI : Nat → Nat → Nat) (cI cJ cC : ClassId) (ad : Nat → Nat) (o o_present o_present_board o_present_board_men o_present_board_sets o_told o_memories o_marks o_pictures : Nat) (sz : Nat) (oS_present : St_Po) (oS_count : Int32) (oS_told : Nat → Int32) (oS_memories : Nat → Int32) (oS_marks : Nat → Int32) (oS_pictures : Nat → Int64) (move : Int32) : Met l yGa_advance wsGa_advance { frames := 5, cells := 0, slots := 0, locals := 137 } (rwP dC dI (TYS cI cJ cC) [.ref o, .int move] [(o, .inr (1, [.ref o_present, .int oS_count, .ref o_told, .ref o_memories, .ref o_marks, .ref o_pictures])), (o_present, .inr (3, [.ref o_present_board, .int oS_present.2.1, .int oS_present.2.2.1, .int oS_present.2.2.2.1, .int oS_present.2.2.2.2.1, .int oS_present.2.2.2.2.2])), (o_present_board, .inr (0, [.ref o_present_board_men, .ref o_present_board_sets])), (o_present_board_men, .inl (cI, 64, .inl oS_present.1.1)), (o_present_board_sets, .inl (cJ, 16, .inr (.inl oS_present.1.2))), (o_told, .inl (cI, 400, .inl oS_told)), (o_memories, .inl (cI, 400, .inl oS_memories)), (o_marks, .inl (cI, 401, .inl oS_marks)), (o_pictures, .inl (cJ, 1604, .inr (.inl oS_pictures)))] sz (GS ad)) (va_Qv (fun _ : Unit => True) (rwB dC dI (TYS cI cJ cC) [(o, .inr (1, [.ref o_present, .int ((f_Ga_advance oS_present oS_count oS_told oS_memories oS_marks oS_pictures move).2.1), .ref o_told, .ref o_memories, .ref o_marks, .ref o_pictures])), (o_present, .inr (3, [.ref o_present_board, .int (((f_Ga_advance oS_present oS_count oS_told oS_memories oS_marks oS_pictures move).1).2.1), .int (((f_Ga_advance oS_present oS_count oS_told oS_memories oS_marks oS_pictures move).1).2.2.1), .int (((f_Ga_advance oS_present oS_count oS_told oS_memories oS_marks oS_pictures move).1).2.2.2.1), .int (((f_Ga_advance oS_present oS_count oS_told oS_memories oS_marks oS_pictures move).1).2.2.2.2.1), .int (((f_Ga_advance oS_present oS_count oS_told oS_memories oS_marks oS_pictures move).1).2.2.2.2.2)])), (o_present_board, .inr (0, [.ref o_present_board_men, .ref o_present_board_sets])), (o_present_board_men, .inl (cI, 64, .inl ((((f_Ga_advance oS_present oS_count oS_told oS_memories oS_marks oS_pictures move).1).1).1))), (o_present_board_sets, .inl (cJ, 16, .inr (.inl ((((f_Ga_advance oS_present oS_count oS_told oS_memories oS_marks oS_pictures move).1).1).2)))), (o_told, .inl (cI, 400, .inl ((f_Ga_advance oS_present oS_count oS_told oS_memories oS_marks oS_pictures move).2.2.1))), (o_memories, .inl (cI, 400, .inl ((f_Ga_advance oS_present oS_count oS_told oS_memories oS_marks oS_pictures move).2.2.2.1))), (o_marks, .inl (cI, 401, .inl ((f_Ga_advance oS_present oS_count oS_told oS_memories oS_marks oS_pictures move).2.2.2.2.1))), (o_pictures, .inl (cJ, 1604, .inr (.inl ((f_Ga_advance oS_present oS_count oS_told oS_memories oS_marks oS_pictures move).2.2.2.2.2))))] (va_A [(o, .inr (1, [.ref o_present, .int oS_count, .ref o_told, .ref o_memories, .ref o_marks, .ref o_pictures])), (o_present, .inr (3, [.ref o_present_board, .int oS_present.2.1, .int oS_present.2.2.1, .int oS_present.2.2.2.1, .int oS_present.2.2.2.2.1, .int oS_present.2.2.2.2.2])), (o_present_board, .inr (0, [.ref o_present_board_men, .ref o_present_board_sets])), (o_present_board_men, .inl (cI, 64, .inl oS_present.1.1)), (o_present_board_sets, .inl (cJ, 16, .inr (.inl oS_present.1.2))), (o_told, .inl (cI, 400, .inl oS_told)), (o_memories, .inl (cI, 400, .inl oS_memories)), (o_marks, .inl (cI, 401, .inl oS_marks)), (o_pictures, .inl (cJ, 1604, .inr (.inl oS_pictures)))] sz)) (va_A [(o, .inr (1, [.ref o_present, .int oS_count, .ref o_told, .ref o_memories, .ref o_marks, .ref o_pictures])), (o_present, .inr (3, [.ref o_present_board, .int oS_present.2.1, .int oS_present.2.2.1, .int oS_present.2.2.2.1, .int oS_present.2.2.2.2.1, .int oS_present.2.2.2.2.2])), (o_present_board, .inr (0, [.ref o_present_board_men, .ref o_present_board_sets])), (o_present_board_men, .inl (cI, 64, .inl oS_present.1.1)), (o_present_board_sets, .inl (cJ, 16, .inr (.inl oS_present.1.2))), (o_told, .inl (cI, 400, .inl oS_told)), (o_memories, .inl (cI, 400, .inl oS_memories)), (o_marks, .inl (cI, 401, .inl oS_marks)), (o_pictures, .inl (cJ, 1604, .inr (.inl oS_pictures)))] sz)) 0 0 (va_A [(o, .inr (1, [.ref o_present, .int oS_count, .ref o_told, .ref o_memories, .ref o_marks, .ref o_pictures])), (o_present, .inr (3, [.ref o_present_board, .int oS_present.2.1, .int oS_present.2.2.1, .int oS_present.2.2.2.1, .int oS_present.2.2.2.2.1, .int oS_present.2.2.2.2.2])), (o_present_board, .inr (0, [.ref o_present_board_men, .ref o_present_board_sets])), (o_present_board_men, .inl (cI, 64, .inl oS_present.1.1)), (o_present_board_sets, .inl (cJ, 16, .inr (.inl oS_present.1.2))), (o_told, .inl (cI, 400, .inl oS_told)), (o_memories, .inl (cI, 400, .inl oS_memories)), (o_marks, .inl (cI, 401, .inl oS_marks)), (o_pictures, .inl (cJ, 1604, .inr (.inl oS_pictures)))] sz) := by
  refine Met.ofW (cc := cGa_advance) (maxL := 2) (ret := none) (by decide) rfl ?_
  intro p e s m args below meth c s₁ B hml hv
  obtain ⟨rfl, hsz, hP, hK, hD0, hG⟩ := hv
  have hx := B.exec
  have hb := B.bytes
  have hr := B.returns
  have hB : ∀ w9 ∈ BIG, w9.before ([.ref o, .int move]).toArray s = true := fun w9 h => atoms_spec (ws := wsGa_advance) B.pre w9 (List.mem_cons_of_mem _ h)
  have hown : s.vm.findClass "ChessRules$Game" = some m.cls := findClass_of_methodNamed B.named
  have hlocks := B.notSynchronized
  subst hsz
  have hD := hD0.self (sz := s.heap.size)
  generalize hAe : va_A [(o, .inr (1, [.ref o_present, .int oS_count, .ref o_told, .ref o_memories, .ref o_marks, .ref o_pictures])), (o_present, .inr (3, [.ref o_present_board, .int oS_present.2.1, .int oS_present.2.2.1, .int oS_present.2.2.2.1, .int oS_present.2.2.2.2.1, .int oS_present.2.2.2.2.2])), (o_present_board, .inr (0, [.ref o_present_board_men, .ref o_present_board_sets])), (o_present_board_men, .inl (cI, 64, .inl oS_present.1.1)), (o_present_board_sets, .inl (cJ, 16, .inr (.inl oS_present.1.2))), (o_told, .inl (cI, 400, .inl oS_told)), (o_memories, .inl (cI, 400, .inl oS_memories)), (o_marks, .inl (cI, 401, .inl oS_marks)), (o_pictures, .inl (cJ, 1604, .inr (.inl oS_pictures)))] s.heap.size = A at hD hG ⊢
  have hA : ∀ q : Nat, s.heap.size ≤ q → A q := fun q h => by rw [← hAe]; exact Or.inr h
  have hS : va_S A s.heap s.heap [] := va_S.rf
  have hP : va_P (dC, dI) vwCl [(o, .inr (1, [.ref o_present, .int oS_count, .ref o_told, .ref o_memories, .ref o_marks, .ref o_pictures])), (o_present, .inr (3, [.ref o_present_board, .int oS_present.2.1, .int oS_present.2.2.1, .int oS_present.2.2.2.1, .int oS_present.2.2.2.2.1, .int oS_present.2.2.2.2.2])), (o_present_board, .inr (0, [.ref o_present_board_men, .ref o_present_board_sets])), (o_present_board_men, .inl (cI, 64, .inl oS_present.1.1)), (o_present_board_sets, .inl (cJ, 16, .inr (.inl oS_present.1.2))), (o_told, .inl (cI, 400, .inl oS_told)), (o_memories, .inl (cI, 400, .inl oS_memories)), (o_marks, .inl (cI, 401, .inl oS_marks)), (o_pictures, .inl (cJ, 1604, .inr (.inl oS_pictures)))] s.heap := hP
  have hl := lv_entry ([.ref o, .int move]) (n := 2) (Nat.le_of_ble_eq_true rfl)
  rw [lg_entry_eq]
  generalize (lg_sl ([.ref o, .int move]) ++ List.replicate (2 - (lg_sl ([.ref o, .int move])).length) Slot.unset).toArray = ls at hl ⊢
  have hl : lv_has ls 2 [(0, .ref o), (1, .int move)] := hl
  refine lv_aload_n hx hb dGa_advance_0 rfl (lv_at hl 0 rfl) ?_
  refine va_get (D := (dC, dI)) (ci := 1) (v := .int oS_count) (C := RGa) (T := TGa) (N := 6) hx hb hB inGa hown hK hP 0 rfl rfl 1 (by decide) (hB _ q1_144) (fun _ h9 => h9) rfl dGa_advance_1 ?_
  refine lv_if_lt (tgt := 58) hx hb dGa_advance_4 (by decide) (fun c_1 => ?_) (fun c_1 => ?_)
  · have hv : f_Ga_advance oS_present oS_count oS_told oS_memories oS_marks oS_pictures move = (oS_present, oS_count, oS_told, oS_memories, oS_marks, oS_pictures) := (by rw [f_Ga_advance_eq, if_pos c_1] <;> rfl)
    have hP9 : va_P (dC, dI) vwCl [(o, .inr (1, [.ref o_present, .int ((f_Ga_advance oS_present oS_count oS_told oS_memories oS_marks oS_pictures move).2.1), .ref o_told, .ref o_memories, .ref o_marks, .ref o_pictures])), (o_present, .inr (3, [.ref o_present_board, .int (((f_Ga_advance oS_present oS_count oS_told oS_memories oS_marks oS_pictures move).1).2.1), .int (((f_Ga_advance oS_present oS_count oS_told oS_memories oS_marks oS_pictures move).1).2.2.1), .int (((f_Ga_advance oS_present oS_count oS_told oS_memories oS_marks oS_pictures move).1).2.2.2.1), .int (((f_Ga_advance oS_present oS_count oS_told oS_memories oS_marks oS_pictures move).1).2.2.2.2.1), .int (((f_Ga_advance oS_present oS_count oS_told oS_memories oS_marks oS_pictures move).1).2.2.2.2.2)])), (o_present_board, .inr (0, [.ref o_present_board_men, .ref o_present_board_sets])), (o_present_board_men, .inl (cI, 64, .inl ((((f_Ga_advance oS_present oS_count oS_told oS_memories oS_marks oS_pictures move).1).1).1))), (o_present_board_sets, .inl (cJ, 16, .inr (.inl ((((f_Ga_advance oS_present oS_count oS_told oS_memories oS_marks oS_pictures move).1).1).2)))), (o_told, .inl (cI, 400, .inl ((f_Ga_advance oS_present oS_count oS_told oS_memories oS_marks oS_pictures move).2.2.1))), (o_memories, .inl (cI, 400, .inl ((f_Ga_advance oS_present oS_count oS_told oS_memories oS_marks oS_pictures move).2.2.2.1))), (o_marks, .inl (cI, 401, .inl ((f_Ga_advance oS_present oS_count oS_told oS_memories oS_marks oS_pictures move).2.2.2.2.1))), (o_pictures, .inl (cJ, 1604, .inr (.inl ((f_Ga_advance oS_present oS_count oS_told oS_memories oS_marks oS_pictures move).2.2.2.2.2))))] s.heap := by first | (rw [hv]; exact hP.sub [0, 1, 2, 3, 4, 5, 6, 7, 8] rfl) | exact hP.sub [0, 1, 2, 3, 4, 5, 6, 7, 8] rfl
    have hD9 : va_D A [(o, .inr (1, [.ref o_present, .int ((f_Ga_advance oS_present oS_count oS_told oS_memories oS_marks oS_pictures move).2.1), .ref o_told, .ref o_memories, .ref o_marks, .ref o_pictures])), (o_present, .inr (3, [.ref o_present_board, .int (((f_Ga_advance oS_present oS_count oS_told oS_memories oS_marks oS_pictures move).1).2.1), .int (((f_Ga_advance oS_present oS_count oS_told oS_memories oS_marks oS_pictures move).1).2.2.1), .int (((f_Ga_advance oS_present oS_count oS_told oS_memories oS_marks oS_pictures move).1).2.2.2.1), .int (((f_Ga_advance oS_present oS_count oS_told oS_memories oS_marks oS_pictures move).1).2.2.2.2.1), .int (((f_Ga_advance oS_present oS_count oS_told oS_memories oS_marks oS_pictures move).1).2.2.2.2.2)])), (o_present_board, .inr (0, [.ref o_present_board_men, .ref o_present_board_sets])), (o_present_board_men, .inl (cI, 64, .inl ((((f_Ga_advance oS_present oS_count oS_told oS_memories oS_marks oS_pictures move).1).1).1))), (o_present_board_sets, .inl (cJ, 16, .inr (.inl ((((f_Ga_advance oS_present oS_count oS_told oS_memories oS_marks oS_pictures move).1).1).2)))), (o_told, .inl (cI, 400, .inl ((f_Ga_advance oS_present oS_count oS_told oS_memories oS_marks oS_pictures move).2.2.1))), (o_memories, .inl (cI, 400, .inl ((f_Ga_advance oS_present oS_count oS_told oS_memories oS_marks oS_pictures move).2.2.2.1))), (o_marks, .inl (cI, 401, .inl ((f_Ga_advance oS_present oS_count oS_told oS_memories oS_marks oS_pictures move).2.2.2.2.1))), (o_pictures, .inl (cJ, 1604, .inr (.inl ((f_Ga_advance oS_present oS_count oS_told oS_memories oS_marks oS_pictures move).2.2.2.2.2))))] := by first | (rw [hv]; exact hD.sub [0, 1, 2, 3, 4, 5, 6, 7, 8] (by decide) rfl) | exact hD.sub [0, 1, 2, 3, 4, 5, 6, 7, 8] (by decide) rfl
    exact rw_retv hx hb hr hlocks hK hP9 hD9 hS dGa_advance_58
  · refine lv_aload_n hx hb dGa_advance_7 rfl (lv_at hl 0 rfl) ?_
    refine va_get (D := (dC, dI)) (ci := 1) (v := .int oS_count) (C := RGa) (T := TGa) (N := 6) hx hb hB inGa hown hK hP 0 rfl rfl 1 (by decide) (hB _ q1_144) (fun _ h9 => h9) rfl dGa_advance_8 ?_
    refine lv_sipush (v := 400) hx hb dGa_advance_11 (by decide) ?_
    refine lv_icmp_ge (tgt := 58) hx hb dGa_advance_14 (by decide) (fun c_2 => ?_) (fun c_2 => ?_)
    · have hv : f_Ga_advance oS_present oS_count oS_told oS_memories oS_marks oS_pictures move = (oS_present, oS_count, oS_told, oS_memories, oS_marks, oS_pictures) := (by rw [f_Ga_advance_eq, if_neg c_1, if_pos c_2] <;> rfl)
      have hP9 : va_P (dC, dI) vwCl [(o, .inr (1, [.ref o_present, .int ((f_Ga_advance oS_present oS_count oS_told oS_memories oS_marks oS_pictures move).2.1), .ref o_told, .ref o_memories, .ref o_marks, .ref o_pictures])), (o_present, .inr (3, [.ref o_present_board, .int (((f_Ga_advance oS_present oS_count oS_told oS_memories oS_marks oS_pictures move).1).2.1), .int (((f_Ga_advance oS_present oS_count oS_told oS_memories oS_marks oS_pictures move).1).2.2.1), .int (((f_Ga_advance oS_present oS_count oS_told oS_memories oS_marks oS_pictures move).1).2.2.2.1), .int (((f_Ga_advance oS_present oS_count oS_told oS_memories oS_marks oS_pictures move).1).2.2.2.2.1), .int (((f_Ga_advance oS_present oS_count oS_told oS_memories oS_marks oS_pictures move).1).2.2.2.2.2)])), (o_present_board, .inr (0, [.ref o_present_board_men, .ref o_present_board_sets])), (o_present_board_men, .inl (cI, 64, .inl ((((f_Ga_advance oS_present oS_count oS_told oS_memories oS_marks oS_pictures move).1).1).1))), (o_present_board_sets, .inl (cJ, 16, .inr (.inl ((((f_Ga_advance oS_present oS_count oS_told oS_memories oS_marks oS_pictures move).1).1).2)))), (o_told, .inl (cI, 400, .inl ((f_Ga_advance oS_present oS_count oS_told oS_memories oS_marks oS_pictures move).2.2.1))), (o_memories, .inl (cI, 400, .inl ((f_Ga_advance oS_present oS_count oS_told oS_memories oS_marks oS_pictures move).2.2.2.1))), (o_marks, .inl (cI, 401, .inl ((f_Ga_advance oS_present oS_count oS_told oS_memories oS_marks oS_pictures move).2.2.2.2.1))), (o_pictures, .inl (cJ, 1604, .inr (.inl ((f_Ga_advance oS_present oS_count oS_told oS_memories oS_marks oS_pictures move).2.2.2.2.2))))] s.heap := by first | (rw [hv]; exact hP.sub [0, 1, 2, 3, 4, 5, 6, 7, 8] rfl) | exact hP.sub [0, 1, 2, 3, 4, 5, 6, 7, 8] rfl
      have hD9 : va_D A [(o, .inr (1, [.ref o_present, .int ((f_Ga_advance oS_present oS_count oS_told oS_memories oS_marks oS_pictures move).2.1), .ref o_told, .ref o_memories, .ref o_marks, .ref o_pictures])), (o_present, .inr (3, [.ref o_present_board, .int (((f_Ga_advance oS_present oS_count oS_told oS_memories oS_marks oS_pictures move).1).2.1), .int (((f_Ga_advance oS_present oS_count oS_told oS_memories oS_marks oS_pictures move).1).2.2.1), .int (((f_Ga_advance oS_present oS_count oS_told oS_memories oS_marks oS_pictures move).1).2.2.2.1), .int (((f_Ga_advance oS_present oS_count oS_told oS_memories oS_marks oS_pictures move).1).2.2.2.2.1), .int (((f_Ga_advance oS_present oS_count oS_told oS_memories oS_marks oS_pictures move).1).2.2.2.2.2)])), (o_present_board, .inr (0, [.ref o_present_board_men, .ref o_present_board_sets])), (o_present_board_men, .inl (cI, 64, .inl ((((f_Ga_advance oS_present oS_count oS_told oS_memories oS_marks oS_pictures move).1).1).1))), (o_present_board_sets, .inl (cJ, 16, .inr (.inl ((((f_Ga_advance oS_present oS_count oS_told oS_memories oS_marks oS_pictures move).1).1).2)))), (o_told, .inl (cI, 400, .inl ((f_Ga_advance oS_present oS_count oS_told oS_memories oS_marks oS_pictures move).2.2.1))), (o_memories, .inl (cI, 400, .inl ((f_Ga_advance oS_present oS_count oS_told oS_memories oS_marks oS_pictures move).2.2.2.1))), (o_marks, .inl (cI, 401, .inl ((f_Ga_advance oS_present oS_count oS_told oS_memories oS_marks oS_pictures move).2.2.2.2.1))), (o_pictures, .inl (cJ, 1604, .inr (.inl ((f_Ga_advance oS_present oS_count oS_told oS_memories oS_marks oS_pictures move).2.2.2.2.2))))] := by first | (rw [hv]; exact hD.sub [0, 1, 2, 3, 4, 5, 6, 7, 8] (by decide) rfl) | exact hD.sub [0, 1, 2, 3, 4, 5, 6, 7, 8] (by decide) rfl
      exact rw_retv hx hb hr hlocks hK hP9 hD9 hS dGa_advance_58
    · refine lv_aload_n hx hb dGa_advance_17 rfl (lv_at hl 0 rfl) ?_
      refine va_get (D := (dC, dI)) (ci := 1) (v := .ref o_told) (C := RGa) (T := TGa) (N := 6) hx hb hB inGa hown hK hP 0 rfl rfl 2 (by decide) (hB _ q1_146) (fun _ h9 => h9) rfl dGa_advance_18 ?_
      refine lv_aload_n hx hb dGa_advance_21 rfl (lv_at hl 0 rfl) ?_
      refine va_get (D := (dC, dI)) (ci := 1) (v := .int oS_count) (C := RGa) (T := TGa) (N := 6) hx hb hB inGa hown hK hP 0 rfl rfl 1 (by decide) (hB _ q1_144) (fun _ h9 => h9) rfl dGa_advance_22 ?_
      refine lv_iload_n hx hb dGa_advance_25 rfl (lv_at hl 1 rfl) ?_
      refine va_iast hx hb hK hP hD hS 5 0 rfl rfl (vp_in_iff.mpr (by have z0 := tnl c_1; have z1 := tnle c_2; have y0 : (0 : Int32).toInt = 0 := rfl; have y400 : (400 : Int32).toInt = 400 := rfl; omega)) dGa_advance_26 (fun H locs hP hD hS => ?_)
      have hP : va_P (dC, dI) vwCl [(o, .inr (1, [.ref o_present, .int oS_count, .ref o_told, .ref o_memories, .ref o_marks, .ref o_pictures])), (o_present, .inr (3, [.ref o_present_board, .int oS_present.2.1, .int oS_present.2.2.1, .int oS_present.2.2.2.1, .int oS_present.2.2.2.2.1, .int oS_present.2.2.2.2.2])), (o_present_board, .inr (0, [.ref o_present_board_men, .ref o_present_board_sets])), (o_present_board_men, .inl (cI, 64, .inl oS_present.1.1)), (o_present_board_sets, .inl (cJ, 16, .inr (.inl oS_present.1.2))), (o_told, .inl (cI, 400, .inl (upd oS_told oS_count.toNatClampNeg move))), (o_memories, .inl (cI, 400, .inl oS_memories)), (o_marks, .inl (cI, 401, .inl oS_marks)), (o_pictures, .inl (cJ, 1604, .inr (.inl oS_pictures)))] H := hP
      have hD : va_D A [(o, .inr (1, [.ref o_present, .int oS_count, .ref o_told, .ref o_memories, .ref o_marks, .ref o_pictures])), (o_present, .inr (3, [.ref o_present_board, .int oS_present.2.1, .int oS_present.2.2.1, .int oS_present.2.2.2.1, .int oS_present.2.2.2.2.1, .int oS_present.2.2.2.2.2])), (o_present_board, .inr (0, [.ref o_present_board_men, .ref o_present_board_sets])), (o_present_board_men, .inl (cI, 64, .inl oS_present.1.1)), (o_present_board_sets, .inl (cJ, 16, .inr (.inl oS_present.1.2))), (o_told, .inl (cI, 400, .inl (upd oS_told oS_count.toNatClampNeg move))), (o_memories, .inl (cI, 400, .inl oS_memories)), (o_marks, .inl (cI, 401, .inl oS_marks)), (o_pictures, .inl (cJ, 1604, .inr (.inl oS_pictures)))] := hD
      refine lv_aload_n hx hb dGa_advance_27 rfl (lv_at hl 0 rfl) ?_
      refine va_get (D := (dC, dI)) (ci := 1) (v := .ref o_memories) (C := RGa) (T := TGa) (N := 6) hx hb hB inGa hown hK hP 0 rfl rfl 3 (by decide) (hB _ q1_148) (fun _ h9 => h9) rfl dGa_advance_28 ?_
      refine lv_aload_n hx hb dGa_advance_31 rfl (lv_at hl 0 rfl) ?_
      refine va_get (D := (dC, dI)) (ci := 1) (v := .int oS_count) (C := RGa) (T := TGa) (N := 6) hx hb hB inGa hown hK hP 0 rfl rfl 1 (by decide) (hB _ q1_144) (fun _ h9 => h9) rfl dGa_advance_32 ?_
      refine lv_aload_n hx hb dGa_advance_35 rfl (lv_at hl 0 rfl) ?_
      refine va_get (D := (dC, dI)) (ci := 1) (v := .ref o_present) (C := RGa) (T := TGa) (N := 6) hx hb hB inGa hown hK hP 0 rfl rfl 0 (by decide) (hB _ q1_142) (fun _ h9 => h9) rfl dGa_advance_36 ?_
      refine lv_iload_n hx hb dGa_advance_39 rfl (lv_at hl 1 rfl) ?_
      obtain ⟨R_40, hR_40⟩ : ∃ R9, R9 = f_Po_make oS_present.1 oS_present.2.1 oS_present.2.2.1 oS_present.2.2.2.1 oS_present.2.2.2.2.1 oS_present.2.2.2.2.2 move := ⟨_, rfl⟩
      have hM_40 := (c_Po_make l dC dI cI cJ cC ad o_present o_present_board o_present_board_men o_present_board_sets H.size oS_present.1 oS_present.2.1 oS_present.2.2.1 oS_present.2.2.2.1 oS_present.2.2.2.2.1 oS_present.2.2.2.2.2 move)
      rw [← hR_40] at hM_40
      refine rw_goi (wr := [(o, .inr (1, [.ref o_present, .int oS_count, .ref o_told, .ref o_memories, .ref o_marks, .ref o_pictures])), (o_told, .inl (cI, 400, .inl (upd oS_told oS_count.toNatClampNeg move))), (o_memories, .inl (cI, 400, .inl oS_memories)), (o_marks, .inl (cI, 401, .inl oS_marks)), (o_pictures, .inl (cJ, 1604, .inr (.inl oS_pictures)))]) (va_runVN (C := "ChessRules$Position") (As := [.int move]) (rest := [.int oS_count, .ref o_memories]) ⟨hx, hb, hml, hown, hB⟩ hM_40 ⟨va_cnB 1 hB (big_self q4_117) rfl rfl rfl (hG.1 _ q4_114) (hB _ q1_4) (by decide +kernel) ⟨Nat.le_of_ble_eq_true rfl, Nat.le_of_ble_eq_true rfl⟩, (hB _ q4_116), (hB _ qs4_11)⟩ (rw_preV (GS_ok ad) hK hP hD hA hG hS [1, 2, 3, 4] (by decide) rfl rfl (va_recv hK hP (ci := 3) (q0 := 1) rfl rfl)) rfl rfl hl.1 rfl (lv_room (Nat.le_of_ble_eq_true rfl)) dGa_advance_40 ⟨Nat.le_of_ble_eq_true rfl, Nat.le_of_ble_eq_true rfl⟩) hP hD hS hA [1, 2, 3, 4] [0, 5, 6, 7, 8] rfl rfl (by decide) (by decide) (fun H locs hP hD hS => ?_)
      have hP : va_P (dC, dI) vwCl [(o, .inr (1, [.ref o_present, .int oS_count, .ref o_told, .ref o_memories, .ref o_marks, .ref o_pictures])), (o_told, .inl (cI, 400, .inl (upd oS_told oS_count.toNatClampNeg move))), (o_memories, .inl (cI, 400, .inl oS_memories)), (o_marks, .inl (cI, 401, .inl oS_marks)), (o_pictures, .inl (cJ, 1604, .inr (.inl oS_pictures))), (o_present, .inr (3, [.ref o_present_board, .int R_40.2.2.1, .int R_40.2.2.2.1, .int R_40.2.2.2.2.1, .int R_40.2.2.2.2.2.1, .int R_40.2.2.2.2.2.2])), (o_present_board, .inr (0, [.ref o_present_board_men, .ref o_present_board_sets])), (o_present_board_men, .inl (cI, 64, .inl R_40.2.1.1)), (o_present_board_sets, .inl (cJ, 16, .inr (.inl R_40.2.1.2)))] H := hP
      have hD : va_D A [(o, .inr (1, [.ref o_present, .int oS_count, .ref o_told, .ref o_memories, .ref o_marks, .ref o_pictures])), (o_told, .inl (cI, 400, .inl (upd oS_told oS_count.toNatClampNeg move))), (o_memories, .inl (cI, 400, .inl oS_memories)), (o_marks, .inl (cI, 401, .inl oS_marks)), (o_pictures, .inl (cJ, 1604, .inr (.inl oS_pictures))), (o_present, .inr (3, [.ref o_present_board, .int R_40.2.2.1, .int R_40.2.2.2.1, .int R_40.2.2.2.2.1, .int R_40.2.2.2.2.2.1, .int R_40.2.2.2.2.2.2])), (o_present_board, .inr (0, [.ref o_present_board_men, .ref o_present_board_sets])), (o_present_board_men, .inl (cI, 64, .inl R_40.2.1.1)), (o_present_board_sets, .inl (cJ, 16, .inr (.inl R_40.2.1.2)))] := hD
      have he_r40 : f_Ga_advance oS_present oS_count oS_told oS_memories oS_marks oS_pictures move = f_Ga_advance_r40 oS_present oS_count oS_told oS_memories oS_marks oS_pictures move R_40 := (by rw [f_Ga_advance_eq, if_neg c_1, if_neg c_2, ← hR_40] <;> rfl)
      refine va_iast hx hb hK hP hD hS 2 0 rfl rfl (vp_in_iff.mpr (by have z0 := tnl c_1; have z1 := tnle c_2; have y0 : (0 : Int32).toInt = 0 := rfl; have y400 : (400 : Int32).toInt = 400 := rfl; omega)) dGa_advance_43 (fun H locs hP hD hS => ?_)
      have hP : va_P (dC, dI) vwCl [(o, .inr (1, [.ref o_present, .int oS_count, .ref o_told, .ref o_memories, .ref o_marks, .ref o_pictures])), (o_told, .inl (cI, 400, .inl (upd oS_told oS_count.toNatClampNeg move))), (o_memories, .inl (cI, 400, .inl (upd oS_memories oS_count.toNatClampNeg R_40.1))), (o_marks, .inl (cI, 401, .inl oS_marks)), (o_pictures, .inl (cJ, 1604, .inr (.inl oS_pictures))), (o_present, .inr (3, [.ref o_present_board, .int R_40.2.2.1, .int R_40.2.2.2.1, .int R_40.2.2.2.2.1, .int R_40.2.2.2.2.2.1, .int R_40.2.2.2.2.2.2])), (o_present_board, .inr (0, [.ref o_present_board_men, .ref o_present_board_sets])), (o_present_board_men, .inl (cI, 64, .inl R_40.2.1.1)), (o_present_board_sets, .inl (cJ, 16, .inr (.inl R_40.2.1.2)))] H := hP
      have hD : va_D A [(o, .inr (1, [.ref o_present, .int oS_count, .ref o_told, .ref o_memories, .ref o_marks, .ref o_pictures])), (o_told, .inl (cI, 400, .inl (upd oS_told oS_count.toNatClampNeg move))), (o_memories, .inl (cI, 400, .inl (upd oS_memories oS_count.toNatClampNeg R_40.1))), (o_marks, .inl (cI, 401, .inl oS_marks)), (o_pictures, .inl (cJ, 1604, .inr (.inl oS_pictures))), (o_present, .inr (3, [.ref o_present_board, .int R_40.2.2.1, .int R_40.2.2.2.1, .int R_40.2.2.2.2.1, .int R_40.2.2.2.2.2.1, .int R_40.2.2.2.2.2.2])), (o_present_board, .inr (0, [.ref o_present_board_men, .ref o_present_board_sets])), (o_present_board_men, .inl (cI, 64, .inl R_40.2.1.1)), (o_present_board_sets, .inl (cJ, 16, .inr (.inl R_40.2.1.2)))] := hD
      refine lv_aload_n hx hb dGa_advance_44 rfl (lv_at hl 0 rfl) ?_
      refine lv_dup hx hb dGa_advance_45 rfl ?_
      refine va_get (D := (dC, dI)) (ci := 1) (v := .int oS_count) (C := RGa) (T := TGa) (N := 6) hx hb hB inGa hown hK hP 0 rfl rfl 1 (by decide) (hB _ q1_144) (fun _ h9 => h9) rfl dGa_advance_46 ?_
      refine lv_iconst (v := 1) hx hb dGa_advance_49 (by decide) ?_
      refine lv_iadd hx hb dGa_advance_50 ?_
      refine va_put (D := (dC, dI)) (ci := 1) (v := .int (oS_count + 1)) (ty := .int) (C := RGa) (T := TGa) (N := 6) hx hb hB inGa tyGa tyGa_ok nmGa hown hK hP hD hS 0 rfl rfl 1 (by decide) (hB _ q1_144) (fun _ h9 => h9) rfl (by decide +kernel) rfl rfl (Nat.le_of_ble_eq_true rfl) dGa_advance_51 (fun H locs hP hD hS => ?_)
      have hP : va_P (dC, dI) vwCl [(o, .inr (1, [.ref o_present, .int (oS_count + 1), .ref o_told, .ref o_memories, .ref o_marks, .ref o_pictures])), (o_told, .inl (cI, 400, .inl (upd oS_told oS_count.toNatClampNeg move))), (o_memories, .inl (cI, 400, .inl (upd oS_memories oS_count.toNatClampNeg R_40.1))), (o_marks, .inl (cI, 401, .inl oS_marks)), (o_pictures, .inl (cJ, 1604, .inr (.inl oS_pictures))), (o_present, .inr (3, [.ref o_present_board, .int R_40.2.2.1, .int R_40.2.2.2.1, .int R_40.2.2.2.2.1, .int R_40.2.2.2.2.2.1, .int R_40.2.2.2.2.2.2])), (o_present_board, .inr (0, [.ref o_present_board_men, .ref o_present_board_sets])), (o_present_board_men, .inl (cI, 64, .inl R_40.2.1.1)), (o_present_board_sets, .inl (cJ, 16, .inr (.inl R_40.2.1.2)))] H := hP
      have hD : va_D A [(o, .inr (1, [.ref o_present, .int (oS_count + 1), .ref o_told, .ref o_memories, .ref o_marks, .ref o_pictures])), (o_told, .inl (cI, 400, .inl (upd oS_told oS_count.toNatClampNeg move))), (o_memories, .inl (cI, 400, .inl (upd oS_memories oS_count.toNatClampNeg R_40.1))), (o_marks, .inl (cI, 401, .inl oS_marks)), (o_pictures, .inl (cJ, 1604, .inr (.inl oS_pictures))), (o_present, .inr (3, [.ref o_present_board, .int R_40.2.2.1, .int R_40.2.2.2.1, .int R_40.2.2.2.2.1, .int R_40.2.2.2.2.2.1, .int R_40.2.2.2.2.2.2])), (o_present_board, .inr (0, [.ref o_present_board_men, .ref o_present_board_sets])), (o_present_board_men, .inl (cI, 64, .inl R_40.2.1.1)), (o_present_board_sets, .inl (cJ, 16, .inr (.inl R_40.2.1.2)))] := hD
      refine lv_aload_n hx hb dGa_advance_54 rfl (lv_at hl 0 rfl) ?_
      obtain ⟨R_55, hR_55⟩ : ∃ R9, R9 = f_Ga_keepPicture R_40.2 (oS_count + 1) oS_marks oS_pictures := ⟨_, rfl⟩
      have hM_55 := (c_Ga_keepPicture l dC dI cI cJ cC ad o o_present o_present_board o_present_board_men o_present_board_sets o_told o_memories o_marks o_pictures H.size R_40.2 (oS_count + 1) (upd oS_told oS_count.toNatClampNeg move) (upd oS_memories oS_count.toNatClampNeg R_40.1) oS_marks oS_pictures)
      rw [← hR_55] at hM_55
      refine rw_gov (wr := []) (va_runV (C := "ChessRules$Game") (As := []) (rest := []) ⟨hx, hb, hml, hown, hB⟩ hM_55 ⟨callB_of 0 hB (big_self q2_210) rfl rfl rfl (hB _ q1_6) (hB _ q2_207) (by decide +kernel) ⟨Nat.le_of_ble_eq_true rfl, Nat.le_of_ble_eq_true rfl⟩, (hB _ q2_209), (hB _ qs2_15)⟩ (rw_preV (GS_ok ad) hK hP hD hA hG hS [0, 5, 6, 7, 8, 1, 2, 3, 4] (by decide) rfl rfl (va_recv hK hP (ci := 1) (q0 := 0) rfl rfl)) rfl rfl hl.1 rfl (lv_room (Nat.le_of_ble_eq_true rfl)) dGa_advance_55 ⟨Nat.le_of_ble_eq_true rfl, Nat.le_of_ble_eq_true rfl⟩) hP hD hS hA [0, 5, 6, 7, 8, 1, 2, 3, 4] [] rfl rfl (by decide) (by decide) (fun H locs hP hD hS => ?_)
      have hP : va_P (dC, dI) vwCl [(o, .inr (1, [.ref o_present, .int (oS_count + 1), .ref o_told, .ref o_memories, .ref o_marks, .ref o_pictures])), (o_present, .inr (3, [.ref o_present_board, .int R_40.2.2.1, .int R_40.2.2.2.1, .int R_40.2.2.2.2.1, .int R_40.2.2.2.2.2.1, .int R_40.2.2.2.2.2.2])), (o_present_board, .inr (0, [.ref o_present_board_men, .ref o_present_board_sets])), (o_present_board_men, .inl (cI, 64, .inl R_40.2.1.1)), (o_present_board_sets, .inl (cJ, 16, .inr (.inl R_40.2.1.2))), (o_told, .inl (cI, 400, .inl (upd oS_told oS_count.toNatClampNeg move))), (o_memories, .inl (cI, 400, .inl (upd oS_memories oS_count.toNatClampNeg R_40.1))), (o_marks, .inl (cI, 401, .inl R_55.1)), (o_pictures, .inl (cJ, 1604, .inr (.inl R_55.2)))] H := hP
      have hD : va_D A [(o, .inr (1, [.ref o_present, .int (oS_count + 1), .ref o_told, .ref o_memories, .ref o_marks, .ref o_pictures])), (o_present, .inr (3, [.ref o_present_board, .int R_40.2.2.1, .int R_40.2.2.2.1, .int R_40.2.2.2.2.1, .int R_40.2.2.2.2.2.1, .int R_40.2.2.2.2.2.2])), (o_present_board, .inr (0, [.ref o_present_board_men, .ref o_present_board_sets])), (o_present_board_men, .inl (cI, 64, .inl R_40.2.1.1)), (o_present_board_sets, .inl (cJ, 16, .inr (.inl R_40.2.1.2))), (o_told, .inl (cI, 400, .inl (upd oS_told oS_count.toNatClampNeg move))), (o_memories, .inl (cI, 400, .inl (upd oS_memories oS_count.toNatClampNeg R_40.1))), (o_marks, .inl (cI, 401, .inl R_55.1)), (o_pictures, .inl (cJ, 1604, .inr (.inl R_55.2)))] := hD
      have he_r55 : f_Ga_advance oS_present oS_count oS_told oS_memories oS_marks oS_pictures move = f_Ga_advance_r55 oS_present oS_count oS_told oS_memories oS_marks oS_pictures move R_40 R_55 := (he_r40.trans (by rw [f_Ga_advance_r40_eq, ← hR_55] <;> rfl))
      have hv : f_Ga_advance oS_present oS_count oS_told oS_memories oS_marks oS_pictures move = (R_40.2, oS_count + 1, upd oS_told oS_count.toNatClampNeg move, upd oS_memories oS_count.toNatClampNeg R_40.1, R_55.1, R_55.2) := (he_r55.trans (by rw [f_Ga_advance_r55_eq] <;> rfl))
      have hP9 : va_P (dC, dI) vwCl [(o, .inr (1, [.ref o_present, .int ((f_Ga_advance oS_present oS_count oS_told oS_memories oS_marks oS_pictures move).2.1), .ref o_told, .ref o_memories, .ref o_marks, .ref o_pictures])), (o_present, .inr (3, [.ref o_present_board, .int (((f_Ga_advance oS_present oS_count oS_told oS_memories oS_marks oS_pictures move).1).2.1), .int (((f_Ga_advance oS_present oS_count oS_told oS_memories oS_marks oS_pictures move).1).2.2.1), .int (((f_Ga_advance oS_present oS_count oS_told oS_memories oS_marks oS_pictures move).1).2.2.2.1), .int (((f_Ga_advance oS_present oS_count oS_told oS_memories oS_marks oS_pictures move).1).2.2.2.2.1), .int (((f_Ga_advance oS_present oS_count oS_told oS_memories oS_marks oS_pictures move).1).2.2.2.2.2)])), (o_present_board, .inr (0, [.ref o_present_board_men, .ref o_present_board_sets])), (o_present_board_men, .inl (cI, 64, .inl ((((f_Ga_advance oS_present oS_count oS_told oS_memories oS_marks oS_pictures move).1).1).1))), (o_present_board_sets, .inl (cJ, 16, .inr (.inl ((((f_Ga_advance oS_present oS_count oS_told oS_memories oS_marks oS_pictures move).1).1).2)))), (o_told, .inl (cI, 400, .inl ((f_Ga_advance oS_present oS_count oS_told oS_memories oS_marks oS_pictures move).2.2.1))), (o_memories, .inl (cI, 400, .inl ((f_Ga_advance oS_present oS_count oS_told oS_memories oS_marks oS_pictures move).2.2.2.1))), (o_marks, .inl (cI, 401, .inl ((f_Ga_advance oS_present oS_count oS_told oS_memories oS_marks oS_pictures move).2.2.2.2.1))), (o_pictures, .inl (cJ, 1604, .inr (.inl ((f_Ga_advance oS_present oS_count oS_told oS_memories oS_marks oS_pictures move).2.2.2.2.2))))] H := by first | (rw [hv]; exact hP.sub [0, 1, 2, 3, 4, 5, 6, 7, 8] rfl) | exact hP.sub [0, 1, 2, 3, 4, 5, 6, 7, 8] rfl
      have hD9 : va_D A [(o, .inr (1, [.ref o_present, .int ((f_Ga_advance oS_present oS_count oS_told oS_memories oS_marks oS_pictures move).2.1), .ref o_told, .ref o_memories, .ref o_marks, .ref o_pictures])), (o_present, .inr (3, [.ref o_present_board, .int (((f_Ga_advance oS_present oS_count oS_told oS_memories oS_marks oS_pictures move).1).2.1), .int (((f_Ga_advance oS_present oS_count oS_told oS_memories oS_marks oS_pictures move).1).2.2.1), .int (((f_Ga_advance oS_present oS_count oS_told oS_memories oS_marks oS_pictures move).1).2.2.2.1), .int (((f_Ga_advance oS_present oS_count oS_told oS_memories oS_marks oS_pictures move).1).2.2.2.2.1), .int (((f_Ga_advance oS_present oS_count oS_told oS_memories oS_marks oS_pictures move).1).2.2.2.2.2)])), (o_present_board, .inr (0, [.ref o_present_board_men, .ref o_present_board_sets])), (o_present_board_men, .inl (cI, 64, .inl ((((f_Ga_advance oS_present oS_count oS_told oS_memories oS_marks oS_pictures move).1).1).1))), (o_present_board_sets, .inl (cJ, 16, .inr (.inl ((((f_Ga_advance oS_present oS_count oS_told oS_memories oS_marks oS_pictures move).1).1).2)))), (o_told, .inl (cI, 400, .inl ((f_Ga_advance oS_present oS_count oS_told oS_memories oS_marks oS_pictures move).2.2.1))), (o_memories, .inl (cI, 400, .inl ((f_Ga_advance oS_present oS_count oS_told oS_memories oS_marks oS_pictures move).2.2.2.1))), (o_marks, .inl (cI, 401, .inl ((f_Ga_advance oS_present oS_count oS_told oS_memories oS_marks oS_pictures move).2.2.2.2.1))), (o_pictures, .inl (cJ, 1604, .inr (.inl ((f_Ga_advance oS_present oS_count oS_told oS_memories oS_marks oS_pictures move).2.2.2.2.2))))] := by first | (rw [hv]; exact hD.sub [0, 1, 2, 3, 4, 5, 6, 7, 8] (by decide) rfl) | exact hD.sub [0, 1, 2, 3, 4, 5, 6, 7, 8] (by decide) rfl
      exact rw_retv hx hb hr hlocks hK hP9 hD9 hS dGa_advance_58

abbrev cGa_retreat : ByteArray := prog_3_method_4_code
def yGa_retreat : MethodName := ⟨"ChessRules$Game", "retreat", "()V"⟩
def wsGa_retreat : List Cond := Cond.code yGa_retreat cGa_retreat 1 none :: BIG
theorem dGa_retreat_0 : decode cGa_retreat 0 = .ok (.aload_n 0, 1) := by decide +kernel
theorem dGa_retreat_1 : decode cGa_retreat 1 = .ok (.getfield 18, 3) := by decide +kernel
theorem dGa_retreat_4 : decode cGa_retreat 4 = .ok (.ifCond .le 48, 3) := by decide +kernel
theorem dGa_retreat_7 : decode cGa_retreat 7 = .ok (.aload_n 0, 1) := by decide +kernel
theorem dGa_retreat_8 : decode cGa_retreat 8 = .ok (.getfield 18, 3) := by decide +kernel
theorem dGa_retreat_11 : decode cGa_retreat 11 = .ok (.sipush 400, 3) := by decide +kernel
theorem dGa_retreat_14 : decode cGa_retreat 14 = .ok (.if_icmp .gt 38, 3) := by decide +kernel
theorem dGa_retreat_17 : decode cGa_retreat 17 = .ok (.aload_n 0, 1) := by decide +kernel
theorem dGa_retreat_18 : decode cGa_retreat 18 = .ok (.dup, 1) := by decide +kernel
theorem dGa_retreat_19 : decode cGa_retreat 19 = .ok (.getfield 18, 3) := by decide +kernel
theorem dGa_retreat_22 : decode cGa_retreat 22 = .ok (.iconst 1, 1) := by decide +kernel
theorem dGa_retreat_23 : decode cGa_retreat 23 = .ok (.isub, 1) := by decide +kernel
theorem dGa_retreat_24 : decode cGa_retreat 24 = .ok (.putfield 18, 3) := by decide +kernel
theorem dGa_retreat_27 : decode cGa_retreat 27 = .ok (.aload_n 0, 1) := by decide +kernel
theorem dGa_retreat_28 : decode cGa_retreat 28 = .ok (.getfield 12, 3) := by decide +kernel
theorem dGa_retreat_31 : decode cGa_retreat 31 = .ok (.aload_n 0, 1) := by decide +kernel
theorem dGa_retreat_32 : decode cGa_retreat 32 = .ok (.getfield 22, 3) := by decide +kernel
theorem dGa_retreat_35 : decode cGa_retreat 35 = .ok (.aload_n 0, 1) := by decide +kernel
theorem dGa_retreat_36 : decode cGa_retreat 36 = .ok (.getfield 18, 3) := by decide +kernel
theorem dGa_retreat_39 : decode cGa_retreat 39 = .ok (.iaload, 1) := by decide +kernel
theorem dGa_retreat_40 : decode cGa_retreat 40 = .ok (.aload_n 0, 1) := by decide +kernel
theorem dGa_retreat_41 : decode cGa_retreat 41 = .ok (.getfield 26, 3) := by decide +kernel
theorem dGa_retreat_44 : decode cGa_retreat 44 = .ok (.aload_n 0, 1) := by decide +kernel
theorem dGa_retreat_45 : decode cGa_retreat 45 = .ok (.getfield 18, 3) := by decide +kernel
theorem dGa_retreat_48 : decode cGa_retreat 48 = .ok (.iaload, 1) := by decide +kernel
theorem dGa_retreat_49 : decode cGa_retreat 49 = .ok (.invokevirtual 47, 3) := by decide +kernel
theorem dGa_retreat_52 : decode cGa_retreat 52 = .ok (.return_, 1) := by decide +kernel

def f_Ga_retreat_r49 (oS_present : St_Po) (oS_count : Int32) (oS_told : Nat → Int32) (oS_memories : Nat → Int32) (R_49 : (St_Bo × Int32 × Int32 × Int32 × Int32 × Int32)) : St_Po × Int32 :=
  (R_49, oS_count - 1)
theorem f_Ga_retreat_r49_eq (oS_present : St_Po) (oS_count : Int32) (oS_told : Nat → Int32) (oS_memories : Nat → Int32) (R_49 : (St_Bo × Int32 × Int32 × Int32 × Int32 × Int32)) : f_Ga_retreat_r49 oS_present oS_count oS_told oS_memories R_49 =
  (R_49, oS_count - 1) := rfl

def f_Ga_retreat (oS_present : St_Po) (oS_count : Int32) (oS_told : Nat → Int32) (oS_memories : Nat → Int32) : St_Po × Int32 :=
  (if oS_count ≤ 0 then (oS_present, oS_count) else (if 400 < oS_count then (oS_present, oS_count) else f_Ga_retreat_r49 oS_present oS_count oS_told oS_memories (f_Po_unmake oS_present.1 oS_present.2.1 oS_present.2.2.2.2.2 (oS_told (oS_count - 1).toNatClampNeg) (oS_memories (oS_count - 1).toNatClampNeg))))
theorem f_Ga_retreat_eq (oS_present : St_Po) (oS_count : Int32) (oS_told : Nat → Int32) (oS_memories : Nat → Int32) : f_Ga_retreat oS_present oS_count oS_told oS_memories =
  (if oS_count ≤ 0 then (oS_present, oS_count) else (if 400 < oS_count then (oS_present, oS_count) else f_Ga_retreat_r49 oS_present oS_count oS_told oS_memories (f_Po_unmake oS_present.1 oS_present.2.1 oS_present.2.2.2.2.2 (oS_told (oS_count - 1).toNatClampNeg) (oS_memories (oS_count - 1).toNatClampNeg)))) := rfl

set_option maxHeartbeats 4000000 in
set_option maxRecDepth 100000 in
theorem c_Ga_retreat (l : Launch) (dC : Nat → ClassId) (dI : Nat → Nat → Nat) (cI cJ cC : ClassId) (ad : Nat → Nat) (o o_present o_present_board o_present_board_men o_present_board_sets o_told o_memories o_marks o_pictures : Nat) (sz : Nat) (oS_present : St_Po) (oS_count : Int32) (oS_told : Nat → Int32) (oS_memories : Nat → Int32) (oS_marks : Nat → Int32) (oS_pictures : Nat → Int64) : Met l yGa_retreat wsGa_retreat { frames := 3, cells := 0, slots := 0, locals := 70 } (rwP dC dI (TYS cI cJ cC) [.ref o] [(o, .inr (1, [.ref o_present, .int oS_count, .ref o_told, .ref o_memories, .ref o_marks, .ref o_pictures])), (o_present, .inr (3, [.ref o_present_board, .int oS_present.2.1, .int oS_present.2.2.1, .int oS_present.2.2.2.1, .int oS_present.2.2.2.2.1, .int oS_present.2.2.2.2.2])), (o_present_board, .inr (0, [.ref o_present_board_men, .ref o_present_board_sets])), (o_present_board_men, .inl (cI, 64, .inl oS_present.1.1)), (o_present_board_sets, .inl (cJ, 16, .inr (.inl oS_present.1.2))), (o_told, .inl (cI, 400, .inl oS_told)), (o_memories, .inl (cI, 400, .inl oS_memories)), (o_marks, .inl (cI, 401, .inl oS_marks)), (o_pictures, .inl (cJ, 1604, .inr (.inl oS_pictures)))] sz (GS ad)) (va_Qv (fun _ : Unit => True) (rwB dC dI (TYS cI cJ cC) [(o, .inr (1, [.ref o_present, .int ((f_Ga_retreat oS_present oS_count oS_told oS_memories).2), .ref o_told, .ref o_memories, .ref o_marks, .ref o_pictures])), (o_present, .inr (3, [.ref o_present_board, .int (((f_Ga_retreat oS_present oS_count oS_told oS_memories).1).2.1), .int (((f_Ga_retreat oS_present oS_count oS_told oS_memories).1).2.2.1), .int (((f_Ga_retreat oS_present oS_count oS_told oS_memories).1).2.2.2.1), .int (((f_Ga_retreat oS_present oS_count oS_told oS_memories).1).2.2.2.2.1), .int (((f_Ga_retreat oS_present oS_count oS_told oS_memories).1).2.2.2.2.2)])), (o_present_board, .inr (0, [.ref o_present_board_men, .ref o_present_board_sets])), (o_present_board_men, .inl (cI, 64, .inl ((((f_Ga_retreat oS_present oS_count oS_told oS_memories).1).1).1))), (o_present_board_sets, .inl (cJ, 16, .inr (.inl ((((f_Ga_retreat oS_present oS_count oS_told oS_memories).1).1).2)))), (o_told, .inl (cI, 400, .inl oS_told)), (o_memories, .inl (cI, 400, .inl oS_memories)), (o_marks, .inl (cI, 401, .inl oS_marks)), (o_pictures, .inl (cJ, 1604, .inr (.inl oS_pictures)))] (va_A [(o, .inr (1, [.ref o_present, .int oS_count, .ref o_told, .ref o_memories, .ref o_marks, .ref o_pictures])), (o_present, .inr (3, [.ref o_present_board, .int oS_present.2.1, .int oS_present.2.2.1, .int oS_present.2.2.2.1, .int oS_present.2.2.2.2.1, .int oS_present.2.2.2.2.2])), (o_present_board, .inr (0, [.ref o_present_board_men, .ref o_present_board_sets])), (o_present_board_men, .inl (cI, 64, .inl oS_present.1.1)), (o_present_board_sets, .inl (cJ, 16, .inr (.inl oS_present.1.2))), (o_told, .inl (cI, 400, .inl oS_told)), (o_memories, .inl (cI, 400, .inl oS_memories)), (o_marks, .inl (cI, 401, .inl oS_marks)), (o_pictures, .inl (cJ, 1604, .inr (.inl oS_pictures)))] sz)) (va_A [(o, .inr (1, [.ref o_present, .int oS_count, .ref o_told, .ref o_memories, .ref o_marks, .ref o_pictures])), (o_present, .inr (3, [.ref o_present_board, .int oS_present.2.1, .int oS_present.2.2.1, .int oS_present.2.2.2.1, .int oS_present.2.2.2.2.1, .int oS_present.2.2.2.2.2])), (o_present_board, .inr (0, [.ref o_present_board_men, .ref o_present_board_sets])), (o_present_board_men, .inl (cI, 64, .inl oS_present.1.1)), (o_present_board_sets, .inl (cJ, 16, .inr (.inl oS_present.1.2))), (o_told, .inl (cI, 400, .inl oS_told)), (o_memories, .inl (cI, 400, .inl oS_memories)), (o_marks, .inl (cI, 401, .inl oS_marks)), (o_pictures, .inl (cJ, 1604, .inr (.inl oS_pictures)))] sz)) 0 0 (va_A [(o, .inr (1, [.ref o_present, .int oS_count, .ref o_told, .ref o_memories, .ref o_marks, .ref o_pictures])), (o_present, .inr (3, [.ref o_present_board, .int oS_present.2.1, .int oS_present.2.2.1, .int oS_present.2.2.2.1, .int oS_present.2.2.2.2.1, .int oS_present.2.2.2.2.2])), (o_present_board, .inr (0, [.ref o_present_board_men, .ref o_present_board_sets])), (o_present_board_men, .inl (cI, 64, .inl oS_present.1.1)), (o_present_board_sets, .inl (cJ, 16, .inr (.inl oS_present.1.2))), (o_told, .inl (cI, 400, .inl oS_told)), (o_memories, .inl (cI, 400, .inl oS_memories)), (o_marks, .inl (cI, 401, .inl oS_marks)), (o_pictures, .inl (cJ, 1604, .inr (.inl oS_pictures)))] sz) := by
  refine Met.ofW (cc := cGa_retreat) (maxL := 1) (ret := none) (by decide) rfl ?_
  intro p e s m args below meth c s₁ B hml hv
  obtain ⟨rfl, hsz, hP, hK, hD0, hG⟩ := hv
  have hx := B.exec
  have hb := B.bytes
  have hr := B.returns
  have hB : ∀ w9 ∈ BIG, w9.before ([.ref o]).toArray s = true := fun w9 h => atoms_spec (ws := wsGa_retreat) B.pre w9 (List.mem_cons_of_mem _ h)
  have hown : s.vm.findClass "ChessRules$Game" = some m.cls := findClass_of_methodNamed B.named
  have hlocks := B.notSynchronized
  subst hsz
  have hD := hD0.self (sz := s.heap.size)
  generalize hAe : va_A [(o, .inr (1, [.ref o_present, .int oS_count, .ref o_told, .ref o_memories, .ref o_marks, .ref o_pictures])), (o_present, .inr (3, [.ref o_present_board, .int oS_present.2.1, .int oS_present.2.2.1, .int oS_present.2.2.2.1, .int oS_present.2.2.2.2.1, .int oS_present.2.2.2.2.2])), (o_present_board, .inr (0, [.ref o_present_board_men, .ref o_present_board_sets])), (o_present_board_men, .inl (cI, 64, .inl oS_present.1.1)), (o_present_board_sets, .inl (cJ, 16, .inr (.inl oS_present.1.2))), (o_told, .inl (cI, 400, .inl oS_told)), (o_memories, .inl (cI, 400, .inl oS_memories)), (o_marks, .inl (cI, 401, .inl oS_marks)), (o_pictures, .inl (cJ, 1604, .inr (.inl oS_pictures)))] s.heap.size = A at hD hG ⊢
  have hA : ∀ q : Nat, s.heap.size ≤ q → A q := fun q h => by rw [← hAe]; exact Or.inr h
  have hS : va_S A s.heap s.heap [] := va_S.rf
  have hP : va_P (dC, dI) vwCl [(o, .inr (1, [.ref o_present, .int oS_count, .ref o_told, .ref o_memories, .ref o_marks, .ref o_pictures])), (o_present, .inr (3, [.ref o_present_board, .int oS_present.2.1, .int oS_present.2.2.1, .int oS_present.2.2.2.1, .int oS_present.2.2.2.2.1, .int oS_present.2.2.2.2.2])), (o_present_board, .inr (0, [.ref o_present_board_men, .ref o_present_board_sets])), (o_present_board_men, .inl (cI, 64, .inl oS_present.1.1)), (o_present_board_sets, .inl (cJ, 16, .inr (.inl oS_present.1.2))), (o_told, .inl (cI, 400, .inl oS_told)), (o_memories, .inl (cI, 400, .inl oS_memories)), (o_marks, .inl (cI, 401, .inl oS_marks)), (o_pictures, .inl (cJ, 1604, .inr (.inl oS_pictures)))] s.heap := hP
  have hl := lv_entry ([.ref o]) (n := 1) (Nat.le_of_ble_eq_true rfl)
  rw [lg_entry_eq]
  generalize (lg_sl ([.ref o]) ++ List.replicate (1 - (lg_sl ([.ref o])).length) Slot.unset).toArray = ls at hl ⊢
  have hl : lv_has ls 1 [(0, .ref o)] := hl
  refine lv_aload_n hx hb dGa_retreat_0 rfl (lv_at hl 0 rfl) ?_
  refine va_get (D := (dC, dI)) (ci := 1) (v := .int oS_count) (C := RGa) (T := TGa) (N := 6) hx hb hB inGa hown hK hP 0 rfl rfl 1 (by decide) (hB _ q1_144) (fun _ h9 => h9) rfl dGa_retreat_1 ?_
  refine lv_if_le (tgt := 52) hx hb dGa_retreat_4 (by decide) (fun c_1 => ?_) (fun c_1 => ?_)
  · have hv : f_Ga_retreat oS_present oS_count oS_told oS_memories = (oS_present, oS_count) := (by rw [f_Ga_retreat_eq, if_pos c_1] <;> rfl)
    have hP9 : va_P (dC, dI) vwCl [(o, .inr (1, [.ref o_present, .int ((f_Ga_retreat oS_present oS_count oS_told oS_memories).2), .ref o_told, .ref o_memories, .ref o_marks, .ref o_pictures])), (o_present, .inr (3, [.ref o_present_board, .int (((f_Ga_retreat oS_present oS_count oS_told oS_memories).1).2.1), .int (((f_Ga_retreat oS_present oS_count oS_told oS_memories).1).2.2.1), .int (((f_Ga_retreat oS_present oS_count oS_told oS_memories).1).2.2.2.1), .int (((f_Ga_retreat oS_present oS_count oS_told oS_memories).1).2.2.2.2.1), .int (((f_Ga_retreat oS_present oS_count oS_told oS_memories).1).2.2.2.2.2)])), (o_present_board, .inr (0, [.ref o_present_board_men, .ref o_present_board_sets])), (o_present_board_men, .inl (cI, 64, .inl ((((f_Ga_retreat oS_present oS_count oS_told oS_memories).1).1).1))), (o_present_board_sets, .inl (cJ, 16, .inr (.inl ((((f_Ga_retreat oS_present oS_count oS_told oS_memories).1).1).2)))), (o_told, .inl (cI, 400, .inl oS_told)), (o_memories, .inl (cI, 400, .inl oS_memories)), (o_marks, .inl (cI, 401, .inl oS_marks)), (o_pictures, .inl (cJ, 1604, .inr (.inl oS_pictures)))] s.heap := by first | (rw [hv]; exact hP.sub [0, 1, 2, 3, 4, 5, 6, 7, 8] rfl) | exact hP.sub [0, 1, 2, 3, 4, 5, 6, 7, 8] rfl
    have hD9 : va_D A [(o, .inr (1, [.ref o_present, .int ((f_Ga_retreat oS_present oS_count oS_told oS_memories).2), .ref o_told, .ref o_memories, .ref o_marks, .ref o_pictures])), (o_present, .inr (3, [.ref o_present_board, .int (((f_Ga_retreat oS_present oS_count oS_told oS_memories).1).2.1), .int (((f_Ga_retreat oS_present oS_count oS_told oS_memories).1).2.2.1), .int (((f_Ga_retreat oS_present oS_count oS_told oS_memories).1).2.2.2.1), .int (((f_Ga_retreat oS_present oS_count oS_told oS_memories).1).2.2.2.2.1), .int (((f_Ga_retreat oS_present oS_count oS_told oS_memories).1).2.2.2.2.2)])), (o_present_board, .inr (0, [.ref o_present_board_men, .ref o_present_board_sets])), (o_present_board_men, .inl (cI, 64, .inl ((((f_Ga_retreat oS_present oS_count oS_told oS_memories).1).1).1))), (o_present_board_sets, .inl (cJ, 16, .inr (.inl ((((f_Ga_retreat oS_present oS_count oS_told oS_memories).1).1).2)))), (o_told, .inl (cI, 400, .inl oS_told)), (o_memories, .inl (cI, 400, .inl oS_memories)), (o_marks, .inl (cI, 401, .inl oS_marks)), (o_pictures, .inl (cJ, 1604, .inr (.inl oS_pictures)))] := by first | (rw [hv]; exact hD.sub [0, 1, 2, 3, 4, 5, 6, 7, 8] (by decide) rfl) | exact hD.sub [0, 1, 2, 3, 4, 5, 6, 7, 8] (by decide) rfl
    exact rw_retv hx hb hr hlocks hK hP9 hD9 hS dGa_retreat_52
  · refine lv_aload_n hx hb dGa_retreat_7 rfl (lv_at hl 0 rfl) ?_
    refine va_get (D := (dC, dI)) (ci := 1) (v := .int oS_count) (C := RGa) (T := TGa) (N := 6) hx hb hB inGa hown hK hP 0 rfl rfl 1 (by decide) (hB _ q1_144) (fun _ h9 => h9) rfl dGa_retreat_8 ?_
    refine lv_sipush (v := 400) hx hb dGa_retreat_11 (by decide) ?_
    refine lv_icmp_gt (tgt := 52) hx hb dGa_retreat_14 (by decide) (fun c_2 => ?_) (fun c_2 => ?_)
    · have hv : f_Ga_retreat oS_present oS_count oS_told oS_memories = (oS_present, oS_count) := (by rw [f_Ga_retreat_eq, if_neg c_1, if_pos c_2] <;> rfl)
      have hP9 : va_P (dC, dI) vwCl [(o, .inr (1, [.ref o_present, .int ((f_Ga_retreat oS_present oS_count oS_told oS_memories).2), .ref o_told, .ref o_memories, .ref o_marks, .ref o_pictures])), (o_present, .inr (3, [.ref o_present_board, .int (((f_Ga_retreat oS_present oS_count oS_told oS_memories).1).2.1), .int (((f_Ga_retreat oS_present oS_count oS_told oS_memories).1).2.2.1), .int (((f_Ga_retreat oS_present oS_count oS_told oS_memories).1).2.2.2.1), .int (((f_Ga_retreat oS_present oS_count oS_told oS_memories).1).2.2.2.2.1), .int (((f_Ga_retreat oS_present oS_count oS_told oS_memories).1).2.2.2.2.2)])), (o_present_board, .inr (0, [.ref o_present_board_men, .ref o_present_board_sets])), (o_present_board_men, .inl (cI, 64, .inl ((((f_Ga_retreat oS_present oS_count oS_told oS_memories).1).1).1))), (o_present_board_sets, .inl (cJ, 16, .inr (.inl ((((f_Ga_retreat oS_present oS_count oS_told oS_memories).1).1).2)))), (o_told, .inl (cI, 400, .inl oS_told)), (o_memories, .inl (cI, 400, .inl oS_memories)), (o_marks, .inl (cI, 401, .inl oS_marks)), (o_pictures, .inl (cJ, 1604, .inr (.inl oS_pictures)))] s.heap := by first | (rw [hv]; exact hP.sub [0, 1, 2, 3, 4, 5, 6, 7, 8] rfl) | exact hP.sub [0, 1, 2, 3, 4, 5, 6, 7, 8] rfl
      have hD9 : va_D A [(o, .inr (1, [.ref o_present, .int ((f_Ga_retreat oS_present oS_count oS_told oS_memories).2), .ref o_told, .ref o_memories, .ref o_marks, .ref o_pictures])), (o_present, .inr (3, [.ref o_present_board, .int (((f_Ga_retreat oS_present oS_count oS_told oS_memories).1).2.1), .int (((f_Ga_retreat oS_present oS_count oS_told oS_memories).1).2.2.1), .int (((f_Ga_retreat oS_present oS_count oS_told oS_memories).1).2.2.2.1), .int (((f_Ga_retreat oS_present oS_count oS_told oS_memories).1).2.2.2.2.1), .int (((f_Ga_retreat oS_present oS_count oS_told oS_memories).1).2.2.2.2.2)])), (o_present_board, .inr (0, [.ref o_present_board_men, .ref o_present_board_sets])), (o_present_board_men, .inl (cI, 64, .inl ((((f_Ga_retreat oS_present oS_count oS_told oS_memories).1).1).1))), (o_present_board_sets, .inl (cJ, 16, .inr (.inl ((((f_Ga_retreat oS_present oS_count oS_told oS_memories).1).1).2)))), (o_told, .inl (cI, 400, .inl oS_told)), (o_memories, .inl (cI, 400, .inl oS_memories)), (o_marks, .inl (cI, 401, .inl oS_marks)), (o_pictures, .inl (cJ, 1604, .inr (.inl oS_pictures)))] := by first | (rw [hv]; exact hD.sub [0, 1, 2, 3, 4, 5, 6, 7, 8] (by decide) rfl) | exact hD.sub [0, 1, 2, 3, 4, 5, 6, 7, 8] (by decide) rfl
      exact rw_retv hx hb hr hlocks hK hP9 hD9 hS dGa_retreat_52
    · refine lv_aload_n hx hb dGa_retreat_17 rfl (lv_at hl 0 rfl) ?_
      refine lv_dup hx hb dGa_retreat_18 rfl ?_
      refine va_get (D := (dC, dI)) (ci := 1) (v := .int oS_count) (C := RGa) (T := TGa) (N := 6) hx hb hB inGa hown hK hP 0 rfl rfl 1 (by decide) (hB _ q1_144) (fun _ h9 => h9) rfl dGa_retreat_19 ?_
      refine lv_iconst (v := 1) hx hb dGa_retreat_22 (by decide) ?_
      refine lv_isub hx hb dGa_retreat_23 ?_
      refine va_put (D := (dC, dI)) (ci := 1) (v := .int (oS_count - 1)) (ty := .int) (C := RGa) (T := TGa) (N := 6) hx hb hB inGa tyGa tyGa_ok nmGa hown hK hP hD hS 0 rfl rfl 1 (by decide) (hB _ q1_144) (fun _ h9 => h9) rfl (by decide +kernel) rfl rfl (Nat.le_of_ble_eq_true rfl) dGa_retreat_24 (fun H locs hP hD hS => ?_)
      have hP : va_P (dC, dI) vwCl [(o, .inr (1, [.ref o_present, .int (oS_count - 1), .ref o_told, .ref o_memories, .ref o_marks, .ref o_pictures])), (o_present, .inr (3, [.ref o_present_board, .int oS_present.2.1, .int oS_present.2.2.1, .int oS_present.2.2.2.1, .int oS_present.2.2.2.2.1, .int oS_present.2.2.2.2.2])), (o_present_board, .inr (0, [.ref o_present_board_men, .ref o_present_board_sets])), (o_present_board_men, .inl (cI, 64, .inl oS_present.1.1)), (o_present_board_sets, .inl (cJ, 16, .inr (.inl oS_present.1.2))), (o_told, .inl (cI, 400, .inl oS_told)), (o_memories, .inl (cI, 400, .inl oS_memories)), (o_marks, .inl (cI, 401, .inl oS_marks)), (o_pictures, .inl (cJ, 1604, .inr (.inl oS_pictures)))] H := hP
      have hD : va_D A [(o, .inr (1, [.ref o_present, .int (oS_count - 1), .ref o_told, .ref o_memories, .ref o_marks, .ref o_pictures])), (o_present, .inr (3, [.ref o_present_board, .int oS_present.2.1, .int oS_present.2.2.1, .int oS_present.2.2.2.1, .int oS_present.2.2.2.2.1, .int oS_present.2.2.2.2.2])), (o_present_board, .inr (0, [.ref o_present_board_men, .ref o_present_board_sets])), (o_present_board_men, .inl (cI, 64, .inl oS_present.1.1)), (o_present_board_sets, .inl (cJ, 16, .inr (.inl oS_present.1.2))), (o_told, .inl (cI, 400, .inl oS_told)), (o_memories, .inl (cI, 400, .inl oS_memories)), (o_marks, .inl (cI, 401, .inl oS_marks)), (o_pictures, .inl (cJ, 1604, .inr (.inl oS_pictures)))] := hD
      refine lv_aload_n hx hb dGa_retreat_27 rfl (lv_at hl 0 rfl) ?_
      refine va_get (D := (dC, dI)) (ci := 1) (v := .ref o_present) (C := RGa) (T := TGa) (N := 6) hx hb hB inGa hown hK hP 0 rfl rfl 0 (by decide) (hB _ q1_142) (fun _ h9 => h9) rfl dGa_retreat_28 ?_
      refine lv_aload_n hx hb dGa_retreat_31 rfl (lv_at hl 0 rfl) ?_
      refine va_get (D := (dC, dI)) (ci := 1) (v := .ref o_told) (C := RGa) (T := TGa) (N := 6) hx hb hB inGa hown hK hP 0 rfl rfl 2 (by decide) (hB _ q1_146) (fun _ h9 => h9) rfl dGa_retreat_32 ?_
      refine lv_aload_n hx hb dGa_retreat_35 rfl (lv_at hl 0 rfl) ?_
      refine va_get (D := (dC, dI)) (ci := 1) (v := .int (oS_count - 1)) (C := RGa) (T := TGa) (N := 6) hx hb hB inGa hown hK hP 0 rfl rfl 1 (by decide) (hB _ q1_144) (fun _ h9 => h9) rfl dGa_retreat_36 ?_
      refine va_iald hx hb hK hP 5 0 rfl rfl (vp_in_iff.mpr (by have z0 := tnle c_1; have z1 := tnl c_2; have y0 : (0 : Int32).toInt = 0 := rfl; have y400 : (400 : Int32).toInt = 400 := rfl; have zz := i_dec oS_count (by omega); omega)) dGa_retreat_39 ?_
      refine lv_aload_n hx hb dGa_retreat_40 rfl (lv_at hl 0 rfl) ?_
      refine va_get (D := (dC, dI)) (ci := 1) (v := .ref o_memories) (C := RGa) (T := TGa) (N := 6) hx hb hB inGa hown hK hP 0 rfl rfl 3 (by decide) (hB _ q1_148) (fun _ h9 => h9) rfl dGa_retreat_41 ?_
      refine lv_aload_n hx hb dGa_retreat_44 rfl (lv_at hl 0 rfl) ?_
      refine va_get (D := (dC, dI)) (ci := 1) (v := .int (oS_count - 1)) (C := RGa) (T := TGa) (N := 6) hx hb hB inGa hown hK hP 0 rfl rfl 1 (by decide) (hB _ q1_144) (fun _ h9 => h9) rfl dGa_retreat_45 ?_
      refine va_iald hx hb hK hP 6 0 rfl rfl (vp_in_iff.mpr (by have z0 := tnle c_1; have z1 := tnl c_2; have y0 : (0 : Int32).toInt = 0 := rfl; have y400 : (400 : Int32).toInt = 400 := rfl; have zz := i_dec oS_count (by omega); omega)) dGa_retreat_48 ?_
      obtain ⟨R_49, hR_49⟩ : ∃ R9, R9 = f_Po_unmake oS_present.1 oS_present.2.1 oS_present.2.2.2.2.2 (oS_told (oS_count - 1).toNatClampNeg) (oS_memories (oS_count - 1).toNatClampNeg) := ⟨_, rfl⟩
      have hM_49 := (c_Po_unmake l dC dI cI cJ cC ad o_present o_present_board o_present_board_men o_present_board_sets H.size oS_present.1 oS_present.2.1 oS_present.2.2.1 oS_present.2.2.2.1 oS_present.2.2.2.2.1 oS_present.2.2.2.2.2 (oS_told (oS_count - 1).toNatClampNeg) (oS_memories (oS_count - 1).toNatClampNeg))
      rw [← hR_49] at hM_49
      refine rw_gov (wr := [(o, .inr (1, [.ref o_present, .int (oS_count - 1), .ref o_told, .ref o_memories, .ref o_marks, .ref o_pictures])), (o_told, .inl (cI, 400, .inl oS_told)), (o_memories, .inl (cI, 400, .inl oS_memories)), (o_marks, .inl (cI, 401, .inl oS_marks)), (o_pictures, .inl (cJ, 1604, .inr (.inl oS_pictures)))]) (va_runVN (C := "ChessRules$Position") (As := [.int (oS_told (oS_count - 1).toNatClampNeg), .int (oS_memories (oS_count - 1).toNatClampNeg)]) (rest := []) ⟨hx, hb, hml, hown, hB⟩ hM_49 ⟨va_cnB 2 hB (big_self q4_148) rfl rfl rfl (hG.1 _ q4_145) (hB _ q1_4) (by decide +kernel) ⟨Nat.le_of_ble_eq_true rfl, Nat.le_of_ble_eq_true rfl⟩, (hB _ q4_147), (hB _ qs4_14)⟩ (rw_preV (GS_ok ad) hK hP hD hA hG hS [1, 2, 3, 4] (by decide) rfl rfl (va_recv hK hP (ci := 3) (q0 := 1) rfl rfl)) rfl rfl hl.1 rfl (lv_room (Nat.le_of_ble_eq_true rfl)) dGa_retreat_49 ⟨Nat.le_of_ble_eq_true rfl, Nat.le_of_ble_eq_true rfl⟩) hP hD hS hA [1, 2, 3, 4] [0, 5, 6, 7, 8] rfl rfl (by decide) (by decide) (fun H locs hP hD hS => ?_)
      have hP : va_P (dC, dI) vwCl [(o, .inr (1, [.ref o_present, .int (oS_count - 1), .ref o_told, .ref o_memories, .ref o_marks, .ref o_pictures])), (o_told, .inl (cI, 400, .inl oS_told)), (o_memories, .inl (cI, 400, .inl oS_memories)), (o_marks, .inl (cI, 401, .inl oS_marks)), (o_pictures, .inl (cJ, 1604, .inr (.inl oS_pictures))), (o_present, .inr (3, [.ref o_present_board, .int R_49.2.1, .int R_49.2.2.1, .int R_49.2.2.2.1, .int R_49.2.2.2.2.1, .int R_49.2.2.2.2.2])), (o_present_board, .inr (0, [.ref o_present_board_men, .ref o_present_board_sets])), (o_present_board_men, .inl (cI, 64, .inl R_49.1.1)), (o_present_board_sets, .inl (cJ, 16, .inr (.inl R_49.1.2)))] H := hP
      have hD : va_D A [(o, .inr (1, [.ref o_present, .int (oS_count - 1), .ref o_told, .ref o_memories, .ref o_marks, .ref o_pictures])), (o_told, .inl (cI, 400, .inl oS_told)), (o_memories, .inl (cI, 400, .inl oS_memories)), (o_marks, .inl (cI, 401, .inl oS_marks)), (o_pictures, .inl (cJ, 1604, .inr (.inl oS_pictures))), (o_present, .inr (3, [.ref o_present_board, .int R_49.2.1, .int R_49.2.2.1, .int R_49.2.2.2.1, .int R_49.2.2.2.2.1, .int R_49.2.2.2.2.2])), (o_present_board, .inr (0, [.ref o_present_board_men, .ref o_present_board_sets])), (o_present_board_men, .inl (cI, 64, .inl R_49.1.1)), (o_present_board_sets, .inl (cJ, 16, .inr (.inl R_49.1.2)))] := hD
      have he_r49 : f_Ga_retreat oS_present oS_count oS_told oS_memories = f_Ga_retreat_r49 oS_present oS_count oS_told oS_memories R_49 := (by rw [f_Ga_retreat_eq, if_neg c_1, if_neg c_2, ← hR_49] <;> rfl)
      have hv : f_Ga_retreat oS_present oS_count oS_told oS_memories = (R_49, oS_count - 1) := (he_r49.trans (by rw [f_Ga_retreat_r49_eq] <;> rfl))
      have hP9 : va_P (dC, dI) vwCl [(o, .inr (1, [.ref o_present, .int ((f_Ga_retreat oS_present oS_count oS_told oS_memories).2), .ref o_told, .ref o_memories, .ref o_marks, .ref o_pictures])), (o_present, .inr (3, [.ref o_present_board, .int (((f_Ga_retreat oS_present oS_count oS_told oS_memories).1).2.1), .int (((f_Ga_retreat oS_present oS_count oS_told oS_memories).1).2.2.1), .int (((f_Ga_retreat oS_present oS_count oS_told oS_memories).1).2.2.2.1), .int (((f_Ga_retreat oS_present oS_count oS_told oS_memories).1).2.2.2.2.1), .int (((f_Ga_retreat oS_present oS_count oS_told oS_memories).1).2.2.2.2.2)])), (o_present_board, .inr (0, [.ref o_present_board_men, .ref o_present_board_sets])), (o_present_board_men, .inl (cI, 64, .inl ((((f_Ga_retreat oS_present oS_count oS_told oS_memories).1).1).1))), (o_present_board_sets, .inl (cJ, 16, .inr (.inl ((((f_Ga_retreat oS_present oS_count oS_told oS_memories).1).1).2)))), (o_told, .inl (cI, 400, .inl oS_told)), (o_memories, .inl (cI, 400, .inl oS_memories)), (o_marks, .inl (cI, 401, .inl oS_marks)), (o_pictures, .inl (cJ, 1604, .inr (.inl oS_pictures)))] H := by first | (rw [hv]; exact hP.sub [0, 5, 6, 7, 8, 1, 2, 3, 4] rfl) | exact hP.sub [0, 5, 6, 7, 8, 1, 2, 3, 4] rfl
      have hD9 : va_D A [(o, .inr (1, [.ref o_present, .int ((f_Ga_retreat oS_present oS_count oS_told oS_memories).2), .ref o_told, .ref o_memories, .ref o_marks, .ref o_pictures])), (o_present, .inr (3, [.ref o_present_board, .int (((f_Ga_retreat oS_present oS_count oS_told oS_memories).1).2.1), .int (((f_Ga_retreat oS_present oS_count oS_told oS_memories).1).2.2.1), .int (((f_Ga_retreat oS_present oS_count oS_told oS_memories).1).2.2.2.1), .int (((f_Ga_retreat oS_present oS_count oS_told oS_memories).1).2.2.2.2.1), .int (((f_Ga_retreat oS_present oS_count oS_told oS_memories).1).2.2.2.2.2)])), (o_present_board, .inr (0, [.ref o_present_board_men, .ref o_present_board_sets])), (o_present_board_men, .inl (cI, 64, .inl ((((f_Ga_retreat oS_present oS_count oS_told oS_memories).1).1).1))), (o_present_board_sets, .inl (cJ, 16, .inr (.inl ((((f_Ga_retreat oS_present oS_count oS_told oS_memories).1).1).2)))), (o_told, .inl (cI, 400, .inl oS_told)), (o_memories, .inl (cI, 400, .inl oS_memories)), (o_marks, .inl (cI, 401, .inl oS_marks)), (o_pictures, .inl (cJ, 1604, .inr (.inl oS_pictures)))] := by first | (rw [hv]; exact hD.sub [0, 5, 6, 7, 8, 1, 2, 3, 4] (by decide) rfl) | exact hD.sub [0, 5, 6, 7, 8, 1, 2, 3, 4] (by decide) rfl
      exact rw_retv hx hb hr hlocks hK hP9 hD9 hS dGa_retreat_52

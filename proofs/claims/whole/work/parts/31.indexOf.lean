theorem ix_ok {fr to : Int32} {n : Nat} (h : fr.toInt = 0 ∧ to.toInt = n ∧ n < 2147483648) : 0 ≤ (max32 fr 0).toInt ∧ (max32 fr 0).toInt ≤ (min32 to (nI n)).toInt ∧ (min32 to (nI n)).toInt ≤ n := by
  obtain ⟨h1, h2, h3⟩ := h
  have e1 : fr = 0 := i_of h1 rfl
  have e2 : to = nI n := i_of h2 (nI_toInt h3)
  subst e1; subst e2
  have e3 : max32 0 0 = 0 := by decide
  have e4 : min32 (nI n) (nI n) = nI n := by unfold min32; split <;> rfl
  rw [e3, e4, nI_toInt h3]
  have y0 : (0 : Int32).toInt = 0 := rfl
  omega
theorem ix_len {fr : Int32} {n : Nat} (h : fr.toInt = 0 ∧ n < 2147483648) : fr.toInt = 0 ∧ (f_Js_length n (fun _ => 0)).toInt = n ∧ n < 2147483648 := ⟨h.1, by unfold f_Js_length; rw [show (nI n) >>> ((0 : Int32) &&& 31) = nI n from sb_shr0 _]; exact nI_toInt h.2, h.2⟩
theorem cl_in {x : Int32} {n : Nat} (h : 0 ≤ x.toInt ∧ x.toInt < n) (hn : n < 2147483648) : vp_in x n := vp_in_iff.mpr h

abbrev cJl_canEncode : ByteArray := prog_21_method_4_code
def yJl_canEncode : MethodName := ⟨"java/lang/StringLatin1", "canEncode", "(I)Z"⟩
def wsJl_canEncode : List Cond := Cond.code yJl_canEncode cJl_canEncode 1 (some .boolean) :: BIG
theorem dJl_canEncode_0 : decode cJl_canEncode 0 = .ok (.iload_n 0, 1) := by decide +kernel
theorem dJl_canEncode_1 : decode cJl_canEncode 1 = .ok (.ifCond .lt 14, 3) := by decide +kernel
theorem dJl_canEncode_4 : decode cJl_canEncode 4 = .ok (.iload_n 0, 1) := by decide +kernel
theorem dJl_canEncode_5 : decode cJl_canEncode 5 = .ok (.sipush 255, 3) := by decide +kernel
theorem dJl_canEncode_8 : decode cJl_canEncode 8 = .ok (.if_icmp .gt 7, 3) := by decide +kernel
theorem dJl_canEncode_11 : decode cJl_canEncode 11 = .ok (.iconst 1, 1) := by decide +kernel
theorem dJl_canEncode_12 : decode cJl_canEncode 12 = .ok (.goto 4, 3) := by decide +kernel
theorem dJl_canEncode_15 : decode cJl_canEncode 15 = .ok (.iconst 0, 1) := by decide +kernel
theorem dJl_canEncode_16 : decode cJl_canEncode 16 = .ok (.ireturn, 1) := by decide +kernel

def f_Jl_canEncode (cp : Int32) : Int32 :=
  (if cp < 0 then 0 else (if 255 < cp then 0 else 1))
theorem f_Jl_canEncode_eq (cp : Int32) : f_Jl_canEncode cp =
  (if cp < 0 then 0 else (if 255 < cp then 0 else 1)) := rfl

set_option maxHeartbeats 4000000 in
set_option maxRecDepth 100000 in
theorem c_Jl_canEncode (l : Launch) (dC : Nat → ClassId) (dI : Nat → Nat → Nat) (cI cJ cC : ClassId) (ad : Nat → Nat) (cp : Int32) : Met l yJl_canEncode wsJl_canEncode { frames := 0, cells := 0, slots := 0, locals := 0 } (roP dC dI (TYS cI cJ cC) [.int cp] [] (GS ad)) (vp_Si (fun r => r = f_Jl_canEncode cp)) 0 0 (fun _ => False) := by
  refine Met.ofW (cc := cJl_canEncode) (maxL := 1) (ret := (some .boolean)) (by decide) rfl ?_
  intro p e s m args below meth c s₁ B hml hv
  obtain ⟨rfl, hP, hK, hG⟩ := hv
  have hx := B.exec
  have hb := B.bytes
  have hr := B.returns
  have hB : ∀ w9 ∈ BIG, w9.before ([.int cp]).toArray s = true := fun w9 h => atoms_spec (ws := wsJl_canEncode) B.pre w9 (List.mem_cons_of_mem _ h)
  have hown : s.vm.findClass "java/lang/StringLatin1" = some m.cls := findClass_of_methodNamed B.named
  have hlocks := B.notSynchronized
  have hS : va_S (fun _ => False) s.heap s.heap [] := va_S.rf
  have hP : va_P (dC, dI) vwCl [] s.heap := hP
  have hl := lv_entry ([.int cp]) (n := 1) (Nat.le_of_ble_eq_true rfl)
  rw [lg_entry_eq]
  generalize (lg_sl ([.int cp]) ++ List.replicate (1 - (lg_sl ([.int cp])).length) Slot.unset).toArray = ls at hl ⊢
  have hl : lv_has ls 1 [(0, .int cp)] := hl
  refine lv_iload_n hx hb dJl_canEncode_0 rfl (lv_at hl 0 rfl) ?_
  refine lv_if_lt (tgt := 15) hx hb dJl_canEncode_1 (by decide) (fun c_1 => ?_) (fun c_1 => ?_)
  · refine lv_iconst (v := 0) hx hb dJl_canEncode_15 (by decide) ?_
    exact ro_retz hx hb hr rfl hlocks dJl_canEncode_16 (Eq.symm (by rw [f_Jl_canEncode_eq, if_pos c_1] <;> rfl))
  · refine lv_iload_n hx hb dJl_canEncode_4 rfl (lv_at hl 0 rfl) ?_
    refine lv_sipush (v := 255) hx hb dJl_canEncode_5 (by decide) ?_
    refine lv_icmp_gt (tgt := 15) hx hb dJl_canEncode_8 (by decide) (fun c_2 => ?_) (fun c_2 => ?_)
    · refine lv_iconst (v := 0) hx hb dJl_canEncode_15 (by decide) ?_
      exact ro_retz hx hb hr rfl hlocks dJl_canEncode_16 (Eq.symm (by rw [f_Jl_canEncode_eq, if_neg c_1, if_pos c_2] <;> rfl))
    · refine lv_iconst (v := 1) hx hb dJl_canEncode_11 (by decide) ?_
      refine lv_goto (tgt := 16) hx hb dJl_canEncode_12 (by decide) ?_
      exact ro_retz hx hb hr rfl hlocks dJl_canEncode_16 (Eq.symm (by rw [f_Jl_canEncode_eq, if_neg c_1, if_neg c_2] <;> rfl))

abbrev cJl_indexOfChar : ByteArray := prog_21_method_23_code
def yJl_indexOfChar : MethodName := ⟨"java/lang/StringLatin1", "indexOfChar", "([BIII)I"⟩
def wsJl_indexOfChar : List Cond := Cond.code yJl_indexOfChar cJl_indexOfChar 6 (some .int) :: BIG
theorem dJl_indexOfChar_0 : decode cJl_indexOfChar 0 = .ok (.iload_n 1, 1) := by decide +kernel
theorem dJl_indexOfChar_1 : decode cJl_indexOfChar 1 = .ok (.i2b, 1) := by decide +kernel
theorem dJl_indexOfChar_2 : decode cJl_indexOfChar 2 = .ok (.istore 4, 2) := by decide +kernel
theorem dJl_indexOfChar_4 : decode cJl_indexOfChar 4 = .ok (.iload_n 2, 1) := by decide +kernel
theorem dJl_indexOfChar_5 : decode cJl_indexOfChar 5 = .ok (.istore 5, 2) := by decide +kernel
theorem dJl_indexOfChar_7 : decode cJl_indexOfChar 7 = .ok (.iload 5, 2) := by decide +kernel
theorem dJl_indexOfChar_9 : decode cJl_indexOfChar 9 = .ok (.iload_n 3, 1) := by decide +kernel
theorem dJl_indexOfChar_10 : decode cJl_indexOfChar 10 = .ok (.if_icmp .ge 21, 3) := by decide +kernel
theorem dJl_indexOfChar_13 : decode cJl_indexOfChar 13 = .ok (.aload_n 0, 1) := by decide +kernel
theorem dJl_indexOfChar_14 : decode cJl_indexOfChar 14 = .ok (.iload 5, 2) := by decide +kernel
theorem dJl_indexOfChar_16 : decode cJl_indexOfChar 16 = .ok (.baload, 1) := by decide +kernel
theorem dJl_indexOfChar_17 : decode cJl_indexOfChar 17 = .ok (.iload 4, 2) := by decide +kernel
theorem dJl_indexOfChar_19 : decode cJl_indexOfChar 19 = .ok (.if_icmp .ne 6, 3) := by decide +kernel
theorem dJl_indexOfChar_22 : decode cJl_indexOfChar 22 = .ok (.iload 5, 2) := by decide +kernel
theorem dJl_indexOfChar_24 : decode cJl_indexOfChar 24 = .ok (.ireturn, 1) := by decide +kernel
theorem dJl_indexOfChar_25 : decode cJl_indexOfChar 25 = .ok (.iinc 5 1, 3) := by decide +kernel
theorem dJl_indexOfChar_28 : decode cJl_indexOfChar 28 = .ok (.goto (-21), 3) := by decide +kernel
theorem dJl_indexOfChar_31 : decode cJl_indexOfChar 31 = .ok (.iconst (-1), 1) := by decide +kernel
theorem dJl_indexOfChar_32 : decode cJl_indexOfChar 32 = .ok (.ireturn, 1) := by decide +kernel

def f_Jl_indexOfChar_7 (a_n : Nat) (a_f : Nat → Int32) (ch : Int32) (fr : Int32) (to : Int32) : Nat → Int32 → Int32
  | 0 => fun _ => 0
  | n_7 + 1 => fun v5_7 => (if to ≤ v5_7 then (-1) else (if (a_f v5_7.toNatClampNeg) = ch.toInt8.toInt32 then v5_7 else (f_Jl_indexOfChar_7 a_n a_f ch fr to n_7) (v5_7 + 1)))
theorem f_Jl_indexOfChar_7_eq (a_n : Nat) (a_f : Nat → Int32) (ch : Int32) (fr : Int32) (to : Int32) (n_7 : Nat) (v5_7 : Int32) : f_Jl_indexOfChar_7 a_n a_f ch fr to (n_7 + 1) v5_7 =
  (if to ≤ v5_7 then (-1) else (if (a_f v5_7.toNatClampNeg) = ch.toInt8.toInt32 then v5_7 else (f_Jl_indexOfChar_7 a_n a_f ch fr to n_7) (v5_7 + 1))) := rfl

def f_Jl_indexOfChar (a_n : Nat) (a_f : Nat → Int32) (ch : Int32) (fr : Int32) (to : Int32) : Int32 :=
  f_Jl_indexOfChar_7 a_n a_f ch fr to ((to.toInt - fr.toInt).toNat + 1) fr
theorem f_Jl_indexOfChar_eq (a_n : Nat) (a_f : Nat → Int32) (ch : Int32) (fr : Int32) (to : Int32) : f_Jl_indexOfChar a_n a_f ch fr to =
  f_Jl_indexOfChar_7 a_n a_f ch fr to ((to.toInt - fr.toInt).toNat + 1) fr := rfl

set_option maxHeartbeats 4000000 in
set_option maxRecDepth 100000 in
theorem c_Jl_indexOfChar (l : Launch) (dC : Nat → ClassId) (dI : Nat → Nat → Nat) (cI cJ cC : ClassId) (ad : Nat → Nat) (a : Nat) (a_n : Nat) (a_f : Nat → Int32) (ch : Int32) (fr : Int32) (to : Int32) (a_h : ∀ (A : Nat → Prop) (U : State) (H : Heap), GS ad A U H → va_T .byte a a_n (fun j => .int (a_f j)) A U H) (hf : 0 ≤ fr.toInt ∧ fr.toInt ≤ to.toInt ∧ to.toInt ≤ a_n) : Met l yJl_indexOfChar wsJl_indexOfChar { frames := 0, cells := 0, slots := 0, locals := 0 } (roP dC dI (TYS cI cJ cC) [.ref a, .int ch, .int fr, .int to] [] (GS ad)) (vp_Si (fun r => r = f_Jl_indexOfChar a_n a_f ch fr to)) 0 0 (fun _ => False) := by
  refine Met.ofW (cc := cJl_indexOfChar) (maxL := 6) (ret := (some .int)) (by decide) rfl ?_
  intro p e s m args below meth c s₁ B hml hv
  obtain ⟨rfl, hP, hK, hG⟩ := hv
  have hx := B.exec
  have hb := B.bytes
  have hr := B.returns
  have hB : ∀ w9 ∈ BIG, w9.before ([.ref a, .int ch, .int fr, .int to]).toArray s = true := fun w9 h => atoms_spec (ws := wsJl_indexOfChar) B.pre w9 (List.mem_cons_of_mem _ h)
  have hown : s.vm.findClass "java/lang/StringLatin1" = some m.cls := findClass_of_methodNamed B.named
  have hlocks := B.notSynchronized
  have hS : va_S (fun _ => False) s.heap s.heap [] := va_S.rf
  have hP : va_P (dC, dI) vwCl [] s.heap := hP
  have hl := lv_entry ([.ref a, .int ch, .int fr, .int to]) (n := 6) (Nat.le_of_ble_eq_true rfl)
  rw [lg_entry_eq]
  generalize (lg_sl ([.ref a, .int ch, .int fr, .int to]) ++ List.replicate (6 - (lg_sl ([.ref a, .int ch, .int fr, .int to])).length) Slot.unset).toArray = ls at hl ⊢
  have hl : lv_has ls 6 [(0, .ref a), (1, .int ch), (2, .int fr), (3, .int to)] := hl
  refine lv_iload_n hx hb dJl_indexOfChar_0 rfl (lv_at hl 1 rfl) ?_
  refine lv_i2b (v := ch.toInt8.toInt32) hx hb dJl_indexOfChar_1 rfl ?_
  refine lv_istore (lv' := [(4, .int ch.toInt8.toInt32), (0, .ref a), (1, .int ch), (2, .int fr), (3, .int to)]) hx hb dJl_indexOfChar_2 hl (by decide) rfl (fun ls hl => ?_)
  refine lv_iload_n hx hb dJl_indexOfChar_4 rfl (lv_at hl 3 rfl) ?_
  refine lv_istore (lv' := [(5, .int fr), (4, .int ch.toInt8.toInt32), (0, .ref a), (1, .int ch), (2, .int fr), (3, .int to)]) hx hb dJl_indexOfChar_5 hl (by decide) rfl (fun ls hl => ?_)
  have J_7 : ∀ (n_7 : Nat) (v5_7 : Int32), f_Jl_indexOfChar a_n a_f ch fr to = f_Jl_indexOfChar_7 a_n a_f ch fr to n_7 v5_7 → (0 ≤ v5_7.toInt ∧ v5_7.toInt ≤ to.toInt ∧ to.toInt - v5_7.toInt + 1 ≤ (n_7 : Int)) → ∀ ls : Array Slot, lv_has ls 6 [(0, .ref a), (3, .int to), (4, .int ch.toInt8.toInt32), (5, .int v5_7)] → W p l e (headSpec wsJl_indexOfChar { frames := 0, cells := 0, slots := 0, locals := 0 }).room s m ([.ref a, .int ch, .int fr, .int to]).toArray below meth c s.heap [] 0 0 (MQ below (vp_Si (fun r => r = f_Jl_indexOfChar a_n a_f ch fr to)) ([.ref a, .int ch, .int fr, .int to]).toArray s 0 0 (fun _ => False)) (F0 m 7 ls []) := by
    intro n_7
    induction n_7 with
    | zero => intro v5_7 _ hm_7; exact absurd hm_7 (by omega)
    | succ n_7 ih_7 =>
      intro v5_7 he_7 hm_7 ls hl
      refine lv_iload hx hb dJl_indexOfChar_7 (lv_at hl 3 rfl) ?_
      refine lv_iload_n hx hb dJl_indexOfChar_9 rfl (lv_at hl 1 rfl) ?_
      refine lv_icmp_ge (tgt := 31) hx hb dJl_indexOfChar_10 (by decide) (fun c_1 => ?_) (fun c_1 => ?_)
      · refine lv_iconst (v := (-1)) hx hb dJl_indexOfChar_31 (by decide) ?_
        exact ro_reti hx hb hr hlocks dJl_indexOfChar_32 (Eq.symm (he_7.trans (by rw [f_Jl_indexOfChar_7_eq, if_pos c_1] <;> rfl)))
      · refine lv_aload_n hx hb dJl_indexOfChar_13 rfl (lv_at hl 0 rfl) ?_
        refine lv_iload hx hb dJl_indexOfChar_14 (lv_at hl 3 rfl) ?_
        refine va_tb (v := .int (a_f v5_7.toNatClampNeg)) hx hb (a_h _ _ _ hG) hS (vp_in_iff.mpr (by have z1 := tnle c_1; omega)) rfl dJl_indexOfChar_16 ?_
        refine lv_iload hx hb dJl_indexOfChar_17 (lv_at hl 2 rfl) ?_
        refine lv_icmp_ne (tgt := 25) hx hb dJl_indexOfChar_19 (by decide) (fun c_2 => ?_) (fun c_2 => ?_)
        · refine lv_iinc (v := v5_7 + 1) (lv' := [(5, .int (v5_7 + 1)), (0, .ref a), (3, .int to), (4, .int ch.toInt8.toInt32)]) hx hb dJl_indexOfChar_25 hl (k := 3) rfl rfl (by decide) rfl (fun ls hl => ?_)
          refine lv_goto (tgt := 7) hx hb dJl_indexOfChar_28 (by decide) ?_
          exact ih_7 (v5_7 + 1) (he_7.trans (by rw [f_Jl_indexOfChar_7_eq, if_neg c_1, if_neg c_2] <;> rfl)) (by have z1 := tnle c_1; have z2 := tne c_2; have e1 := i_succ9 v5_7 (by have := i_rng to; omega); omega) ls (lv_sub hl [1, 2, 3, 0] rfl)
        · refine lv_iload hx hb dJl_indexOfChar_22 (lv_at hl 3 rfl) ?_
          exact ro_reti hx hb hr hlocks dJl_indexOfChar_24 (Eq.symm (he_7.trans (by rw [f_Jl_indexOfChar_7_eq, if_neg c_1, if_pos c_2] <;> rfl)))
  exact J_7 ((to.toInt - fr.toInt).toNat + 1) fr (by rw [f_Jl_indexOfChar_eq] <;> rfl) (by omega) ls (lv_sub hl [2, 5, 1, 0] rfl)

abbrev cJl_indexOf : ByteArray := prog_21_method_22_code
def yJl_indexOf : MethodName := ⟨"java/lang/StringLatin1", "indexOf", "([BIII)I"⟩
def wsJl_indexOf : List Cond := Cond.code yJl_indexOf cJl_indexOf 4 (some .int) :: BIG
theorem dJl_indexOf_0 : decode cJl_indexOf 0 = .ok (.iload_n 1, 1) := by decide +kernel
theorem dJl_indexOf_1 : decode cJl_indexOf 1 = .ok (.invokestatic 88, 3) := by decide +kernel
theorem dJl_indexOf_4 : decode cJl_indexOf 4 = .ok (.ifCond .ne 5, 3) := by decide +kernel
theorem dJl_indexOf_7 : decode cJl_indexOf 7 = .ok (.iconst (-1), 1) := by decide +kernel
theorem dJl_indexOf_8 : decode cJl_indexOf 8 = .ok (.ireturn, 1) := by decide +kernel
theorem dJl_indexOf_9 : decode cJl_indexOf 9 = .ok (.iload_n 2, 1) := by decide +kernel
theorem dJl_indexOf_10 : decode cJl_indexOf 10 = .ok (.iconst 0, 1) := by decide +kernel
theorem dJl_indexOf_11 : decode cJl_indexOf 11 = .ok (.invokestatic 92, 3) := by decide +kernel
theorem dJl_indexOf_14 : decode cJl_indexOf 14 = .ok (.istore_n 2, 1) := by decide +kernel
theorem dJl_indexOf_15 : decode cJl_indexOf 15 = .ok (.iload_n 3, 1) := by decide +kernel
theorem dJl_indexOf_16 : decode cJl_indexOf 16 = .ok (.aload_n 0, 1) := by decide +kernel
theorem dJl_indexOf_17 : decode cJl_indexOf 17 = .ok (.arraylength, 1) := by decide +kernel
theorem dJl_indexOf_18 : decode cJl_indexOf 18 = .ok (.invokestatic 38, 3) := by decide +kernel
theorem dJl_indexOf_21 : decode cJl_indexOf 21 = .ok (.istore_n 3, 1) := by decide +kernel
theorem dJl_indexOf_22 : decode cJl_indexOf 22 = .ok (.iload_n 2, 1) := by decide +kernel
theorem dJl_indexOf_23 : decode cJl_indexOf 23 = .ok (.iload_n 3, 1) := by decide +kernel
theorem dJl_indexOf_24 : decode cJl_indexOf 24 = .ok (.if_icmp .lt 5, 3) := by decide +kernel
theorem dJl_indexOf_27 : decode cJl_indexOf 27 = .ok (.iconst (-1), 1) := by decide +kernel
theorem dJl_indexOf_28 : decode cJl_indexOf 28 = .ok (.ireturn, 1) := by decide +kernel
theorem dJl_indexOf_29 : decode cJl_indexOf 29 = .ok (.aload_n 0, 1) := by decide +kernel
theorem dJl_indexOf_30 : decode cJl_indexOf 30 = .ok (.iload_n 1, 1) := by decide +kernel
theorem dJl_indexOf_31 : decode cJl_indexOf 31 = .ok (.iload_n 2, 1) := by decide +kernel
theorem dJl_indexOf_32 : decode cJl_indexOf 32 = .ok (.iload_n 3, 1) := by decide +kernel
theorem dJl_indexOf_33 : decode cJl_indexOf 33 = .ok (.invokestatic 95, 3) := by decide +kernel
theorem dJl_indexOf_36 : decode cJl_indexOf 36 = .ok (.ireturn, 1) := by decide +kernel

def f_Jl_indexOf (a_n : Nat) (a_f : Nat → Int32) (ch : Int32) (fr : Int32) (to : Int32) : Int32 :=
  (if (f_Jl_canEncode ch) = 0 then (-1) else (if (max32 fr 0) < (min32 to (nI a_n)) then f_Jl_indexOfChar a_n a_f ch (max32 fr 0) (min32 to (nI a_n)) else (-1)))
theorem f_Jl_indexOf_eq (a_n : Nat) (a_f : Nat → Int32) (ch : Int32) (fr : Int32) (to : Int32) : f_Jl_indexOf a_n a_f ch fr to =
  (if (f_Jl_canEncode ch) = 0 then (-1) else (if (max32 fr 0) < (min32 to (nI a_n)) then f_Jl_indexOfChar a_n a_f ch (max32 fr 0) (min32 to (nI a_n)) else (-1))) := rfl

set_option maxHeartbeats 4000000 in
set_option maxRecDepth 100000 in
theorem c_Jl_indexOf (l : Launch) (dC : Nat → ClassId) (dI : Nat → Nat → Nat) (cI cJ cC : ClassId) (ad : Nat → Nat) (a : Nat) (a_n : Nat) (a_f : Nat → Int32) (ch : Int32) (fr : Int32) (to : Int32) (a_h : ∀ (A : Nat → Prop) (U : State) (H : Heap), GS ad A U H → va_T .byte a a_n (fun j => .int (a_f j)) A U H) (hf : fr.toInt = 0 ∧ to.toInt = a_n ∧ a_n < 2147483648) : Met l yJl_indexOf wsJl_indexOf { frames := 1, cells := 0, slots := 0, locals := 25 } (roP dC dI (TYS cI cJ cC) [.ref a, .int ch, .int fr, .int to] [] (GS ad)) (vp_Si (fun r => r = f_Jl_indexOf a_n a_f ch fr to)) 0 0 (fun _ => False) := by
  refine Met.ofW (cc := cJl_indexOf) (maxL := 4) (ret := (some .int)) (by decide) rfl ?_
  intro p e s m args below meth c s₁ B hml hv
  obtain ⟨rfl, hP, hK, hG⟩ := hv
  have hx := B.exec
  have hb := B.bytes
  have hr := B.returns
  have hB : ∀ w9 ∈ BIG, w9.before ([.ref a, .int ch, .int fr, .int to]).toArray s = true := fun w9 h => atoms_spec (ws := wsJl_indexOf) B.pre w9 (List.mem_cons_of_mem _ h)
  have hown : s.vm.findClass "java/lang/StringLatin1" = some m.cls := findClass_of_methodNamed B.named
  have hlocks := B.notSynchronized
  have hS : va_S (fun _ => False) s.heap s.heap [] := va_S.rf
  have hP : va_P (dC, dI) vwCl [] s.heap := hP
  have hl := lv_entry ([.ref a, .int ch, .int fr, .int to]) (n := 4) (Nat.le_of_ble_eq_true rfl)
  rw [lg_entry_eq]
  generalize (lg_sl ([.ref a, .int ch, .int fr, .int to]) ++ List.replicate (4 - (lg_sl ([.ref a, .int ch, .int fr, .int to])).length) Slot.unset).toArray = ls at hl ⊢
  have hl : lv_has ls 4 [(0, .ref a), (1, .int ch), (2, .int fr), (3, .int to)] := hl
  refine lv_iload_n hx hb dJl_indexOf_0 rfl (lv_at hl 1 rfl) ?_
  refine ro_goi (va_runS (As := [.int ch]) (rest := []) ⟨hx, hb, hml, hown, hB⟩ (c_Jl_canEncode l dC dI cI cJ cC ad ch) ⟨callB_of 1 hB (big_self q2_27) rfl rfl rfl (hB _ q1_8) (hB _ q2_25) (by decide +kernel) ⟨Nat.le_of_ble_eq_true rfl, Nat.le_of_ble_eq_true rfl⟩, (hB _ q2_26)⟩ (ro_preS (GS_ok ad) hK hP hG hS [] rfl) rfl rfl hl.1 rfl (lv_room (Nat.le_of_ble_eq_true rfl)) dJl_indexOf_1 ⟨Nat.le_of_ble_eq_true rfl, Nat.le_of_ble_eq_true rfl⟩) ?_
  refine lv_if_ne (tgt := 9) hx hb dJl_indexOf_4 (by decide) (fun c_1 => ?_) (fun c_1 => ?_)
  · refine lv_iload_n hx hb dJl_indexOf_9 rfl (lv_at hl 2 rfl) ?_
    refine lv_iconst (v := 0) hx hb dJl_indexOf_10 (by decide) ?_
    refine va_mmax hx hb (by rw [hml]; exact hl.1.symm) hown (hB _ q2_28) (hB _ q2_29) (hB _ q1_11) (hB _ q2_30) (Nat.le_of_ble_eq_true rfl) (Nat.le_of_ble_eq_true rfl) (Nat.zero_le _) (Nat.zero_le _) dJl_indexOf_11 ?_
    refine W.eq (g2 := F0 m 14 ls [.int (max32 fr 0)]) rfl ?_
    refine lv_istore_n (lv' := [(2, .int (max32 fr 0)), (0, .ref a), (1, .int ch), (3, .int to)]) hx hb dJl_indexOf_14 rfl hl (by decide) rfl (fun ls hl => ?_)
    refine lv_iload_n hx hb dJl_indexOf_15 rfl (lv_at hl 3 rfl) ?_
    refine lv_aload_n hx hb dJl_indexOf_16 rfl (lv_at hl 1 rfl) ?_
    refine va_tlen (v := nI a_n) hx hb (a_h _ _ _ hG) hS rfl dJl_indexOf_17 ?_
    refine va_mmin hx hb (by rw [hml]; exact hl.1.symm) hown (hB _ q2_31) (hB _ q2_32) (hB _ q1_11) (hB _ q2_33) (Nat.le_of_ble_eq_true rfl) (Nat.le_of_ble_eq_true rfl) (Nat.zero_le _) (Nat.zero_le _) dJl_indexOf_18 ?_
    refine W.eq (g2 := F0 m 21 ls [.int (min32 to (nI a_n))]) rfl ?_
    refine lv_istore_n (lv' := [(3, .int (min32 to (nI a_n))), (2, .int (max32 fr 0)), (0, .ref a), (1, .int ch)]) hx hb dJl_indexOf_21 rfl hl (by decide) rfl (fun ls hl => ?_)
    refine lv_iload_n hx hb dJl_indexOf_22 rfl (lv_at hl 1 rfl) ?_
    refine lv_iload_n hx hb dJl_indexOf_23 rfl (lv_at hl 0 rfl) ?_
    refine lv_icmp_lt (tgt := 29) hx hb dJl_indexOf_24 (by decide) (fun c_2 => ?_) (fun c_2 => ?_)
    · refine lv_aload_n hx hb dJl_indexOf_29 rfl (lv_at hl 2 rfl) ?_
      refine lv_iload_n hx hb dJl_indexOf_30 rfl (lv_at hl 3 rfl) ?_
      refine lv_iload_n hx hb dJl_indexOf_31 rfl (lv_at hl 1 rfl) ?_
      refine lv_iload_n hx hb dJl_indexOf_32 rfl (lv_at hl 0 rfl) ?_
      refine ro_goi (va_runS (As := [.ref a, .int ch, .int (max32 fr 0), .int (min32 to (nI a_n))]) (rest := []) ⟨hx, hb, hml, hown, hB⟩ (c_Jl_indexOfChar l dC dI cI cJ cC ad a a_n a_f ch (max32 fr 0) (min32 to (nI a_n)) a_h (ix_ok hf)) ⟨callB_of 4 hB (big_self q2_36) rfl rfl rfl (hB _ q1_8) (hB _ q2_34) (by decide +kernel) ⟨Nat.le_of_ble_eq_true rfl, Nat.le_of_ble_eq_true rfl⟩, (hB _ q2_35)⟩ (ro_preS (GS_ok ad) hK hP hG hS [] rfl) rfl rfl hl.1 rfl (lv_room (Nat.le_of_ble_eq_true rfl)) dJl_indexOf_33 ⟨Nat.le_of_ble_eq_true rfl, Nat.le_of_ble_eq_true rfl⟩) ?_
      exact ro_reti hx hb hr hlocks dJl_indexOf_36 (Eq.symm (by rw [f_Jl_indexOf_eq, if_neg c_1, if_pos c_2] <;> rfl))
    · refine lv_iconst (v := (-1)) hx hb dJl_indexOf_27 (by decide) ?_
      exact ro_reti hx hb hr hlocks dJl_indexOf_28 (Eq.symm (by rw [f_Jl_indexOf_eq, if_neg c_1, if_neg c_2] <;> rfl))
  · refine lv_iconst (v := (-1)) hx hb dJl_indexOf_7 (by decide) ?_
    exact ro_reti hx hb hr hlocks dJl_indexOf_8 (Eq.symm (by rw [f_Jl_indexOf_eq, if_pos c_1] <;> rfl))

abbrev cJs_indexOf2 : ByteArray := prog_20_method_80_code
def yJs_indexOf2 : MethodName := ⟨"java/lang/String", "indexOf", "(II)I"⟩
def wsJs_indexOf2 : List Cond := Cond.code yJs_indexOf2 cJs_indexOf2 3 (some .int) :: BIG
theorem dJs_indexOf2_0 : decode cJs_indexOf2 0 = .ok (.aload_n 0, 1) := by decide +kernel
theorem dJs_indexOf2_1 : decode cJs_indexOf2 1 = .ok (.invokevirtual 492, 3) := by decide +kernel
theorem dJs_indexOf2_4 : decode cJs_indexOf2 4 = .ok (.ifCond .eq 19, 3) := by decide +kernel
theorem dJs_indexOf2_7 : decode cJs_indexOf2 7 = .ok (.aload_n 0, 1) := by decide +kernel
theorem dJs_indexOf2_8 : decode cJs_indexOf2 8 = .ok (.getfield 9, 3) := by decide +kernel
theorem dJs_indexOf2_11 : decode cJs_indexOf2 11 = .ok (.iload_n 1, 1) := by decide +kernel
theorem dJs_indexOf2_12 : decode cJs_indexOf2 12 = .ok (.iload_n 2, 1) := by decide +kernel
theorem dJs_indexOf2_13 : decode cJs_indexOf2 13 = .ok (.aload_n 0, 1) := by decide +kernel
theorem dJs_indexOf2_14 : decode cJs_indexOf2 14 = .ok (.invokevirtual 505, 3) := by decide +kernel
theorem dJs_indexOf2_17 : decode cJs_indexOf2 17 = .ok (.invokestatic 637, 3) := by decide +kernel
theorem dJs_indexOf2_20 : decode cJs_indexOf2 20 = .ok (.goto 16, 3) := by decide +kernel
theorem dJs_indexOf2_23 : decode cJs_indexOf2 23 = .ok (.aload_n 0, 1) := by decide +kernel
theorem dJs_indexOf2_24 : decode cJs_indexOf2 24 = .ok (.getfield 9, 3) := by decide +kernel
theorem dJs_indexOf2_27 : decode cJs_indexOf2 27 = .ok (.iload_n 1, 1) := by decide +kernel
theorem dJs_indexOf2_28 : decode cJs_indexOf2 28 = .ok (.iload_n 2, 1) := by decide +kernel
theorem dJs_indexOf2_29 : decode cJs_indexOf2 29 = .ok (.aload_n 0, 1) := by decide +kernel
theorem dJs_indexOf2_30 : decode cJs_indexOf2 30 = .ok (.invokevirtual 505, 3) := by decide +kernel
theorem dJs_indexOf2_33 : decode cJs_indexOf2 33 = .ok (.invokestatic 640, 3) := by decide +kernel
theorem dJs_indexOf2_36 : decode cJs_indexOf2 36 = .ok (.ireturn, 1) := by decide +kernel

def f_Js_indexOf2 (t_n : Nat) (t_f : Nat → Int32) (ch : Int32) (fr : Int32) : Int32 :=
  f_Jl_indexOf t_n t_f ch fr (f_Js_length t_n t_f)
theorem f_Js_indexOf2_eq (t_n : Nat) (t_f : Nat → Int32) (ch : Int32) (fr : Int32) : f_Js_indexOf2 t_n t_f ch fr =
  f_Jl_indexOf t_n t_f ch fr (f_Js_length t_n t_f) := rfl

set_option maxHeartbeats 4000000 in
set_option maxRecDepth 100000 in
theorem c_Js_indexOf2 (l : Launch) (dC : Nat → ClassId) (dI : Nat → Nat → Nat) (cI cJ cC : ClassId) (ad : Nat → Nat) (t t_v : Nat) (t_n : Nat) (t_f : Nat → Int32) (ch : Int32) (fr : Int32) (t_h : ∀ (A : Nat → Prop) (U : State) (H : Heap), GS ad A U H → GStr t t_v t_n t_f A U H) (hf : fr.toInt = 0 ∧ t_n < 2147483648) : Met l yJs_indexOf2 wsJs_indexOf2 { frames := 2, cells := 0, slots := 0, locals := 48 } (roP dC dI (TYS cI cJ cC) [.ref t, .int ch, .int fr] [] (GS ad)) (vp_Si (fun r => r = f_Js_indexOf2 t_n t_f ch fr)) 0 0 (fun _ => False) := by
  refine Met.ofW (cc := cJs_indexOf2) (maxL := 3) (ret := (some .int)) (by decide) rfl ?_
  intro p e s m args below meth c s₁ B hml hv
  obtain ⟨rfl, hP, hK, hG⟩ := hv
  have hx := B.exec
  have hb := B.bytes
  have hr := B.returns
  have hB : ∀ w9 ∈ BIG, w9.before ([.ref t, .int ch, .int fr]).toArray s = true := fun w9 h => atoms_spec (ws := wsJs_indexOf2) B.pre w9 (List.mem_cons_of_mem _ h)
  have hown : s.vm.findClass "java/lang/String" = some m.cls := findClass_of_methodNamed B.named
  have hlocks := B.notSynchronized
  have hS : va_S (fun _ => False) s.heap s.heap [] := va_S.rf
  have hP : va_P (dC, dI) vwCl [] s.heap := hP
  have hl := lv_entry ([.ref t, .int ch, .int fr]) (n := 3) (Nat.le_of_ble_eq_true rfl)
  rw [lg_entry_eq]
  generalize (lg_sl ([.ref t, .int ch, .int fr]) ++ List.replicate (3 - (lg_sl ([.ref t, .int ch, .int fr])).length) Slot.unset).toArray = ls at hl ⊢
  have hl : lv_has ls 3 [(0, .ref t), (1, .int ch), (2, .int fr)] := hl
  refine lv_aload_n hx hb dJs_indexOf2_0 rfl (lv_at hl 0 rfl) ?_
  refine ro_goi (v := 1) (va_runV (C := "java/lang/String") (As := []) (rest := []) ⟨hx, hb, hml, hown, hB⟩ (c_Js_isLatin1 l dC dI cI cJ cC ad t t_v t_n t_f t_h) ⟨callB_of 0 hB (big_self q1_182) rfl rfl rfl (hB _ q1_7) (hB _ q1_179) (by decide +kernel) ⟨Nat.le_of_ble_eq_true rfl, Nat.le_of_ble_eq_true rfl⟩, (hB _ q1_180), (hB _ q1_181)⟩ (ro_preV (GS_ok ad) hK hP hG hS [] rfl (gs_recv hS (t_h _ _ _ hG))) rfl rfl hl.1 rfl (lv_room (Nat.le_of_ble_eq_true rfl)) dJs_indexOf2_1 ⟨Nat.le_of_ble_eq_true rfl, Nat.le_of_ble_eq_true rfl⟩) ?_
  refine lv_if_eq (tgt := 23) hx hb dJs_indexOf2_4 (by decide) (fun q => absurd q (by decide)) (fun _ => ?_)
  refine lv_aload_n hx hb dJs_indexOf2_7 rfl (lv_at hl 0 rfl) ?_
  refine vk_getf (v := .ref t_v) hx hb (t_h _ _ _ hG).2.2.1 hS hown (hB _ q6_19) (fun _ h9 => h9) dJs_indexOf2_8 ?_
  refine lv_iload_n hx hb dJs_indexOf2_11 rfl (lv_at hl 1 rfl) ?_
  refine lv_iload_n hx hb dJs_indexOf2_12 rfl (lv_at hl 2 rfl) ?_
  refine lv_aload_n hx hb dJs_indexOf2_13 rfl (lv_at hl 0 rfl) ?_
  refine ro_goi (va_runV (C := "java/lang/String") (As := []) (rest := [.int fr, .int ch, .ref t_v]) ⟨hx, hb, hml, hown, hB⟩ (c_Js_length l dC dI cI cJ cC ad t t_v t_n t_f t_h) ⟨callB_of 0 hB (big_self q1_168) rfl rfl rfl (hB _ q1_7) (hB _ q2_21) (by decide +kernel) ⟨Nat.le_of_ble_eq_true rfl, Nat.le_of_ble_eq_true rfl⟩, (hB _ q1_166), (hB _ q1_167)⟩ (ro_preV (GS_ok ad) hK hP hG hS [] rfl (gs_recv hS (t_h _ _ _ hG))) rfl rfl hl.1 rfl (lv_room (Nat.le_of_ble_eq_true rfl)) dJs_indexOf2_14 ⟨Nat.le_of_ble_eq_true rfl, Nat.le_of_ble_eq_true rfl⟩) ?_
  refine ro_goi (va_runS (As := [.ref t_v, .int ch, .int fr, .int (f_Js_length t_n t_f)]) (rest := []) ⟨hx, hb, hml, hown, hB⟩ (c_Jl_indexOf l dC dI cI cJ cC ad t_v t_n t_f ch fr (f_Js_length t_n t_f) (fun A U H q => (t_h A U H q).2.2.2) (ix_len hf)) ⟨callB_of 4 hB (big_self q2_24) rfl rfl rfl (hB _ q1_8) (hB _ q2_22) (by decide +kernel) ⟨Nat.le_of_ble_eq_true rfl, Nat.le_of_ble_eq_true rfl⟩, (hB _ q2_23)⟩ (ro_preS (GS_ok ad) hK hP hG hS [] rfl) rfl rfl hl.1 rfl (lv_room (Nat.le_of_ble_eq_true rfl)) dJs_indexOf2_17 ⟨Nat.le_of_ble_eq_true rfl, Nat.le_of_ble_eq_true rfl⟩) ?_
  refine lv_goto (tgt := 36) hx hb dJs_indexOf2_20 (by decide) ?_
  exact ro_reti hx hb hr hlocks dJs_indexOf2_36 (Eq.symm (by rw [f_Js_indexOf2_eq] <;> rfl))

abbrev cJs_indexOf : ByteArray := prog_20_method_79_code
def yJs_indexOf : MethodName := ⟨"java/lang/String", "indexOf", "(I)I"⟩
def wsJs_indexOf : List Cond := Cond.code yJs_indexOf cJs_indexOf 2 (some .int) :: BIG
theorem dJs_indexOf_0 : decode cJs_indexOf 0 = .ok (.aload_n 0, 1) := by decide +kernel
theorem dJs_indexOf_1 : decode cJs_indexOf 1 = .ok (.iload_n 1, 1) := by decide +kernel
theorem dJs_indexOf_2 : decode cJs_indexOf 2 = .ok (.iconst 0, 1) := by decide +kernel
theorem dJs_indexOf_3 : decode cJs_indexOf 3 = .ok (.invokevirtual 633, 3) := by decide +kernel
theorem dJs_indexOf_6 : decode cJs_indexOf 6 = .ok (.ireturn, 1) := by decide +kernel

def f_Js_indexOf (t_n : Nat) (t_f : Nat → Int32) (ch : Int32) : Int32 :=
  f_Js_indexOf2 t_n t_f ch 0
theorem f_Js_indexOf_eq (t_n : Nat) (t_f : Nat → Int32) (ch : Int32) : f_Js_indexOf t_n t_f ch =
  f_Js_indexOf2 t_n t_f ch 0 := rfl

set_option maxHeartbeats 4000000 in
set_option maxRecDepth 100000 in
theorem c_Js_indexOf (l : Launch) (dC : Nat → ClassId) (dI : Nat → Nat → Nat) (cI cJ cC : ClassId) (ad : Nat → Nat) (t t_v : Nat) (t_n : Nat) (t_f : Nat → Int32) (ch : Int32) (t_h : ∀ (A : Nat → Prop) (U : State) (H : Heap), GS ad A U H → GStr t t_v t_n t_f A U H) (hf : t_n < 2147483648) : Met l yJs_indexOf wsJs_indexOf { frames := 3, cells := 0, slots := 0, locals := 70 } (roP dC dI (TYS cI cJ cC) [.ref t, .int ch] [] (GS ad)) (vp_Si (fun r => r = f_Js_indexOf t_n t_f ch)) 0 0 (fun _ => False) := by
  refine Met.ofW (cc := cJs_indexOf) (maxL := 2) (ret := (some .int)) (by decide) rfl ?_
  intro p e s m args below meth c s₁ B hml hv
  obtain ⟨rfl, hP, hK, hG⟩ := hv
  have hx := B.exec
  have hb := B.bytes
  have hr := B.returns
  have hB : ∀ w9 ∈ BIG, w9.before ([.ref t, .int ch]).toArray s = true := fun w9 h => atoms_spec (ws := wsJs_indexOf) B.pre w9 (List.mem_cons_of_mem _ h)
  have hown : s.vm.findClass "java/lang/String" = some m.cls := findClass_of_methodNamed B.named
  have hlocks := B.notSynchronized
  have hS : va_S (fun _ => False) s.heap s.heap [] := va_S.rf
  have hP : va_P (dC, dI) vwCl [] s.heap := hP
  have hl := lv_entry ([.ref t, .int ch]) (n := 2) (Nat.le_of_ble_eq_true rfl)
  rw [lg_entry_eq]
  generalize (lg_sl ([.ref t, .int ch]) ++ List.replicate (2 - (lg_sl ([.ref t, .int ch])).length) Slot.unset).toArray = ls at hl ⊢
  have hl : lv_has ls 2 [(0, .ref t), (1, .int ch)] := hl
  refine lv_aload_n hx hb dJs_indexOf_0 rfl (lv_at hl 0 rfl) ?_
  refine lv_iload_n hx hb dJs_indexOf_1 rfl (lv_at hl 1 rfl) ?_
  refine lv_iconst (v := 0) hx hb dJs_indexOf_2 (by decide) ?_
  refine ro_goi (va_runV (C := "java/lang/String") (As := [.int ch, .int 0]) (rest := []) ⟨hx, hb, hml, hown, hB⟩ (c_Js_indexOf2 l dC dI cI cJ cC ad t t_v t_n t_f ch 0 t_h (⟨rfl, hf⟩)) ⟨callB_of 2 hB (big_self q2_20) rfl rfl rfl (hB _ q1_7) (hB _ q2_17) (by decide +kernel) ⟨Nat.le_of_ble_eq_true rfl, Nat.le_of_ble_eq_true rfl⟩, (hB _ q2_18), (hB _ q2_19)⟩ (ro_preV (GS_ok ad) hK hP hG hS [] rfl (gs_recv hS (t_h _ _ _ hG))) rfl rfl hl.1 rfl (lv_room (Nat.le_of_ble_eq_true rfl)) dJs_indexOf_3 ⟨Nat.le_of_ble_eq_true rfl, Nat.le_of_ble_eq_true rfl⟩) ?_
  exact ro_reti hx hb hr hlocks dJs_indexOf_6 (Eq.symm (by rw [f_Js_indexOf_eq] <;> rfl))

theorem step_ge {a b c : Int32} (h : ¬ f_Mo_step a b c < 0) : 0 ≤ (f_Mo_step a b c).toInt ∧ (f_Mo_step a b c).toInt < 64 := by
  rcases step_in a b c with e | e
  · rw [e] at h; exact absurd (by decide) h
  · exact e
theorem sq_of {x : Int32} (h : 0 ≤ x.toInt ∧ x.toInt < 64) : ∃ j : Nat, j < 64 ∧ x = nI j := vp_in_of (vp_in_iff.mpr h) (by decide)
def okDir (f r : Int32) : Prop := (f = 0 ∨ f = 1 ∨ f = -1) ∧ (r = 0 ∨ r = 1 ∨ r = -1) ∧ ¬ (f = 0 ∧ r = 0)
/-- how many steps are left at most -/
def left8 (f r s : Int32) : Int := if s < 0 then 0 else if f = 1 then 8 - (s - s / 8 * 8).toInt else if f = -1 then (s - s / 8 * 8).toInt + 1 else if r = 1 then 8 - (s / 8).toInt else (s / 8).toInt + 1
theorem left8_all : ∀ j, j < 64 → (∀ f ∈ ([0, 1, -1] : List Int32), ∀ r ∈ ([0, 1, -1] : List Int32), (¬ (f = 0 ∧ r = 0)) → left8 f r (f_Mo_step (nI j) f r) + 1 ≤ left8 f r (nI j) ∧ 1 ≤ left8 f r (nI j) ∧ left8 f r (nI j) ≤ 8) := by decide +kernel
theorem left8_step {f r s : Int32} (hd : okDir f r) (hs : 0 ≤ s.toInt ∧ s.toInt < 64) : left8 f r (f_Mo_step s f r) + 1 ≤ left8 f r s ∧ 1 ≤ left8 f r s ∧ left8 f r s ≤ 8 := by
  obtain ⟨j, hj, rfl⟩ := sq_of hs
  obtain ⟨h1, h2, h3⟩ := hd
  exact left8_all j hj f (by rcases h1 with rfl | rfl | rfl <;> simp) r (by rcases h2 with rfl | rfl | rfl <;> simp) h3
theorem left8_neg {f r : Int32} : left8 f r (-1) = 0 := by unfold left8; rw [if_pos (by decide)]
theorem okDir_of : ∀ f ∈ ([-2, -1, 0, 1, 2] : List Int32), ∀ r ∈ ([-2, -1, 0, 1, 2] : List Int32), (f * f + r * r = 1 ∨ f * f + r * r = 2) → ((f = 0 ∨ f = 1 ∨ f = -1) ∧ (r = 0 ∨ r = 1 ∨ r = -1) ∧ ¬ (f = 0 ∧ r = 0)) := by decide +kernel
theorem five_of {x : Int32} (h : -2 ≤ x.toInt) (h2 : ¬ 2 < x) : x ∈ ([-2, -1, 0, 1, 2] : List Int32) := by
  have h3 := tnl h2
  have y2 : (2 : Int32).toInt = 2 := rfl
  have : x.toInt = -2 ∨ x.toInt = -1 ∨ x.toInt = 0 ∨ x.toInt = 1 ∨ x.toInt = 2 := by omega
  rcases this with e | e | e | e | e
  · rw [i_of (y := -2) e rfl]; simp
  · rw [i_of (y := -1) e rfl]; simp
  · rw [i_of (y := 0) e rfl]; simp
  · rw [i_of (y := 1) e rfl]; simp
  · rw [i_of (y := 2) e rfl]; simp
theorem pawn_two {sq k up sd : Int32} (hq : 0 ≤ sq.toInt ∧ sq.toInt < 64) (h1 : (sd = 0 ∧ up = 1) ∨ (¬ sd = 0 ∧ up = -1)) (h2 : (sd = 0 ∧ k = 1) ∨ (¬ sd = 0 ∧ k = 6)) (h3 : sq / 8 = k) : vp_in (f_Mo_step (f_Mo_step sq 0 up) 0 up) 64 := by
  obtain ⟨j, hj, rfl⟩ := sq_of hq
  have key : ∀ j, j < 64 → (nI j / 8 = 1 → ¬ (f_Mo_step (f_Mo_step (nI j) 0 1) 0 1 < 0)) ∧ (nI j / 8 = 6 → ¬ (f_Mo_step (f_Mo_step (nI j) 0 (-1)) 0 (-1) < 0)) := by decide +kernel
  rcases h1 with ⟨e, rfl⟩ | ⟨e, rfl⟩ <;> rcases h2 with ⟨e2, rfl⟩ | ⟨e2, rfl⟩
  · exact vp_in_iff.mpr (step_ge ((key j hj).1 h3))
  · exact absurd e e2
  · exact absurd e2 e
  · exact vp_in_iff.mpr (step_ge ((key j hj).2 h3))

abbrev cMo_walk : ByteArray := prog_11_method_8_code
def yMo_walk : MethodName := ⟨"ChessRulesModel", "walk", "(III)J"⟩
def wsMo_walk : List Cond := Cond.code yMo_walk cMo_walk 7 (some .long) :: BIG
theorem dMo_walk_0 : decode cMo_walk 0 = .ok (.lconst 0, 1) := by decide +kernel
theorem dMo_walk_1 : decode cMo_walk 1 = .ok (.lstore 4, 2) := by decide +kernel
theorem dMo_walk_3 : decode cMo_walk 3 = .ok (.iload_n 1, 1) := by decide +kernel
theorem dMo_walk_4 : decode cMo_walk 4 = .ok (.iload_n 2, 1) := by decide +kernel
theorem dMo_walk_5 : decode cMo_walk 5 = .ok (.iload_n 3, 1) := by decide +kernel
theorem dMo_walk_6 : decode cMo_walk 6 = .ok (.invokestatic 77, 3) := by decide +kernel
theorem dMo_walk_9 : decode cMo_walk 9 = .ok (.istore 6, 2) := by decide +kernel
theorem dMo_walk_11 : decode cMo_walk 11 = .ok (.iload 6, 2) := by decide +kernel
theorem dMo_walk_13 : decode cMo_walk 13 = .ok (.ifCond .lt 39, 3) := by decide +kernel
theorem dMo_walk_16 : decode cMo_walk 16 = .ok (.lload 4, 2) := by decide +kernel
theorem dMo_walk_18 : decode cMo_walk 18 = .ok (.iload 6, 2) := by decide +kernel
theorem dMo_walk_20 : decode cMo_walk 20 = .ok (.invokestatic 81, 3) := by decide +kernel
theorem dMo_walk_23 : decode cMo_walk 23 = .ok (.lor, 1) := by decide +kernel
theorem dMo_walk_24 : decode cMo_walk 24 = .ok (.lstore 4, 2) := by decide +kernel
theorem dMo_walk_26 : decode cMo_walk 26 = .ok (.aload_n 0, 1) := by decide +kernel
theorem dMo_walk_27 : decode cMo_walk 27 = .ok (.getfield 16, 3) := by decide +kernel
theorem dMo_walk_30 : decode cMo_walk 30 = .ok (.iload 6, 2) := by decide +kernel
theorem dMo_walk_32 : decode cMo_walk 32 = .ok (.iaload, 1) := by decide +kernel
theorem dMo_walk_33 : decode cMo_walk 33 = .ok (.ifCond .ne 13, 3) := by decide +kernel
theorem dMo_walk_36 : decode cMo_walk 36 = .ok (.iload 6, 2) := by decide +kernel
theorem dMo_walk_38 : decode cMo_walk 38 = .ok (.iload_n 2, 1) := by decide +kernel
theorem dMo_walk_39 : decode cMo_walk 39 = .ok (.iload_n 3, 1) := by decide +kernel
theorem dMo_walk_40 : decode cMo_walk 40 = .ok (.invokestatic 77, 3) := by decide +kernel
theorem dMo_walk_43 : decode cMo_walk 43 = .ok (.goto 4, 3) := by decide +kernel
theorem dMo_walk_46 : decode cMo_walk 46 = .ok (.iconst (-1), 1) := by decide +kernel
theorem dMo_walk_47 : decode cMo_walk 47 = .ok (.istore 6, 2) := by decide +kernel
theorem dMo_walk_49 : decode cMo_walk 49 = .ok (.goto (-38), 3) := by decide +kernel
theorem dMo_walk_52 : decode cMo_walk 52 = .ok (.lload 4, 2) := by decide +kernel
theorem dMo_walk_54 : decode cMo_walk 54 = .ok (.lreturn, 1) := by decide +kernel

def f_Mo_walk_11 (oS_men : Nat → Int32) (square : Int32) (files : Int32) (ranks : Int32) : Nat → Int64 → Int32 → Int64
  | 0 => fun _ _ => 0
  | n_11 + 1 => fun v4_11 v6_11 => (if v6_11 < 0 then v4_11 else (if (oS_men v6_11.toNatClampNeg) = 0 then (f_Mo_walk_11 oS_men square files ranks n_11) (v4_11 ||| (f_Mo_bit v6_11)) (f_Mo_step v6_11 files ranks) else (f_Mo_walk_11 oS_men square files ranks n_11) (v4_11 ||| (f_Mo_bit v6_11)) (-1)))
theorem f_Mo_walk_11_eq (oS_men : Nat → Int32) (square : Int32) (files : Int32) (ranks : Int32) (n_11 : Nat) (v4_11 : Int64) (v6_11 : Int32) : f_Mo_walk_11 oS_men square files ranks (n_11 + 1) v4_11 v6_11 =
  (if v6_11 < 0 then v4_11 else (if (oS_men v6_11.toNatClampNeg) = 0 then (f_Mo_walk_11 oS_men square files ranks n_11) (v4_11 ||| (f_Mo_bit v6_11)) (f_Mo_step v6_11 files ranks) else (f_Mo_walk_11 oS_men square files ranks n_11) (v4_11 ||| (f_Mo_bit v6_11)) (-1))) := rfl

def f_Mo_walk (oS_men : Nat → Int32) (square : Int32) (files : Int32) (ranks : Int32) : Int64 :=
  f_Mo_walk_11 oS_men square files ranks (9) 0 (f_Mo_step square files ranks)
theorem f_Mo_walk_eq (oS_men : Nat → Int32) (square : Int32) (files : Int32) (ranks : Int32) : f_Mo_walk oS_men square files ranks =
  f_Mo_walk_11 oS_men square files ranks (9) 0 (f_Mo_step square files ranks) := rfl

set_option maxHeartbeats 4000000 in
set_option maxRecDepth 100000 in
theorem c_Mo_walk (l : Launch) (dC : Nat → ClassId) (dI : Nat → Nat → Nat) (cI cJ cC : ClassId) (ad : Nat → Nat) (o o_text o_out o_men o_pastMen o_pastSide o_pastRights o_pastPassed o_pastClock o_pastNumber o_pastTakes o_playedMoves o_keptMen o_keptRest o_lists o_counts : Nat) (oS_thrown : Int32) (oS_typed : Int32) (oS_text : Nat → Int32) (oS_told : Int32) (oS_out : Nat → Int32) (oS_men : Nat → Int32) (oS_side : Int32) (oS_rights : Int32) (oS_passed : Int32) (oS_clock : Int32) (oS_number : Int32) (oS_plies : Int32) (oS_pastMen : Nat → Int32) (oS_pastSide : Nat → Int32) (oS_pastRights : Nat → Int32) (oS_pastPassed : Nat → Int32) (oS_pastClock : Nat → Int32) (oS_pastNumber : Nat → Int32) (oS_pastTakes : Nat → Int64) (oS_playedMoves : Nat → Int32) (oS_keptMen : Nat → Int32) (oS_keptRest : Nat → Int32) (oS_lists : Nat → Int32) (oS_counts : Nat → Int32) (square : Int32) (files : Int32) (ranks : Int32) (hq : 0 ≤ square.toInt ∧ square.toInt < 64) (hd : okDir files ranks) : Met l yMo_walk wsMo_walk { frames := 2, cells := 0, slots := 0, locals := 45 } (roP dC dI (TYS cI cJ cC) [.ref o, .int square, .int files, .int ranks] [(o, .inr (6, [.int oS_thrown, .int oS_typed, .ref o_text, .int oS_told, .ref o_out, .ref o_men, .int oS_side, .int oS_rights, .int oS_passed, .int oS_clock, .int oS_number, .int oS_plies, .ref o_pastMen, .ref o_pastSide, .ref o_pastRights, .ref o_pastPassed, .ref o_pastClock, .ref o_pastNumber, .ref o_pastTakes, .ref o_playedMoves, .ref o_keptMen, .ref o_keptRest, .ref o_lists, .ref o_counts])), (o_text, .inl (cC, 100, .inl oS_text)), (o_out, .inl (cC, 100, .inl oS_out)), (o_men, .inl (cI, 64, .inl oS_men)), (o_pastMen, .inl (cI, 25664, .inl oS_pastMen)), (o_pastSide, .inl (cI, 401, .inl oS_pastSide)), (o_pastRights, .inl (cI, 401, .inl oS_pastRights)), (o_pastPassed, .inl (cI, 401, .inl oS_pastPassed)), (o_pastClock, .inl (cI, 401, .inl oS_pastClock)), (o_pastNumber, .inl (cI, 401, .inl oS_pastNumber)), (o_pastTakes, .inl (cJ, 401, .inr (.inl oS_pastTakes))), (o_playedMoves, .inl (cI, 400, .inl oS_playedMoves)), (o_keptMen, .inl (cI, 384, .inl oS_keptMen)), (o_keptRest, .inl (cI, 30, .inl oS_keptRest)), (o_lists, .inl (cI, 8192, .inl oS_lists)), (o_counts, .inl (cI, 4, .inl oS_counts))] (GS ad)) (vp_Sl (fun r => r = f_Mo_walk oS_men square files ranks)) 0 0 (fun _ => False) := by
  refine Met.ofW (cc := cMo_walk) (maxL := 7) (ret := (some .long)) (by decide) rfl ?_
  intro p e s m args below meth c s₁ B hml hv
  obtain ⟨rfl, hP, hK, hG⟩ := hv
  have hx := B.exec
  have hb := B.bytes
  have hr := B.returns
  have hB : ∀ w9 ∈ BIG, w9.before ([.ref o, .int square, .int files, .int ranks]).toArray s = true := fun w9 h => atoms_spec (ws := wsMo_walk) B.pre w9 (List.mem_cons_of_mem _ h)
  have hown : s.vm.findClass "ChessRulesModel" = some m.cls := findClass_of_methodNamed B.named
  have hlocks := B.notSynchronized
  have hS : va_S (fun _ => False) s.heap s.heap [] := va_S.rf
  have hP : va_P (dC, dI) vwCl [(o, .inr (6, [.int oS_thrown, .int oS_typed, .ref o_text, .int oS_told, .ref o_out, .ref o_men, .int oS_side, .int oS_rights, .int oS_passed, .int oS_clock, .int oS_number, .int oS_plies, .ref o_pastMen, .ref o_pastSide, .ref o_pastRights, .ref o_pastPassed, .ref o_pastClock, .ref o_pastNumber, .ref o_pastTakes, .ref o_playedMoves, .ref o_keptMen, .ref o_keptRest, .ref o_lists, .ref o_counts])), (o_text, .inl (cC, 100, .inl oS_text)), (o_out, .inl (cC, 100, .inl oS_out)), (o_men, .inl (cI, 64, .inl oS_men)), (o_pastMen, .inl (cI, 25664, .inl oS_pastMen)), (o_pastSide, .inl (cI, 401, .inl oS_pastSide)), (o_pastRights, .inl (cI, 401, .inl oS_pastRights)), (o_pastPassed, .inl (cI, 401, .inl oS_pastPassed)), (o_pastClock, .inl (cI, 401, .inl oS_pastClock)), (o_pastNumber, .inl (cI, 401, .inl oS_pastNumber)), (o_pastTakes, .inl (cJ, 401, .inr (.inl oS_pastTakes))), (o_playedMoves, .inl (cI, 400, .inl oS_playedMoves)), (o_keptMen, .inl (cI, 384, .inl oS_keptMen)), (o_keptRest, .inl (cI, 30, .inl oS_keptRest)), (o_lists, .inl (cI, 8192, .inl oS_lists)), (o_counts, .inl (cI, 4, .inl oS_counts))] s.heap := hP
  have hl := lv_entry ([.ref o, .int square, .int files, .int ranks]) (n := 7) (Nat.le_of_ble_eq_true rfl)
  rw [lg_entry_eq]
  generalize (lg_sl ([.ref o, .int square, .int files, .int ranks]) ++ List.replicate (7 - (lg_sl ([.ref o, .int square, .int files, .int ranks])).length) Slot.unset).toArray = ls at hl ⊢
  have hl : lv_has ls 7 [(0, .ref o), (1, .int square), (2, .int files), (3, .int ranks)] := hl
  refine lv_lconst (v := 0) hx hb dMo_walk_0 (by decide) ?_
  refine lv_lstore (lv' := [(4, .long 0), (0, .ref o), (1, .int square), (2, .int files), (3, .int ranks)]) hx hb dMo_walk_1 hl (by decide) rfl (fun ls hl => ?_)
  refine lv_iload_n hx hb dMo_walk_3 rfl (lv_at hl 2 rfl) ?_
  refine lv_iload_n hx hb dMo_walk_4 rfl (lv_at hl 3 rfl) ?_
  refine lv_iload_n hx hb dMo_walk_5 rfl (lv_at hl 4 rfl) ?_
  refine ro_goi (va_runS (As := [.int square, .int files, .int ranks]) (rest := []) ⟨hx, hb, hml, hown, hB⟩ (c_Mo_step l dC dI cI cJ cC ad square files ranks) ⟨callB_of 3 hB (big_self q4_205) rfl rfl rfl (hB _ q1_15) (hB _ q4_203) (by decide +kernel) ⟨Nat.le_of_ble_eq_true rfl, Nat.le_of_ble_eq_true rfl⟩, (hB _ q4_204)⟩ (ro_preS (GS_ok ad) hK hP hG hS [] rfl) rfl rfl hl.1 rfl (lv_room (Nat.le_of_ble_eq_true rfl)) dMo_walk_6 ⟨Nat.le_of_ble_eq_true rfl, Nat.le_of_ble_eq_true rfl⟩) ?_
  refine lv_istore (lv' := [(6, .int (f_Mo_step square files ranks)), (4, .long 0), (0, .ref o), (1, .int square), (2, .int files), (3, .int ranks)]) hx hb dMo_walk_9 hl (by decide) rfl (fun ls hl => ?_)
  have J_11 : ∀ (n_11 : Nat) (v4_11 : Int64) (v6_11 : Int32), f_Mo_walk oS_men square files ranks = f_Mo_walk_11 oS_men square files ranks n_11 v4_11 v6_11 → ((v6_11 = -1 ∨ (0 ≤ v6_11.toInt ∧ v6_11.toInt < 64)) ∧ left8 files ranks v6_11 + 1 ≤ (n_11 : Int) ∧ (1 : Int) ≤ (n_11 : Int)) → ∀ ls : Array Slot, lv_has ls 7 [(0, .ref o), (2, .int files), (3, .int ranks), (4, .long v4_11), (6, .int v6_11)] → W p l e (headSpec wsMo_walk { frames := 2, cells := 0, slots := 0, locals := 45 }).room s m ([.ref o, .int square, .int files, .int ranks]).toArray below meth c s.heap [] 0 0 (MQ below (vp_Sl (fun r => r = f_Mo_walk oS_men square files ranks)) ([.ref o, .int square, .int files, .int ranks]).toArray s 0 0 (fun _ => False)) (F0 m 11 ls []) := by
    intro n_11
    induction n_11 with
    | zero => intro v4_11 v6_11 _ hm_11; exact absurd hm_11 (by omega)
    | succ n_11 ih_11 =>
      intro v4_11 v6_11 he_11 hm_11 ls hl
      refine lv_iload hx hb dMo_walk_11 (lv_at hl 4 rfl) ?_
      refine lv_if_lt (tgt := 52) hx hb dMo_walk_13 (by decide) (fun c_1 => ?_) (fun c_1 => ?_)
      · refine lv_lload hx hb dMo_walk_52 (lv_at hl 3 rfl) ?_
        exact ro_retl hx hb hr hlocks dMo_walk_54 (Eq.symm (he_11.trans (by rw [f_Mo_walk_11_eq, if_pos c_1] <;> rfl)))
      · refine lv_lload hx hb dMo_walk_16 (lv_at hl 3 rfl) ?_
        refine lv_iload hx hb dMo_walk_18 (lv_at hl 4 rfl) ?_
        refine ro_gol (va_runS (As := [.int v6_11]) (rest := [.long v4_11]) ⟨hx, hb, hml, hown, hB⟩ (c_Mo_bit l dC dI cI cJ cC ad v6_11) ⟨callB_of 1 hB (big_self q4_211) rfl rfl rfl (hB _ q1_15) (hB _ q4_209) (by decide +kernel) ⟨Nat.le_of_ble_eq_true rfl, Nat.le_of_ble_eq_true rfl⟩, (hB _ q4_210)⟩ (ro_preS (GS_ok ad) hK hP hG hS [] rfl) rfl rfl hl.1 rfl (lv_room (Nat.le_of_ble_eq_true rfl)) dMo_walk_20 ⟨Nat.le_of_ble_eq_true rfl, Nat.le_of_ble_eq_true rfl⟩) ?_
        refine lv_lor hx hb dMo_walk_23 ?_
        refine lv_lstore (lv' := [(4, .long (v4_11 ||| (f_Mo_bit v6_11))), (0, .ref o), (2, .int files), (3, .int ranks), (6, .int v6_11)]) hx hb dMo_walk_24 hl (by decide) rfl (fun ls hl => ?_)
        refine lv_aload_n hx hb dMo_walk_26 rfl (lv_at hl 1 rfl) ?_
        refine va_get (D := (dC, dI)) (ci := 6) (v := .ref o_men) (C := RMo) (T := TMo) (N := 24) hx hb hB inMo hown hK hP 0 rfl rfl 5 (by decide) (hB _ q5_16) (fun _ h9 => h9) rfl dMo_walk_27 ?_
        refine lv_iload hx hb dMo_walk_30 (lv_at hl 4 rfl) ?_
        refine va_iald hx hb hK hP 3 0 rfl rfl (vp_in_iff.mpr (hm_11.1.elim (fun e => absurd (tnl c_1) (by rw [e]; decide)) id)) dMo_walk_32 ?_
        refine lv_if_ne (tgt := 46) hx hb dMo_walk_33 (by decide) (fun c_2 => ?_) (fun c_2 => ?_)
        · refine lv_iconst (v := (-1)) hx hb dMo_walk_46 (by decide) ?_
          refine lv_istore (lv' := [(6, .int (-1)), (4, .long (v4_11 ||| (f_Mo_bit v6_11))), (0, .ref o), (2, .int files), (3, .int ranks)]) hx hb dMo_walk_47 hl (by decide) rfl (fun ls hl => ?_)
          refine lv_goto (tgt := 11) hx hb dMo_walk_49 (by decide) ?_
          exact ih_11 (v4_11 ||| (f_Mo_bit v6_11)) (-1) (he_11.trans (by rw [f_Mo_walk_11_eq, if_neg c_1, if_neg c_2] <;> rfl)) (by first | exact ⟨step_in _ _ _, by have q0 := tnl c_1; have y0 : (0 : Int32).toInt = 0 := rfl; have := left8_step hd (s := v6_11) (hm_11.1.elim (fun e => absurd q0 (by rw [e]; decide)) id); omega, by have q0 := tnl c_1; have := left8_step hd (s := v6_11) (hm_11.1.elim (fun e => absurd q0 (by rw [e]; decide)) id); omega⟩ | exact ⟨Or.inl rfl, by rw [left8_neg]; have q0 := tnl c_1; have := left8_step hd (s := v6_11) (hm_11.1.elim (fun e => absurd q0 (by rw [e]; decide)) id); omega, by have q0 := tnl c_1; have := left8_step hd (s := v6_11) (hm_11.1.elim (fun e => absurd q0 (by rw [e]; decide)) id); omega⟩) ls (lv_sub hl [2, 3, 4, 1, 0] rfl)
        · refine lv_iload hx hb dMo_walk_36 (lv_at hl 4 rfl) ?_
          refine lv_iload_n hx hb dMo_walk_38 rfl (lv_at hl 2 rfl) ?_
          refine lv_iload_n hx hb dMo_walk_39 rfl (lv_at hl 3 rfl) ?_
          refine ro_goi (va_runS (As := [.int v6_11, .int files, .int ranks]) (rest := []) ⟨hx, hb, hml, hown, hB⟩ (c_Mo_step l dC dI cI cJ cC ad v6_11 files ranks) ⟨callB_of 3 hB (big_self q4_205) rfl rfl rfl (hB _ q1_15) (hB _ q4_203) (by decide +kernel) ⟨Nat.le_of_ble_eq_true rfl, Nat.le_of_ble_eq_true rfl⟩, (hB _ q4_204)⟩ (ro_preS (GS_ok ad) hK hP hG hS [] rfl) rfl rfl hl.1 rfl (lv_room (Nat.le_of_ble_eq_true rfl)) dMo_walk_40 ⟨Nat.le_of_ble_eq_true rfl, Nat.le_of_ble_eq_true rfl⟩) ?_
          refine lv_goto (tgt := 47) hx hb dMo_walk_43 (by decide) ?_
          refine lv_istore (lv' := [(6, .int (f_Mo_step v6_11 files ranks)), (4, .long (v4_11 ||| (f_Mo_bit v6_11))), (0, .ref o), (2, .int files), (3, .int ranks)]) hx hb dMo_walk_47 hl (by decide) rfl (fun ls hl => ?_)
          refine lv_goto (tgt := 11) hx hb dMo_walk_49 (by decide) ?_
          exact ih_11 (v4_11 ||| (f_Mo_bit v6_11)) (f_Mo_step v6_11 files ranks) (he_11.trans (by rw [f_Mo_walk_11_eq, if_neg c_1, if_pos c_2] <;> rfl)) (by first | exact ⟨step_in _ _ _, by have q0 := tnl c_1; have y0 : (0 : Int32).toInt = 0 := rfl; have := left8_step hd (s := v6_11) (hm_11.1.elim (fun e => absurd q0 (by rw [e]; decide)) id); omega, by have q0 := tnl c_1; have := left8_step hd (s := v6_11) (hm_11.1.elim (fun e => absurd q0 (by rw [e]; decide)) id); omega⟩ | exact ⟨Or.inl rfl, by rw [left8_neg]; have q0 := tnl c_1; have := left8_step hd (s := v6_11) (hm_11.1.elim (fun e => absurd q0 (by rw [e]; decide)) id); omega, by have q0 := tnl c_1; have := left8_step hd (s := v6_11) (hm_11.1.elim (fun e => absurd q0 (by rw [e]; decide)) id); omega⟩) ls (lv_sub hl [2, 3, 4, 1, 0] rfl)
  exact J_11 (9) 0 (f_Mo_step square files ranks) (by rw [f_Mo_walk_eq] <;> rfl) (⟨step_in _ _ _, by have := left8_step hd hq; omega, by decide⟩) ls (lv_sub hl [2, 4, 5, 1, 0] rfl)

abbrev cMo_attacked : ByteArray := prog_11_method_9_code
def yMo_attacked : MethodName := ⟨"ChessRulesModel", "attacked", "(I)J"⟩
def wsMo_attacked : List Cond := Cond.code yMo_attacked cMo_attacked 9 (some .long) :: BIG
theorem dMo_attacked_0 : decode cMo_attacked 0 = .ok (.aload_n 0, 1) := by decide +kernel
theorem dMo_attacked_1 : decode cMo_attacked 1 = .ok (.getfield 16, 3) := by decide +kernel
theorem dMo_attacked_4 : decode cMo_attacked 4 = .ok (.iload_n 1, 1) := by decide +kernel
theorem dMo_attacked_5 : decode cMo_attacked 5 = .ok (.iaload, 1) := by decide +kernel
theorem dMo_attacked_6 : decode cMo_attacked 6 = .ok (.invokestatic 85, 3) := by decide +kernel
theorem dMo_attacked_9 : decode cMo_attacked 9 = .ok (.istore_n 2, 1) := by decide +kernel
theorem dMo_attacked_10 : decode cMo_attacked 10 = .ok (.aload_n 0, 1) := by decide +kernel
theorem dMo_attacked_11 : decode cMo_attacked 11 = .ok (.getfield 16, 3) := by decide +kernel
theorem dMo_attacked_14 : decode cMo_attacked 14 = .ok (.iload_n 1, 1) := by decide +kernel
theorem dMo_attacked_15 : decode cMo_attacked 15 = .ok (.iaload, 1) := by decide +kernel
theorem dMo_attacked_16 : decode cMo_attacked 16 = .ok (.bipush 8, 2) := by decide +kernel
theorem dMo_attacked_18 : decode cMo_attacked 18 = .ok (.if_icmp .ge 7, 3) := by decide +kernel
theorem dMo_attacked_21 : decode cMo_attacked 21 = .ok (.iconst 1, 1) := by decide +kernel
theorem dMo_attacked_22 : decode cMo_attacked 22 = .ok (.goto 4, 3) := by decide +kernel
theorem dMo_attacked_25 : decode cMo_attacked 25 = .ok (.iconst (-1), 1) := by decide +kernel
theorem dMo_attacked_26 : decode cMo_attacked 26 = .ok (.istore_n 3, 1) := by decide +kernel
theorem dMo_attacked_27 : decode cMo_attacked 27 = .ok (.iload_n 2, 1) := by decide +kernel
theorem dMo_attacked_28 : decode cMo_attacked 28 = .ok (.iconst 1, 1) := by decide +kernel
theorem dMo_attacked_29 : decode cMo_attacked 29 = .ok (.if_icmp .ne 23, 3) := by decide +kernel
theorem dMo_attacked_32 : decode cMo_attacked 32 = .ok (.iload_n 1, 1) := by decide +kernel
theorem dMo_attacked_33 : decode cMo_attacked 33 = .ok (.iconst (-1), 1) := by decide +kernel
theorem dMo_attacked_34 : decode cMo_attacked 34 = .ok (.iload_n 3, 1) := by decide +kernel
theorem dMo_attacked_35 : decode cMo_attacked 35 = .ok (.invokestatic 77, 3) := by decide +kernel
theorem dMo_attacked_38 : decode cMo_attacked 38 = .ok (.invokestatic 81, 3) := by decide +kernel
theorem dMo_attacked_41 : decode cMo_attacked 41 = .ok (.iload_n 1, 1) := by decide +kernel
theorem dMo_attacked_42 : decode cMo_attacked 42 = .ok (.iconst 1, 1) := by decide +kernel
theorem dMo_attacked_43 : decode cMo_attacked 43 = .ok (.iload_n 3, 1) := by decide +kernel
theorem dMo_attacked_44 : decode cMo_attacked 44 = .ok (.invokestatic 77, 3) := by decide +kernel
theorem dMo_attacked_47 : decode cMo_attacked 47 = .ok (.invokestatic 81, 3) := by decide +kernel
theorem dMo_attacked_50 : decode cMo_attacked 50 = .ok (.lor, 1) := by decide +kernel
theorem dMo_attacked_51 : decode cMo_attacked 51 = .ok (.lreturn, 1) := by decide +kernel
theorem dMo_attacked_52 : decode cMo_attacked 52 = .ok (.lconst 0, 1) := by decide +kernel
theorem dMo_attacked_53 : decode cMo_attacked 53 = .ok (.lstore 4, 2) := by decide +kernel
theorem dMo_attacked_55 : decode cMo_attacked 55 = .ok (.bipush (-2), 2) := by decide +kernel
theorem dMo_attacked_57 : decode cMo_attacked 57 = .ok (.istore 6, 2) := by decide +kernel
theorem dMo_attacked_59 : decode cMo_attacked 59 = .ok (.iload 6, 2) := by decide +kernel
theorem dMo_attacked_61 : decode cMo_attacked 61 = .ok (.iconst 2, 1) := by decide +kernel
theorem dMo_attacked_62 : decode cMo_attacked 62 = .ok (.if_icmp .gt 129, 3) := by decide +kernel
theorem dMo_attacked_65 : decode cMo_attacked 65 = .ok (.bipush (-2), 2) := by decide +kernel
theorem dMo_attacked_67 : decode cMo_attacked 67 = .ok (.istore 7, 2) := by decide +kernel
theorem dMo_attacked_69 : decode cMo_attacked 69 = .ok (.iload 7, 2) := by decide +kernel
theorem dMo_attacked_71 : decode cMo_attacked 71 = .ok (.iconst 2, 1) := by decide +kernel
theorem dMo_attacked_72 : decode cMo_attacked 72 = .ok (.if_icmp .gt 113, 3) := by decide +kernel
theorem dMo_attacked_75 : decode cMo_attacked 75 = .ok (.iload 6, 2) := by decide +kernel
theorem dMo_attacked_77 : decode cMo_attacked 77 = .ok (.iload 6, 2) := by decide +kernel
theorem dMo_attacked_79 : decode cMo_attacked 79 = .ok (.imul, 1) := by decide +kernel
theorem dMo_attacked_80 : decode cMo_attacked 80 = .ok (.iload 7, 2) := by decide +kernel
theorem dMo_attacked_82 : decode cMo_attacked 82 = .ok (.iload 7, 2) := by decide +kernel
theorem dMo_attacked_84 : decode cMo_attacked 84 = .ok (.imul, 1) := by decide +kernel
theorem dMo_attacked_85 : decode cMo_attacked 85 = .ok (.iadd, 1) := by decide +kernel
theorem dMo_attacked_86 : decode cMo_attacked 86 = .ok (.istore 8, 2) := by decide +kernel
theorem dMo_attacked_88 : decode cMo_attacked 88 = .ok (.iload_n 2, 1) := by decide +kernel
theorem dMo_attacked_89 : decode cMo_attacked 89 = .ok (.iconst 2, 1) := by decide +kernel
theorem dMo_attacked_90 : decode cMo_attacked 90 = .ok (.if_icmp .ne 9, 3) := by decide +kernel
theorem dMo_attacked_93 : decode cMo_attacked 93 = .ok (.iload 8, 2) := by decide +kernel
theorem dMo_attacked_95 : decode cMo_attacked 95 = .ok (.iconst 5, 1) := by decide +kernel
theorem dMo_attacked_96 : decode cMo_attacked 96 = .ok (.if_icmp .eq 21, 3) := by decide +kernel
theorem dMo_attacked_99 : decode cMo_attacked 99 = .ok (.iload_n 2, 1) := by decide +kernel
theorem dMo_attacked_100 : decode cMo_attacked 100 = .ok (.bipush 6, 2) := by decide +kernel
theorem dMo_attacked_102 : decode cMo_attacked 102 = .ok (.if_icmp .ne 31, 3) := by decide +kernel
theorem dMo_attacked_105 : decode cMo_attacked 105 = .ok (.iload 8, 2) := by decide +kernel
theorem dMo_attacked_107 : decode cMo_attacked 107 = .ok (.iconst 1, 1) := by decide +kernel
theorem dMo_attacked_108 : decode cMo_attacked 108 = .ok (.if_icmp .eq 9, 3) := by decide +kernel
theorem dMo_attacked_111 : decode cMo_attacked 111 = .ok (.iload 8, 2) := by decide +kernel
theorem dMo_attacked_113 : decode cMo_attacked 113 = .ok (.iconst 2, 1) := by decide +kernel
theorem dMo_attacked_114 : decode cMo_attacked 114 = .ok (.if_icmp .ne 19, 3) := by decide +kernel
theorem dMo_attacked_117 : decode cMo_attacked 117 = .ok (.lload 4, 2) := by decide +kernel
theorem dMo_attacked_119 : decode cMo_attacked 119 = .ok (.iload_n 1, 1) := by decide +kernel
theorem dMo_attacked_120 : decode cMo_attacked 120 = .ok (.iload 6, 2) := by decide +kernel
theorem dMo_attacked_122 : decode cMo_attacked 122 = .ok (.iload 7, 2) := by decide +kernel
theorem dMo_attacked_124 : decode cMo_attacked 124 = .ok (.invokestatic 77, 3) := by decide +kernel
theorem dMo_attacked_127 : decode cMo_attacked 127 = .ok (.invokestatic 81, 3) := by decide +kernel
theorem dMo_attacked_130 : decode cMo_attacked 130 = .ok (.lor, 1) := by decide +kernel
theorem dMo_attacked_131 : decode cMo_attacked 131 = .ok (.lstore 4, 2) := by decide +kernel
theorem dMo_attacked_133 : decode cMo_attacked 133 = .ok (.iload 8, 2) := by decide +kernel
theorem dMo_attacked_135 : decode cMo_attacked 135 = .ok (.iconst 1, 1) := by decide +kernel
theorem dMo_attacked_136 : decode cMo_attacked 136 = .ok (.if_icmp .ne 13, 3) := by decide +kernel
theorem dMo_attacked_139 : decode cMo_attacked 139 = .ok (.iload_n 2, 1) := by decide +kernel
theorem dMo_attacked_140 : decode cMo_attacked 140 = .ok (.iconst 4, 1) := by decide +kernel
theorem dMo_attacked_141 : decode cMo_attacked 141 = .ok (.if_icmp .eq 24, 3) := by decide +kernel
theorem dMo_attacked_144 : decode cMo_attacked 144 = .ok (.iload_n 2, 1) := by decide +kernel
theorem dMo_attacked_145 : decode cMo_attacked 145 = .ok (.iconst 5, 1) := by decide +kernel
theorem dMo_attacked_146 : decode cMo_attacked 146 = .ok (.if_icmp .eq 19, 3) := by decide +kernel
theorem dMo_attacked_149 : decode cMo_attacked 149 = .ok (.iload 8, 2) := by decide +kernel
theorem dMo_attacked_151 : decode cMo_attacked 151 = .ok (.iconst 2, 1) := by decide +kernel
theorem dMo_attacked_152 : decode cMo_attacked 152 = .ok (.if_icmp .ne 27, 3) := by decide +kernel
theorem dMo_attacked_155 : decode cMo_attacked 155 = .ok (.iload_n 2, 1) := by decide +kernel
theorem dMo_attacked_156 : decode cMo_attacked 156 = .ok (.iconst 3, 1) := by decide +kernel
theorem dMo_attacked_157 : decode cMo_attacked 157 = .ok (.if_icmp .eq 8, 3) := by decide +kernel
theorem dMo_attacked_160 : decode cMo_attacked 160 = .ok (.iload_n 2, 1) := by decide +kernel
theorem dMo_attacked_161 : decode cMo_attacked 161 = .ok (.iconst 5, 1) := by decide +kernel
theorem dMo_attacked_162 : decode cMo_attacked 162 = .ok (.if_icmp .ne 17, 3) := by decide +kernel
theorem dMo_attacked_165 : decode cMo_attacked 165 = .ok (.lload 4, 2) := by decide +kernel
theorem dMo_attacked_167 : decode cMo_attacked 167 = .ok (.aload_n 0, 1) := by decide +kernel
theorem dMo_attacked_168 : decode cMo_attacked 168 = .ok (.iload_n 1, 1) := by decide +kernel
theorem dMo_attacked_169 : decode cMo_attacked 169 = .ok (.iload 6, 2) := by decide +kernel
theorem dMo_attacked_171 : decode cMo_attacked 171 = .ok (.iload 7, 2) := by decide +kernel
theorem dMo_attacked_173 : decode cMo_attacked 173 = .ok (.invokevirtual 89, 3) := by decide +kernel
theorem dMo_attacked_176 : decode cMo_attacked 176 = .ok (.lor, 1) := by decide +kernel
theorem dMo_attacked_177 : decode cMo_attacked 177 = .ok (.lstore 4, 2) := by decide +kernel
theorem dMo_attacked_179 : decode cMo_attacked 179 = .ok (.iinc 7 1, 3) := by decide +kernel
theorem dMo_attacked_182 : decode cMo_attacked 182 = .ok (.goto (-113), 3) := by decide +kernel
theorem dMo_attacked_185 : decode cMo_attacked 185 = .ok (.iinc 6 1, 3) := by decide +kernel
theorem dMo_attacked_188 : decode cMo_attacked 188 = .ok (.goto (-129), 3) := by decide +kernel
theorem dMo_attacked_191 : decode cMo_attacked 191 = .ok (.lload 4, 2) := by decide +kernel
theorem dMo_attacked_193 : decode cMo_attacked 193 = .ok (.lreturn, 1) := by decide +kernel

def f_Mo_attacked_165 (r_59 : Int64 → Int32 → Int64) (r_69 : Int64 → Int32 → Int64) (oS_men : Nat → Int32) (square : Int32) (k0_26 : Int32) (v4_59 : Int64) (v6_59 : Int32) (v4_69 : Int64) (v7_69 : Int32) (v4_133 : Int64) : Int64 :=
  r_69 (v4_133 ||| (f_Mo_walk oS_men square v6_59 v7_69)) (v7_69 + 1)
theorem f_Mo_attacked_165_eq (r_59 : Int64 → Int32 → Int64) (r_69 : Int64 → Int32 → Int64) (oS_men : Nat → Int32) (square : Int32) (k0_26 : Int32) (v4_59 : Int64) (v6_59 : Int32) (v4_69 : Int64) (v7_69 : Int32) (v4_133 : Int64) : f_Mo_attacked_165 r_59 r_69 oS_men square k0_26 v4_59 v6_59 v4_69 v7_69 v4_133 =
  r_69 (v4_133 ||| (f_Mo_walk oS_men square v6_59 v7_69)) (v7_69 + 1) := rfl

def f_Mo_attacked_149 (r_59 : Int64 → Int32 → Int64) (r_69 : Int64 → Int32 → Int64) (oS_men : Nat → Int32) (square : Int32) (k0_26 : Int32) (v4_59 : Int64) (v6_59 : Int32) (v4_69 : Int64) (v7_69 : Int32) (v4_133 : Int64) : Int64 :=
  (if ((v6_59 * v6_59) + (v7_69 * v7_69)) = 2 then (if (f_Mo_kind (oS_men square.toNatClampNeg)) = 3 then f_Mo_attacked_165 r_59 r_69 oS_men square k0_26 v4_59 v6_59 v4_69 v7_69 v4_133 else (if (f_Mo_kind (oS_men square.toNatClampNeg)) = 5 then f_Mo_attacked_165 r_59 r_69 oS_men square k0_26 v4_59 v6_59 v4_69 v7_69 v4_133 else r_69 v4_133 (v7_69 + 1))) else r_69 v4_133 (v7_69 + 1))
theorem f_Mo_attacked_149_eq (r_59 : Int64 → Int32 → Int64) (r_69 : Int64 → Int32 → Int64) (oS_men : Nat → Int32) (square : Int32) (k0_26 : Int32) (v4_59 : Int64) (v6_59 : Int32) (v4_69 : Int64) (v7_69 : Int32) (v4_133 : Int64) : f_Mo_attacked_149 r_59 r_69 oS_men square k0_26 v4_59 v6_59 v4_69 v7_69 v4_133 =
  (if ((v6_59 * v6_59) + (v7_69 * v7_69)) = 2 then (if (f_Mo_kind (oS_men square.toNatClampNeg)) = 3 then f_Mo_attacked_165 r_59 r_69 oS_men square k0_26 v4_59 v6_59 v4_69 v7_69 v4_133 else (if (f_Mo_kind (oS_men square.toNatClampNeg)) = 5 then f_Mo_attacked_165 r_59 r_69 oS_men square k0_26 v4_59 v6_59 v4_69 v7_69 v4_133 else r_69 v4_133 (v7_69 + 1))) else r_69 v4_133 (v7_69 + 1)) := rfl

def f_Mo_attacked_133 (r_59 : Int64 → Int32 → Int64) (r_69 : Int64 → Int32 → Int64) (oS_men : Nat → Int32) (square : Int32) (k0_26 : Int32) (v4_59 : Int64) (v6_59 : Int32) (v4_69 : Int64) (v7_69 : Int32) (v4_133 : Int64) : Int64 :=
  (if ((v6_59 * v6_59) + (v7_69 * v7_69)) = 1 then (if (f_Mo_kind (oS_men square.toNatClampNeg)) = 4 then f_Mo_attacked_165 r_59 r_69 oS_men square k0_26 v4_59 v6_59 v4_69 v7_69 v4_133 else (if (f_Mo_kind (oS_men square.toNatClampNeg)) = 5 then f_Mo_attacked_165 r_59 r_69 oS_men square k0_26 v4_59 v6_59 v4_69 v7_69 v4_133 else f_Mo_attacked_149 r_59 r_69 oS_men square k0_26 v4_59 v6_59 v4_69 v7_69 v4_133)) else f_Mo_attacked_149 r_59 r_69 oS_men square k0_26 v4_59 v6_59 v4_69 v7_69 v4_133)
theorem f_Mo_attacked_133_eq (r_59 : Int64 → Int32 → Int64) (r_69 : Int64 → Int32 → Int64) (oS_men : Nat → Int32) (square : Int32) (k0_26 : Int32) (v4_59 : Int64) (v6_59 : Int32) (v4_69 : Int64) (v7_69 : Int32) (v4_133 : Int64) : f_Mo_attacked_133 r_59 r_69 oS_men square k0_26 v4_59 v6_59 v4_69 v7_69 v4_133 =
  (if ((v6_59 * v6_59) + (v7_69 * v7_69)) = 1 then (if (f_Mo_kind (oS_men square.toNatClampNeg)) = 4 then f_Mo_attacked_165 r_59 r_69 oS_men square k0_26 v4_59 v6_59 v4_69 v7_69 v4_133 else (if (f_Mo_kind (oS_men square.toNatClampNeg)) = 5 then f_Mo_attacked_165 r_59 r_69 oS_men square k0_26 v4_59 v6_59 v4_69 v7_69 v4_133 else f_Mo_attacked_149 r_59 r_69 oS_men square k0_26 v4_59 v6_59 v4_69 v7_69 v4_133)) else f_Mo_attacked_149 r_59 r_69 oS_men square k0_26 v4_59 v6_59 v4_69 v7_69 v4_133) := rfl

def f_Mo_attacked_117 (r_59 : Int64 → Int32 → Int64) (r_69 : Int64 → Int32 → Int64) (oS_men : Nat → Int32) (square : Int32) (k0_26 : Int32) (v4_59 : Int64) (v6_59 : Int32) (v4_69 : Int64) (v7_69 : Int32) : Int64 :=
  f_Mo_attacked_133 r_59 r_69 oS_men square k0_26 v4_59 v6_59 v4_69 v7_69 (v4_69 ||| (f_Mo_bit (f_Mo_step square v6_59 v7_69)))
theorem f_Mo_attacked_117_eq (r_59 : Int64 → Int32 → Int64) (r_69 : Int64 → Int32 → Int64) (oS_men : Nat → Int32) (square : Int32) (k0_26 : Int32) (v4_59 : Int64) (v6_59 : Int32) (v4_69 : Int64) (v7_69 : Int32) : f_Mo_attacked_117 r_59 r_69 oS_men square k0_26 v4_59 v6_59 v4_69 v7_69 =
  f_Mo_attacked_133 r_59 r_69 oS_men square k0_26 v4_59 v6_59 v4_69 v7_69 (v4_69 ||| (f_Mo_bit (f_Mo_step square v6_59 v7_69))) := rfl

def f_Mo_attacked_99 (r_59 : Int64 → Int32 → Int64) (r_69 : Int64 → Int32 → Int64) (oS_men : Nat → Int32) (square : Int32) (k0_26 : Int32) (v4_59 : Int64) (v6_59 : Int32) (v4_69 : Int64) (v7_69 : Int32) : Int64 :=
  (if (f_Mo_kind (oS_men square.toNatClampNeg)) = 6 then (if ((v6_59 * v6_59) + (v7_69 * v7_69)) = 1 then f_Mo_attacked_117 r_59 r_69 oS_men square k0_26 v4_59 v6_59 v4_69 v7_69 else (if ((v6_59 * v6_59) + (v7_69 * v7_69)) = 2 then f_Mo_attacked_117 r_59 r_69 oS_men square k0_26 v4_59 v6_59 v4_69 v7_69 else f_Mo_attacked_133 r_59 r_69 oS_men square k0_26 v4_59 v6_59 v4_69 v7_69 v4_69)) else f_Mo_attacked_133 r_59 r_69 oS_men square k0_26 v4_59 v6_59 v4_69 v7_69 v4_69)
theorem f_Mo_attacked_99_eq (r_59 : Int64 → Int32 → Int64) (r_69 : Int64 → Int32 → Int64) (oS_men : Nat → Int32) (square : Int32) (k0_26 : Int32) (v4_59 : Int64) (v6_59 : Int32) (v4_69 : Int64) (v7_69 : Int32) : f_Mo_attacked_99 r_59 r_69 oS_men square k0_26 v4_59 v6_59 v4_69 v7_69 =
  (if (f_Mo_kind (oS_men square.toNatClampNeg)) = 6 then (if ((v6_59 * v6_59) + (v7_69 * v7_69)) = 1 then f_Mo_attacked_117 r_59 r_69 oS_men square k0_26 v4_59 v6_59 v4_69 v7_69 else (if ((v6_59 * v6_59) + (v7_69 * v7_69)) = 2 then f_Mo_attacked_117 r_59 r_69 oS_men square k0_26 v4_59 v6_59 v4_69 v7_69 else f_Mo_attacked_133 r_59 r_69 oS_men square k0_26 v4_59 v6_59 v4_69 v7_69 v4_69)) else f_Mo_attacked_133 r_59 r_69 oS_men square k0_26 v4_59 v6_59 v4_69 v7_69 v4_69) := rfl

def f_Mo_attacked_69 (r_59 : Int64 → Int32 → Int64) (oS_men : Nat → Int32) (square : Int32) (k0_26 : Int32) (v4_59 : Int64) (v6_59 : Int32) : Nat → Int64 → Int32 → Int64
  | 0 => fun _ _ => 0
  | n_69 + 1 => fun v4_69 v7_69 => (if 2 < v7_69 then r_59 v4_69 (v6_59 + 1) else (if (f_Mo_kind (oS_men square.toNatClampNeg)) = 2 then (if ((v6_59 * v6_59) + (v7_69 * v7_69)) = 5 then f_Mo_attacked_117 r_59 (f_Mo_attacked_69 r_59 oS_men square k0_26 v4_59 v6_59 n_69) oS_men square k0_26 v4_59 v6_59 v4_69 v7_69 else f_Mo_attacked_99 r_59 (f_Mo_attacked_69 r_59 oS_men square k0_26 v4_59 v6_59 n_69) oS_men square k0_26 v4_59 v6_59 v4_69 v7_69) else f_Mo_attacked_99 r_59 (f_Mo_attacked_69 r_59 oS_men square k0_26 v4_59 v6_59 n_69) oS_men square k0_26 v4_59 v6_59 v4_69 v7_69))
theorem f_Mo_attacked_69_eq (r_59 : Int64 → Int32 → Int64) (oS_men : Nat → Int32) (square : Int32) (k0_26 : Int32) (v4_59 : Int64) (v6_59 : Int32) (n_69 : Nat) (v4_69 : Int64) (v7_69 : Int32) : f_Mo_attacked_69 r_59 oS_men square k0_26 v4_59 v6_59 (n_69 + 1) v4_69 v7_69 =
  (if 2 < v7_69 then r_59 v4_69 (v6_59 + 1) else (if (f_Mo_kind (oS_men square.toNatClampNeg)) = 2 then (if ((v6_59 * v6_59) + (v7_69 * v7_69)) = 5 then f_Mo_attacked_117 r_59 (f_Mo_attacked_69 r_59 oS_men square k0_26 v4_59 v6_59 n_69) oS_men square k0_26 v4_59 v6_59 v4_69 v7_69 else f_Mo_attacked_99 r_59 (f_Mo_attacked_69 r_59 oS_men square k0_26 v4_59 v6_59 n_69) oS_men square k0_26 v4_59 v6_59 v4_69 v7_69) else f_Mo_attacked_99 r_59 (f_Mo_attacked_69 r_59 oS_men square k0_26 v4_59 v6_59 n_69) oS_men square k0_26 v4_59 v6_59 v4_69 v7_69)) := rfl

def f_Mo_attacked_59 (oS_men : Nat → Int32) (square : Int32) (k0_26 : Int32) : Nat → Int64 → Int32 → Int64
  | 0 => fun _ _ => 0
  | n_59 + 1 => fun v4_59 v6_59 => (if 2 < v6_59 then v4_59 else f_Mo_attacked_69 (f_Mo_attacked_59 oS_men square k0_26 n_59) oS_men square k0_26 v4_59 v6_59 (6) v4_59 (-2))
theorem f_Mo_attacked_59_eq (oS_men : Nat → Int32) (square : Int32) (k0_26 : Int32) (n_59 : Nat) (v4_59 : Int64) (v6_59 : Int32) : f_Mo_attacked_59 oS_men square k0_26 (n_59 + 1) v4_59 v6_59 =
  (if 2 < v6_59 then v4_59 else f_Mo_attacked_69 (f_Mo_attacked_59 oS_men square k0_26 n_59) oS_men square k0_26 v4_59 v6_59 (6) v4_59 (-2)) := rfl

def f_Mo_attacked_26 (oS_men : Nat → Int32) (square : Int32) (k0_26 : Int32) : Int64 :=
  (if (f_Mo_kind (oS_men square.toNatClampNeg)) = 1 then (f_Mo_bit (f_Mo_step square (-1) k0_26)) ||| (f_Mo_bit (f_Mo_step square 1 k0_26)) else f_Mo_attacked_59 oS_men square k0_26 (6) 0 (-2))
theorem f_Mo_attacked_26_eq (oS_men : Nat → Int32) (square : Int32) (k0_26 : Int32) : f_Mo_attacked_26 oS_men square k0_26 =
  (if (f_Mo_kind (oS_men square.toNatClampNeg)) = 1 then (f_Mo_bit (f_Mo_step square (-1) k0_26)) ||| (f_Mo_bit (f_Mo_step square 1 k0_26)) else f_Mo_attacked_59 oS_men square k0_26 (6) 0 (-2)) := rfl

def f_Mo_attacked (oS_men : Nat → Int32) (square : Int32) : Int64 :=
  (if 8 ≤ (oS_men square.toNatClampNeg) then f_Mo_attacked_26 oS_men square (-1) else f_Mo_attacked_26 oS_men square 1)
theorem f_Mo_attacked_eq (oS_men : Nat → Int32) (square : Int32) : f_Mo_attacked oS_men square =
  (if 8 ≤ (oS_men square.toNatClampNeg) then f_Mo_attacked_26 oS_men square (-1) else f_Mo_attacked_26 oS_men square 1) := rfl

set_option maxHeartbeats 4000000 in
set_option maxRecDepth 100000 in
theorem c_Mo_attacked (l : Launch) (dC : Nat → ClassId) (dI : Nat → Nat → Nat) (cI cJ cC : ClassId) (ad : Nat → Nat) (o o_text o_out o_men o_pastMen o_pastSide o_pastRights o_pastPassed o_pastClock o_pastNumber o_pastTakes o_playedMoves o_keptMen o_keptRest o_lists o_counts : Nat) (oS_thrown : Int32) (oS_typed : Int32) (oS_text : Nat → Int32) (oS_told : Int32) (oS_out : Nat → Int32) (oS_men : Nat → Int32) (oS_side : Int32) (oS_rights : Int32) (oS_passed : Int32) (oS_clock : Int32) (oS_number : Int32) (oS_plies : Int32) (oS_pastMen : Nat → Int32) (oS_pastSide : Nat → Int32) (oS_pastRights : Nat → Int32) (oS_pastPassed : Nat → Int32) (oS_pastClock : Nat → Int32) (oS_pastNumber : Nat → Int32) (oS_pastTakes : Nat → Int64) (oS_playedMoves : Nat → Int32) (oS_keptMen : Nat → Int32) (oS_keptRest : Nat → Int32) (oS_lists : Nat → Int32) (oS_counts : Nat → Int32) (square : Int32) (hq : 0 ≤ square.toInt ∧ square.toInt < 64) : Met l yMo_attacked wsMo_attacked { frames := 3, cells := 0, slots := 0, locals := 71 } (roP dC dI (TYS cI cJ cC) [.ref o, .int square] [(o, .inr (6, [.int oS_thrown, .int oS_typed, .ref o_text, .int oS_told, .ref o_out, .ref o_men, .int oS_side, .int oS_rights, .int oS_passed, .int oS_clock, .int oS_number, .int oS_plies, .ref o_pastMen, .ref o_pastSide, .ref o_pastRights, .ref o_pastPassed, .ref o_pastClock, .ref o_pastNumber, .ref o_pastTakes, .ref o_playedMoves, .ref o_keptMen, .ref o_keptRest, .ref o_lists, .ref o_counts])), (o_text, .inl (cC, 100, .inl oS_text)), (o_out, .inl (cC, 100, .inl oS_out)), (o_men, .inl (cI, 64, .inl oS_men)), (o_pastMen, .inl (cI, 25664, .inl oS_pastMen)), (o_pastSide, .inl (cI, 401, .inl oS_pastSide)), (o_pastRights, .inl (cI, 401, .inl oS_pastRights)), (o_pastPassed, .inl (cI, 401, .inl oS_pastPassed)), (o_pastClock, .inl (cI, 401, .inl oS_pastClock)), (o_pastNumber, .inl (cI, 401, .inl oS_pastNumber)), (o_pastTakes, .inl (cJ, 401, .inr (.inl oS_pastTakes))), (o_playedMoves, .inl (cI, 400, .inl oS_playedMoves)), (o_keptMen, .inl (cI, 384, .inl oS_keptMen)), (o_keptRest, .inl (cI, 30, .inl oS_keptRest)), (o_lists, .inl (cI, 8192, .inl oS_lists)), (o_counts, .inl (cI, 4, .inl oS_counts))] (GS ad)) (vp_Sl (fun r => r = f_Mo_attacked oS_men square)) 0 0 (fun _ => False) := by
  refine Met.ofW (cc := cMo_attacked) (maxL := 9) (ret := (some .long)) (by decide) rfl ?_
  intro p e s m args below meth c s₁ B hml hv
  obtain ⟨rfl, hP, hK, hG⟩ := hv
  have hx := B.exec
  have hb := B.bytes
  have hr := B.returns
  have hB : ∀ w9 ∈ BIG, w9.before ([.ref o, .int square]).toArray s = true := fun w9 h => atoms_spec (ws := wsMo_attacked) B.pre w9 (List.mem_cons_of_mem _ h)
  have hown : s.vm.findClass "ChessRulesModel" = some m.cls := findClass_of_methodNamed B.named
  have hlocks := B.notSynchronized
  have hS : va_S (fun _ => False) s.heap s.heap [] := va_S.rf
  have hP : va_P (dC, dI) vwCl [(o, .inr (6, [.int oS_thrown, .int oS_typed, .ref o_text, .int oS_told, .ref o_out, .ref o_men, .int oS_side, .int oS_rights, .int oS_passed, .int oS_clock, .int oS_number, .int oS_plies, .ref o_pastMen, .ref o_pastSide, .ref o_pastRights, .ref o_pastPassed, .ref o_pastClock, .ref o_pastNumber, .ref o_pastTakes, .ref o_playedMoves, .ref o_keptMen, .ref o_keptRest, .ref o_lists, .ref o_counts])), (o_text, .inl (cC, 100, .inl oS_text)), (o_out, .inl (cC, 100, .inl oS_out)), (o_men, .inl (cI, 64, .inl oS_men)), (o_pastMen, .inl (cI, 25664, .inl oS_pastMen)), (o_pastSide, .inl (cI, 401, .inl oS_pastSide)), (o_pastRights, .inl (cI, 401, .inl oS_pastRights)), (o_pastPassed, .inl (cI, 401, .inl oS_pastPassed)), (o_pastClock, .inl (cI, 401, .inl oS_pastClock)), (o_pastNumber, .inl (cI, 401, .inl oS_pastNumber)), (o_pastTakes, .inl (cJ, 401, .inr (.inl oS_pastTakes))), (o_playedMoves, .inl (cI, 400, .inl oS_playedMoves)), (o_keptMen, .inl (cI, 384, .inl oS_keptMen)), (o_keptRest, .inl (cI, 30, .inl oS_keptRest)), (o_lists, .inl (cI, 8192, .inl oS_lists)), (o_counts, .inl (cI, 4, .inl oS_counts))] s.heap := hP
  have hl := lv_entry ([.ref o, .int square]) (n := 9) (Nat.le_of_ble_eq_true rfl)
  rw [lg_entry_eq]
  generalize (lg_sl ([.ref o, .int square]) ++ List.replicate (9 - (lg_sl ([.ref o, .int square])).length) Slot.unset).toArray = ls at hl ⊢
  have hl : lv_has ls 9 [(0, .ref o), (1, .int square)] := hl
  refine lv_aload_n hx hb dMo_attacked_0 rfl (lv_at hl 0 rfl) ?_
  refine va_get (D := (dC, dI)) (ci := 6) (v := .ref o_men) (C := RMo) (T := TMo) (N := 24) hx hb hB inMo hown hK hP 0 rfl rfl 5 (by decide) (hB _ q5_16) (fun _ h9 => h9) rfl dMo_attacked_1 ?_
  refine lv_iload_n hx hb dMo_attacked_4 rfl (lv_at hl 1 rfl) ?_
  refine va_iald hx hb hK hP 3 0 rfl rfl (vp_in_iff.mpr hq) dMo_attacked_5 ?_
  refine ro_goi (va_runS (As := [.int (oS_men square.toNatClampNeg)]) (rest := []) ⟨hx, hb, hml, hown, hB⟩ (c_Mo_kind l dC dI cI cJ cC ad (oS_men square.toNatClampNeg)) ⟨callB_of 1 hB (big_self q4_202) rfl rfl rfl (hB _ q1_15) (hB _ q4_200) (by decide +kernel) ⟨Nat.le_of_ble_eq_true rfl, Nat.le_of_ble_eq_true rfl⟩, (hB _ q4_201)⟩ (ro_preS (GS_ok ad) hK hP hG hS [] rfl) rfl rfl hl.1 rfl (lv_room (Nat.le_of_ble_eq_true rfl)) dMo_attacked_6 ⟨Nat.le_of_ble_eq_true rfl, Nat.le_of_ble_eq_true rfl⟩) ?_
  refine lv_istore_n (lv' := [(2, .int (f_Mo_kind (oS_men square.toNatClampNeg))), (0, .ref o), (1, .int square)]) hx hb dMo_attacked_9 rfl hl (by decide) rfl (fun ls hl => ?_)
  refine lv_aload_n hx hb dMo_attacked_10 rfl (lv_at hl 1 rfl) ?_
  refine va_get (D := (dC, dI)) (ci := 6) (v := .ref o_men) (C := RMo) (T := TMo) (N := 24) hx hb hB inMo hown hK hP 0 rfl rfl 5 (by decide) (hB _ q5_16) (fun _ h9 => h9) rfl dMo_attacked_11 ?_
  refine lv_iload_n hx hb dMo_attacked_14 rfl (lv_at hl 2 rfl) ?_
  refine va_iald hx hb hK hP 3 0 rfl rfl (vp_in_iff.mpr hq) dMo_attacked_15 ?_
  refine lv_bipush (v := 8) hx hb dMo_attacked_16 (by decide) ?_
  have J_26 : ∀ (k0_26 : Int32), f_Mo_attacked oS_men square = f_Mo_attacked_26 oS_men square k0_26 → ∀ ls : Array Slot, lv_has ls 9 [(0, .ref o), (1, .int square), (2, .int (f_Mo_kind (oS_men square.toNatClampNeg)))] → W p l e (headSpec wsMo_attacked { frames := 3, cells := 0, slots := 0, locals := 71 }).room s m ([.ref o, .int square]).toArray below meth c s.heap [] 0 0 (MQ below (vp_Sl (fun r => r = f_Mo_attacked oS_men square)) ([.ref o, .int square]).toArray s 0 0 (fun _ => False)) (F0 m 26 ls [.int k0_26]) := by
    intro k0_26 he_26 ls hl
    refine lv_istore_n (lv' := [(3, .int k0_26), (0, .ref o), (1, .int square), (2, .int (f_Mo_kind (oS_men square.toNatClampNeg)))]) hx hb dMo_attacked_26 rfl hl (by decide) rfl (fun ls hl => ?_)
    refine lv_iload_n hx hb dMo_attacked_27 rfl (lv_at hl 3 rfl) ?_
    refine lv_iconst (v := 1) hx hb dMo_attacked_28 (by decide) ?_
    refine lv_icmp_ne (tgt := 52) hx hb dMo_attacked_29 (by decide) (fun c_1 => ?_) (fun c_1 => ?_)
    · refine lv_lconst (v := 0) hx hb dMo_attacked_52 (by decide) ?_
      refine lv_lstore (lv' := [(4, .long 0), (3, .int k0_26), (0, .ref o), (1, .int square), (2, .int (f_Mo_kind (oS_men square.toNatClampNeg)))]) hx hb dMo_attacked_53 hl (by decide) rfl (fun ls hl => ?_)
      refine lv_bipush (v := (-2)) hx hb dMo_attacked_55 (by decide) ?_
      refine lv_istore (lv' := [(6, .int (-2)), (4, .long 0), (3, .int k0_26), (0, .ref o), (1, .int square), (2, .int (f_Mo_kind (oS_men square.toNatClampNeg)))]) hx hb dMo_attacked_57 hl (by decide) rfl (fun ls hl => ?_)
      have J_59 : ∀ (n_59 : Nat) (v4_59 : Int64) (v6_59 : Int32), f_Mo_attacked oS_men square = f_Mo_attacked_59 oS_men square k0_26 n_59 v4_59 v6_59 → ((-2 : Int) ≤ v6_59.toInt ∧ (2 : Int32).toInt - v6_59.toInt + 2 ≤ (n_59 : Int) ∧ (1 : Int) ≤ (n_59 : Int)) → ∀ ls : Array Slot, lv_has ls 9 [(0, .ref o), (1, .int square), (2, .int (f_Mo_kind (oS_men square.toNatClampNeg))), (4, .long v4_59), (6, .int v6_59)] → W p l e (headSpec wsMo_attacked { frames := 3, cells := 0, slots := 0, locals := 71 }).room s m ([.ref o, .int square]).toArray below meth c s.heap [] 0 0 (MQ below (vp_Sl (fun r => r = f_Mo_attacked oS_men square)) ([.ref o, .int square]).toArray s 0 0 (fun _ => False)) (F0 m 59 ls []) := by
        intro n_59
        induction n_59 with
        | zero => intro v4_59 v6_59 _ hm_59; exact absurd hm_59 (by omega)
        | succ n_59 ih_59 =>
          intro v4_59 v6_59 he_59 hm_59 ls hl
          refine lv_iload hx hb dMo_attacked_59 (lv_at hl 4 rfl) ?_
          refine lv_iconst (v := 2) hx hb dMo_attacked_61 (by decide) ?_
          refine lv_icmp_gt (tgt := 191) hx hb dMo_attacked_62 (by decide) (fun c_2 => ?_) (fun c_2 => ?_)
          · refine lv_lload hx hb dMo_attacked_191 (lv_at hl 3 rfl) ?_
            exact ro_retl hx hb hr hlocks dMo_attacked_193 (Eq.symm (he_59.trans (by rw [f_Mo_attacked_59_eq, if_pos c_2] <;> rfl)))
          · refine lv_bipush (v := (-2)) hx hb dMo_attacked_65 (by decide) ?_
            refine lv_istore (lv' := [(7, .int (-2)), (0, .ref o), (1, .int square), (2, .int (f_Mo_kind (oS_men square.toNatClampNeg))), (4, .long v4_59), (6, .int v6_59)]) hx hb dMo_attacked_67 hl (by decide) rfl (fun ls hl => ?_)
            have J_69 : ∀ (n_69 : Nat) (v4_69 : Int64) (v7_69 : Int32), f_Mo_attacked oS_men square = f_Mo_attacked_69 (f_Mo_attacked_59 oS_men square k0_26 n_59) oS_men square k0_26 v4_59 v6_59 n_69 v4_69 v7_69 → ((-2 : Int) ≤ v7_69.toInt ∧ (2 : Int32).toInt - v7_69.toInt + 2 ≤ (n_69 : Int) ∧ (1 : Int) ≤ (n_69 : Int)) → ∀ ls : Array Slot, lv_has ls 9 [(0, .ref o), (1, .int square), (2, .int (f_Mo_kind (oS_men square.toNatClampNeg))), (4, .long v4_69), (6, .int v6_59), (7, .int v7_69)] → W p l e (headSpec wsMo_attacked { frames := 3, cells := 0, slots := 0, locals := 71 }).room s m ([.ref o, .int square]).toArray below meth c s.heap [] 0 0 (MQ below (vp_Sl (fun r => r = f_Mo_attacked oS_men square)) ([.ref o, .int square]).toArray s 0 0 (fun _ => False)) (F0 m 69 ls []) := by
              intro n_69
              induction n_69 with
              | zero => intro v4_69 v7_69 _ hm_69; exact absurd hm_69 (by omega)
              | succ n_69 ih_69 =>
                intro v4_69 v7_69 he_69 hm_69 ls hl
                refine lv_iload hx hb dMo_attacked_69 (lv_at hl 5 rfl) ?_
                refine lv_iconst (v := 2) hx hb dMo_attacked_71 (by decide) ?_
                refine lv_icmp_gt (tgt := 185) hx hb dMo_attacked_72 (by decide) (fun c_3 => ?_) (fun c_3 => ?_)
                · refine lv_iinc (v := v6_59 + 1) (lv' := [(6, .int (v6_59 + 1)), (0, .ref o), (1, .int square), (2, .int (f_Mo_kind (oS_men square.toNatClampNeg))), (4, .long v4_69), (7, .int v7_69)]) hx hb dMo_attacked_185 hl (k := 4) rfl rfl (by decide) rfl (fun ls hl => ?_)
                  refine lv_goto (tgt := 59) hx hb dMo_attacked_188 (by decide) ?_
                  exact ih_59 v4_69 (v6_59 + 1) (he_69.trans (by rw [f_Mo_attacked_69_eq, if_pos c_3] <;> rfl)) (by have z0 := tne c_1; have z2 := tnl c_2; have z4 := tl c_3; have y1 : (1 : Int32).toInt = 1 := rfl; have y2 : (2 : Int32).toInt = 2 := rfl; have zr := i_rng (2 : Int32); have zs := i_succ9 v6_59 (by omega); omega) ls (lv_sub hl [1, 2, 3, 4, 0] rfl)
                · refine lv_iload hx hb dMo_attacked_75 (lv_at hl 4 rfl) ?_
                  refine lv_iload hx hb dMo_attacked_77 (lv_at hl 4 rfl) ?_
                  refine lv_imul hx hb dMo_attacked_79 ?_
                  refine lv_iload hx hb dMo_attacked_80 (lv_at hl 5 rfl) ?_
                  refine lv_iload hx hb dMo_attacked_82 (lv_at hl 5 rfl) ?_
                  refine lv_imul hx hb dMo_attacked_84 ?_
                  refine lv_iadd hx hb dMo_attacked_85 ?_
                  refine lv_istore (lv' := [(8, .int ((v6_59 * v6_59) + (v7_69 * v7_69))), (0, .ref o), (1, .int square), (2, .int (f_Mo_kind (oS_men square.toNatClampNeg))), (4, .long v4_69), (6, .int v6_59), (7, .int v7_69)]) hx hb dMo_attacked_86 hl (by decide) rfl (fun ls hl => ?_)
                  refine lv_iload_n hx hb dMo_attacked_88 rfl (lv_at hl 3 rfl) ?_
                  refine lv_iconst (v := 2) hx hb dMo_attacked_89 (by decide) ?_
                  have J_133 : ∀ (v4_133 : Int64), f_Mo_attacked oS_men square = f_Mo_attacked_133 (f_Mo_attacked_59 oS_men square k0_26 n_59) (f_Mo_attacked_69 (f_Mo_attacked_59 oS_men square k0_26 n_59) oS_men square k0_26 v4_59 v6_59 n_69) oS_men square k0_26 v4_59 v6_59 v4_69 v7_69 v4_133 → ∀ ls : Array Slot, lv_has ls 9 [(0, .ref o), (1, .int square), (2, .int (f_Mo_kind (oS_men square.toNatClampNeg))), (4, .long v4_133), (6, .int v6_59), (7, .int v7_69), (8, .int ((v6_59 * v6_59) + (v7_69 * v7_69)))] → W p l e (headSpec wsMo_attacked { frames := 3, cells := 0, slots := 0, locals := 71 }).room s m ([.ref o, .int square]).toArray below meth c s.heap [] 0 0 (MQ below (vp_Sl (fun r => r = f_Mo_attacked oS_men square)) ([.ref o, .int square]).toArray s 0 0 (fun _ => False)) (F0 m 133 ls []) := by
                    intro v4_133 he_133 ls hl
                    refine lv_iload hx hb dMo_attacked_133 (lv_at hl 6 rfl) ?_
                    refine lv_iconst (v := 1) hx hb dMo_attacked_135 (by decide) ?_
                    have J_165 : f_Mo_attacked oS_men square = f_Mo_attacked_165 (f_Mo_attacked_59 oS_men square k0_26 n_59) (f_Mo_attacked_69 (f_Mo_attacked_59 oS_men square k0_26 n_59) oS_men square k0_26 v4_59 v6_59 n_69) oS_men square k0_26 v4_59 v6_59 v4_69 v7_69 v4_133 → (((v6_59 * v6_59) + (v7_69 * v7_69)) = 1 ∨ ((v6_59 * v6_59) + (v7_69 * v7_69)) = 2) → ∀ ls : Array Slot, lv_has ls 9 [(0, .ref o), (1, .int square), (2, .int (f_Mo_kind (oS_men square.toNatClampNeg))), (4, .long v4_133), (6, .int v6_59), (7, .int v7_69)] → W p l e (headSpec wsMo_attacked { frames := 3, cells := 0, slots := 0, locals := 71 }).room s m ([.ref o, .int square]).toArray below meth c s.heap [] 0 0 (MQ below (vp_Sl (fun r => r = f_Mo_attacked oS_men square)) ([.ref o, .int square]).toArray s 0 0 (fun _ => False)) (F0 m 165 ls []) := by
                      intro he_165 hi_165 ls hl
                      refine lv_lload hx hb dMo_attacked_165 (lv_at hl 3 rfl) ?_
                      refine lv_aload_n hx hb dMo_attacked_167 rfl (lv_at hl 0 rfl) ?_
                      refine lv_iload_n hx hb dMo_attacked_168 rfl (lv_at hl 1 rfl) ?_
                      refine lv_iload hx hb dMo_attacked_169 (lv_at hl 4 rfl) ?_
                      refine lv_iload hx hb dMo_attacked_171 (lv_at hl 5 rfl) ?_
                      refine ro_gol (va_runV (C := "ChessRulesModel") (As := [.int square, .int v6_59, .int v7_69]) (rest := [.long v4_133]) ⟨hx, hb, hml, hown, hB⟩ (c_Mo_walk l dC dI cI cJ cC ad o o_text o_out o_men o_pastMen o_pastSide o_pastRights o_pastPassed o_pastClock o_pastNumber o_pastTakes o_playedMoves o_keptMen o_keptRest o_lists o_counts oS_thrown oS_typed oS_text oS_told oS_out oS_men oS_side oS_rights oS_passed oS_clock oS_number oS_plies oS_pastMen oS_pastSide oS_pastRights oS_pastPassed oS_pastClock oS_pastNumber oS_pastTakes oS_playedMoves oS_keptMen oS_keptRest oS_lists oS_counts square v6_59 v7_69 hq (okDir_of _ (five_of hm_59.1 c_2) _ (five_of hm_69.1 c_3) hi_165)) ⟨callB_of 3 hB (big_self q4_215) rfl rfl rfl (hB _ q1_15) (hB _ q4_212) (by decide +kernel) ⟨Nat.le_of_ble_eq_true rfl, Nat.le_of_ble_eq_true rfl⟩, (hB _ q4_214), (hB _ qs5_2)⟩ (ro_preV (GS_ok ad) hK hP hG hS [0, 1, 2, 3, 4, 5, 6, 7, 8, 9, 10, 11, 12, 13, 14, 15] rfl (va_recv hK hP (ci := 6) (q0 := 0) rfl rfl)) rfl rfl hl.1 rfl (lv_room (Nat.le_of_ble_eq_true rfl)) dMo_attacked_173 ⟨Nat.le_of_ble_eq_true rfl, Nat.le_of_ble_eq_true rfl⟩) ?_
                      refine lv_lor hx hb dMo_attacked_176 ?_
                      refine lv_lstore (lv' := [(4, .long (v4_133 ||| (f_Mo_walk oS_men square v6_59 v7_69))), (0, .ref o), (1, .int square), (2, .int (f_Mo_kind (oS_men square.toNatClampNeg))), (6, .int v6_59), (7, .int v7_69)]) hx hb dMo_attacked_177 hl (by decide) rfl (fun ls hl => ?_)
                      refine lv_iinc (v := v7_69 + 1) (lv' := [(7, .int (v7_69 + 1)), (4, .long (v4_133 ||| (f_Mo_walk oS_men square v6_59 v7_69))), (0, .ref o), (1, .int square), (2, .int (f_Mo_kind (oS_men square.toNatClampNeg))), (6, .int v6_59)]) hx hb dMo_attacked_179 hl (k := 5) rfl rfl (by decide) rfl (fun ls hl => ?_)
                      refine lv_goto (tgt := 69) hx hb dMo_attacked_182 (by decide) ?_
                      exact ih_69 (v4_133 ||| (f_Mo_walk oS_men square v6_59 v7_69)) (v7_69 + 1) (he_165.trans (by rw [f_Mo_attacked_165_eq] <;> rfl)) (by have z0 := tne c_1; have z2 := tnl c_2; have z4 := tnl c_3; have y1 : (1 : Int32).toInt = 1 := rfl; have y2 : (2 : Int32).toInt = 2 := rfl; have zr := i_rng (2 : Int32); have zs := i_succ9 v7_69 (by omega); omega) ls (lv_sub hl [2, 3, 4, 1, 5, 0] rfl)
                    have J_149 : f_Mo_attacked oS_men square = f_Mo_attacked_149 (f_Mo_attacked_59 oS_men square k0_26 n_59) (f_Mo_attacked_69 (f_Mo_attacked_59 oS_men square k0_26 n_59) oS_men square k0_26 v4_59 v6_59 n_69) oS_men square k0_26 v4_59 v6_59 v4_69 v7_69 v4_133 → ∀ ls : Array Slot, lv_has ls 9 [(0, .ref o), (1, .int square), (2, .int (f_Mo_kind (oS_men square.toNatClampNeg))), (4, .long v4_133), (6, .int v6_59), (7, .int v7_69), (8, .int ((v6_59 * v6_59) + (v7_69 * v7_69)))] → W p l e (headSpec wsMo_attacked { frames := 3, cells := 0, slots := 0, locals := 71 }).room s m ([.ref o, .int square]).toArray below meth c s.heap [] 0 0 (MQ below (vp_Sl (fun r => r = f_Mo_attacked oS_men square)) ([.ref o, .int square]).toArray s 0 0 (fun _ => False)) (F0 m 149 ls []) := by
                      intro he_149 ls hl
                      refine lv_iload hx hb dMo_attacked_149 (lv_at hl 6 rfl) ?_
                      refine lv_iconst (v := 2) hx hb dMo_attacked_151 (by decide) ?_
                      refine lv_icmp_ne (tgt := 179) hx hb dMo_attacked_152 (by decide) (fun c_4 => ?_) (fun c_4 => ?_)
                      · refine lv_iinc (v := v7_69 + 1) (lv' := [(7, .int (v7_69 + 1)), (0, .ref o), (1, .int square), (2, .int (f_Mo_kind (oS_men square.toNatClampNeg))), (4, .long v4_133), (6, .int v6_59), (8, .int ((v6_59 * v6_59) + (v7_69 * v7_69)))]) hx hb dMo_attacked_179 hl (k := 5) rfl rfl (by decide) rfl (fun ls hl => ?_)
                        refine lv_goto (tgt := 69) hx hb dMo_attacked_182 (by decide) ?_
                        exact ih_69 v4_133 (v7_69 + 1) (he_149.trans (by rw [f_Mo_attacked_149_eq, if_neg c_4] <;> rfl)) (by have z0 := tne c_1; have z2 := tnl c_2; have z4 := tnl c_3; have z5 := tne c_4; have y1 : (1 : Int32).toInt = 1 := rfl; have y2 : (2 : Int32).toInt = 2 := rfl; have zr := i_rng (2 : Int32); have zs := i_succ9 v7_69 (by omega); omega) ls (lv_sub hl [1, 2, 3, 4, 5, 0] rfl)
                      · refine lv_iload_n hx hb dMo_attacked_155 rfl (lv_at hl 2 rfl) ?_
                        refine lv_iconst (v := 3) hx hb dMo_attacked_156 (by decide) ?_
                        refine lv_icmp_eq (tgt := 165) hx hb dMo_attacked_157 (by decide) (fun c_5 => ?_) (fun c_5 => ?_)
                        · exact J_165 (he_149.trans (by rw [f_Mo_attacked_149_eq, if_pos c_4, if_pos c_5] <;> rfl)) (by first | exact Or.inl (by assumption) | exact Or.inr (by assumption)) ls (lv_sub hl [0, 1, 2, 3, 4, 5] rfl)
                        · refine lv_iload_n hx hb dMo_attacked_160 rfl (lv_at hl 2 rfl) ?_
                          refine lv_iconst (v := 5) hx hb dMo_attacked_161 (by decide) ?_
                          refine lv_icmp_ne (tgt := 179) hx hb dMo_attacked_162 (by decide) (fun c_6 => ?_) (fun c_6 => ?_)
                          · refine lv_iinc (v := v7_69 + 1) (lv' := [(7, .int (v7_69 + 1)), (0, .ref o), (1, .int square), (2, .int (f_Mo_kind (oS_men square.toNatClampNeg))), (4, .long v4_133), (6, .int v6_59), (8, .int ((v6_59 * v6_59) + (v7_69 * v7_69)))]) hx hb dMo_attacked_179 hl (k := 5) rfl rfl (by decide) rfl (fun ls hl => ?_)
                            refine lv_goto (tgt := 69) hx hb dMo_attacked_182 (by decide) ?_
                            exact ih_69 v4_133 (v7_69 + 1) (he_149.trans (by rw [f_Mo_attacked_149_eq, if_pos c_4, if_neg c_5, if_neg c_6] <;> rfl)) (by have z0 := tne c_1; have z2 := tnl c_2; have z4 := tnl c_3; have z5 := teq c_4; have z6 := tne c_5; have z7 := tne c_6; have y1 : (1 : Int32).toInt = 1 := rfl; have y2 : (2 : Int32).toInt = 2 := rfl; have y3 : (3 : Int32).toInt = 3 := rfl; have y5 : (5 : Int32).toInt = 5 := rfl; have zr := i_rng (2 : Int32); have zs := i_succ9 v7_69 (by omega); omega) ls (lv_sub hl [1, 2, 3, 4, 5, 0] rfl)
                          · exact J_165 (he_149.trans (by rw [f_Mo_attacked_149_eq, if_pos c_4, if_neg c_5, if_pos c_6] <;> rfl)) (by first | exact Or.inl (by assumption) | exact Or.inr (by assumption)) ls (lv_sub hl [0, 1, 2, 3, 4, 5] rfl)
                    refine lv_icmp_ne (tgt := 149) hx hb dMo_attacked_136 (by decide) (fun c_7 => ?_) (fun c_7 => ?_)
                    · exact J_149 (he_133.trans (by rw [f_Mo_attacked_133_eq, if_neg c_7] <;> rfl)) ls (lv_sub hl [0, 1, 2, 3, 4, 5, 6] rfl)
                    · refine lv_iload_n hx hb dMo_attacked_139 rfl (lv_at hl 2 rfl) ?_
                      refine lv_iconst (v := 4) hx hb dMo_attacked_140 (by decide) ?_
                      refine lv_icmp_eq (tgt := 165) hx hb dMo_attacked_141 (by decide) (fun c_8 => ?_) (fun c_8 => ?_)
                      · exact J_165 (he_133.trans (by rw [f_Mo_attacked_133_eq, if_pos c_7, if_pos c_8] <;> rfl)) (by first | exact Or.inl (by assumption) | exact Or.inr (by assumption)) ls (lv_sub hl [0, 1, 2, 3, 4, 5] rfl)
                      · refine lv_iload_n hx hb dMo_attacked_144 rfl (lv_at hl 2 rfl) ?_
                        refine lv_iconst (v := 5) hx hb dMo_attacked_145 (by decide) ?_
                        refine lv_icmp_eq (tgt := 165) hx hb dMo_attacked_146 (by decide) (fun c_9 => ?_) (fun c_9 => ?_)
                        · exact J_165 (he_133.trans (by rw [f_Mo_attacked_133_eq, if_pos c_7, if_neg c_8, if_pos c_9] <;> rfl)) (by first | exact Or.inl (by assumption) | exact Or.inr (by assumption)) ls (lv_sub hl [0, 1, 2, 3, 4, 5] rfl)
                        · exact J_149 (he_133.trans (by rw [f_Mo_attacked_133_eq, if_pos c_7, if_neg c_8, if_neg c_9] <;> rfl)) ls (lv_sub hl [0, 1, 2, 3, 4, 5, 6] rfl)
                  have J_117 : f_Mo_attacked oS_men square = f_Mo_attacked_117 (f_Mo_attacked_59 oS_men square k0_26 n_59) (f_Mo_attacked_69 (f_Mo_attacked_59 oS_men square k0_26 n_59) oS_men square k0_26 v4_59 v6_59 n_69) oS_men square k0_26 v4_59 v6_59 v4_69 v7_69 → ∀ ls : Array Slot, lv_has ls 9 [(0, .ref o), (1, .int square), (2, .int (f_Mo_kind (oS_men square.toNatClampNeg))), (4, .long v4_69), (6, .int v6_59), (7, .int v7_69), (8, .int ((v6_59 * v6_59) + (v7_69 * v7_69)))] → W p l e (headSpec wsMo_attacked { frames := 3, cells := 0, slots := 0, locals := 71 }).room s m ([.ref o, .int square]).toArray below meth c s.heap [] 0 0 (MQ below (vp_Sl (fun r => r = f_Mo_attacked oS_men square)) ([.ref o, .int square]).toArray s 0 0 (fun _ => False)) (F0 m 117 ls []) := by
                    intro he_117 ls hl
                    refine lv_lload hx hb dMo_attacked_117 (lv_at hl 3 rfl) ?_
                    refine lv_iload_n hx hb dMo_attacked_119 rfl (lv_at hl 1 rfl) ?_
                    refine lv_iload hx hb dMo_attacked_120 (lv_at hl 4 rfl) ?_
                    refine lv_iload hx hb dMo_attacked_122 (lv_at hl 5 rfl) ?_
                    refine ro_goi (va_runS (As := [.int square, .int v6_59, .int v7_69]) (rest := [.long v4_69]) ⟨hx, hb, hml, hown, hB⟩ (c_Mo_step l dC dI cI cJ cC ad square v6_59 v7_69) ⟨callB_of 3 hB (big_self q4_205) rfl rfl rfl (hB _ q1_15) (hB _ q4_203) (by decide +kernel) ⟨Nat.le_of_ble_eq_true rfl, Nat.le_of_ble_eq_true rfl⟩, (hB _ q4_204)⟩ (ro_preS (GS_ok ad) hK hP hG hS [] rfl) rfl rfl hl.1 rfl (lv_room (Nat.le_of_ble_eq_true rfl)) dMo_attacked_124 ⟨Nat.le_of_ble_eq_true rfl, Nat.le_of_ble_eq_true rfl⟩) ?_
                    refine ro_gol (va_runS (As := [.int (f_Mo_step square v6_59 v7_69)]) (rest := [.long v4_69]) ⟨hx, hb, hml, hown, hB⟩ (c_Mo_bit l dC dI cI cJ cC ad (f_Mo_step square v6_59 v7_69)) ⟨callB_of 1 hB (big_self q4_211) rfl rfl rfl (hB _ q1_15) (hB _ q4_209) (by decide +kernel) ⟨Nat.le_of_ble_eq_true rfl, Nat.le_of_ble_eq_true rfl⟩, (hB _ q4_210)⟩ (ro_preS (GS_ok ad) hK hP hG hS [] rfl) rfl rfl hl.1 rfl (lv_room (Nat.le_of_ble_eq_true rfl)) dMo_attacked_127 ⟨Nat.le_of_ble_eq_true rfl, Nat.le_of_ble_eq_true rfl⟩) ?_
                    refine lv_lor hx hb dMo_attacked_130 ?_
                    refine lv_lstore (lv' := [(4, .long (v4_69 ||| (f_Mo_bit (f_Mo_step square v6_59 v7_69)))), (0, .ref o), (1, .int square), (2, .int (f_Mo_kind (oS_men square.toNatClampNeg))), (6, .int v6_59), (7, .int v7_69), (8, .int ((v6_59 * v6_59) + (v7_69 * v7_69)))]) hx hb dMo_attacked_131 hl (by decide) rfl (fun ls hl => ?_)
                    exact J_133 (v4_69 ||| (f_Mo_bit (f_Mo_step square v6_59 v7_69))) (he_117.trans (by rw [f_Mo_attacked_117_eq] <;> rfl)) ls (lv_sub hl [1, 2, 3, 0, 4, 5, 6] rfl)
                  have J_99 : f_Mo_attacked oS_men square = f_Mo_attacked_99 (f_Mo_attacked_59 oS_men square k0_26 n_59) (f_Mo_attacked_69 (f_Mo_attacked_59 oS_men square k0_26 n_59) oS_men square k0_26 v4_59 v6_59 n_69) oS_men square k0_26 v4_59 v6_59 v4_69 v7_69 → ∀ ls : Array Slot, lv_has ls 9 [(0, .ref o), (1, .int square), (2, .int (f_Mo_kind (oS_men square.toNatClampNeg))), (4, .long v4_69), (6, .int v6_59), (7, .int v7_69), (8, .int ((v6_59 * v6_59) + (v7_69 * v7_69)))] → W p l e (headSpec wsMo_attacked { frames := 3, cells := 0, slots := 0, locals := 71 }).room s m ([.ref o, .int square]).toArray below meth c s.heap [] 0 0 (MQ below (vp_Sl (fun r => r = f_Mo_attacked oS_men square)) ([.ref o, .int square]).toArray s 0 0 (fun _ => False)) (F0 m 99 ls []) := by
                    intro he_99 ls hl
                    refine lv_iload_n hx hb dMo_attacked_99 rfl (lv_at hl 2 rfl) ?_
                    refine lv_bipush (v := 6) hx hb dMo_attacked_100 (by decide) ?_
                    refine lv_icmp_ne (tgt := 133) hx hb dMo_attacked_102 (by decide) (fun c_10 => ?_) (fun c_10 => ?_)
                    · exact J_133 v4_69 (he_99.trans (by rw [f_Mo_attacked_99_eq, if_neg c_10] <;> rfl)) ls (lv_sub hl [0, 1, 2, 3, 4, 5, 6] rfl)
                    · refine lv_iload hx hb dMo_attacked_105 (lv_at hl 6 rfl) ?_
                      refine lv_iconst (v := 1) hx hb dMo_attacked_107 (by decide) ?_
                      refine lv_icmp_eq (tgt := 117) hx hb dMo_attacked_108 (by decide) (fun c_11 => ?_) (fun c_11 => ?_)
                      · exact J_117 (he_99.trans (by rw [f_Mo_attacked_99_eq, if_pos c_10, if_pos c_11] <;> rfl)) ls (lv_sub hl [0, 1, 2, 3, 4, 5, 6] rfl)
                      · refine lv_iload hx hb dMo_attacked_111 (lv_at hl 6 rfl) ?_
                        refine lv_iconst (v := 2) hx hb dMo_attacked_113 (by decide) ?_
                        refine lv_icmp_ne (tgt := 133) hx hb dMo_attacked_114 (by decide) (fun c_12 => ?_) (fun c_12 => ?_)
                        · exact J_133 v4_69 (he_99.trans (by rw [f_Mo_attacked_99_eq, if_pos c_10, if_neg c_11, if_neg c_12] <;> rfl)) ls (lv_sub hl [0, 1, 2, 3, 4, 5, 6] rfl)
                        · exact J_117 (he_99.trans (by rw [f_Mo_attacked_99_eq, if_pos c_10, if_neg c_11, if_pos c_12] <;> rfl)) ls (lv_sub hl [0, 1, 2, 3, 4, 5, 6] rfl)
                  refine lv_icmp_ne (tgt := 99) hx hb dMo_attacked_90 (by decide) (fun c_13 => ?_) (fun c_13 => ?_)
                  · exact J_99 (he_69.trans (by rw [f_Mo_attacked_69_eq, if_neg c_3, if_neg c_13] <;> rfl)) ls (lv_sub hl [1, 2, 3, 4, 5, 6, 0] rfl)
                  · refine lv_iload hx hb dMo_attacked_93 (lv_at hl 0 rfl) ?_
                    refine lv_iconst (v := 5) hx hb dMo_attacked_95 (by decide) ?_
                    refine lv_icmp_eq (tgt := 117) hx hb dMo_attacked_96 (by decide) (fun c_14 => ?_) (fun c_14 => ?_)
                    · exact J_117 (he_69.trans (by rw [f_Mo_attacked_69_eq, if_neg c_3, if_pos c_13, if_pos c_14] <;> rfl)) ls (lv_sub hl [1, 2, 3, 4, 5, 6, 0] rfl)
                    · exact J_99 (he_69.trans (by rw [f_Mo_attacked_69_eq, if_neg c_3, if_pos c_13, if_neg c_14] <;> rfl)) ls (lv_sub hl [1, 2, 3, 4, 5, 6, 0] rfl)
            exact J_69 (6) v4_59 (-2) (he_59.trans (by rw [f_Mo_attacked_59_eq, if_neg c_2] <;> rfl)) (by decide) ls (lv_sub hl [1, 2, 3, 4, 5, 0] rfl)
      exact J_59 (6) 0 (-2) (he_26.trans (by rw [f_Mo_attacked_26_eq, if_neg c_1] <;> rfl)) (by decide) ls (lv_sub hl [3, 4, 5, 1, 0] rfl)
    · refine lv_iload_n hx hb dMo_attacked_32 rfl (lv_at hl 2 rfl) ?_
      refine lv_iconst (v := (-1)) hx hb dMo_attacked_33 (by decide) ?_
      refine lv_iload_n hx hb dMo_attacked_34 rfl (lv_at hl 0 rfl) ?_
      refine ro_goi (va_runS (As := [.int square, .int (-1), .int k0_26]) (rest := []) ⟨hx, hb, hml, hown, hB⟩ (c_Mo_step l dC dI cI cJ cC ad square (-1) k0_26) ⟨callB_of 3 hB (big_self q4_205) rfl rfl rfl (hB _ q1_15) (hB _ q4_203) (by decide +kernel) ⟨Nat.le_of_ble_eq_true rfl, Nat.le_of_ble_eq_true rfl⟩, (hB _ q4_204)⟩ (ro_preS (GS_ok ad) hK hP hG hS [] rfl) rfl rfl hl.1 rfl (lv_room (Nat.le_of_ble_eq_true rfl)) dMo_attacked_35 ⟨Nat.le_of_ble_eq_true rfl, Nat.le_of_ble_eq_true rfl⟩) ?_
      refine ro_gol (va_runS (As := [.int (f_Mo_step square (-1) k0_26)]) (rest := []) ⟨hx, hb, hml, hown, hB⟩ (c_Mo_bit l dC dI cI cJ cC ad (f_Mo_step square (-1) k0_26)) ⟨callB_of 1 hB (big_self q4_211) rfl rfl rfl (hB _ q1_15) (hB _ q4_209) (by decide +kernel) ⟨Nat.le_of_ble_eq_true rfl, Nat.le_of_ble_eq_true rfl⟩, (hB _ q4_210)⟩ (ro_preS (GS_ok ad) hK hP hG hS [] rfl) rfl rfl hl.1 rfl (lv_room (Nat.le_of_ble_eq_true rfl)) dMo_attacked_38 ⟨Nat.le_of_ble_eq_true rfl, Nat.le_of_ble_eq_true rfl⟩) ?_
      refine lv_iload_n hx hb dMo_attacked_41 rfl (lv_at hl 2 rfl) ?_
      refine lv_iconst (v := 1) hx hb dMo_attacked_42 (by decide) ?_
      refine lv_iload_n hx hb dMo_attacked_43 rfl (lv_at hl 0 rfl) ?_
      refine ro_goi (va_runS (As := [.int square, .int 1, .int k0_26]) (rest := [.long (f_Mo_bit (f_Mo_step square (-1) k0_26))]) ⟨hx, hb, hml, hown, hB⟩ (c_Mo_step l dC dI cI cJ cC ad square 1 k0_26) ⟨callB_of 3 hB (big_self q4_205) rfl rfl rfl (hB _ q1_15) (hB _ q4_203) (by decide +kernel) ⟨Nat.le_of_ble_eq_true rfl, Nat.le_of_ble_eq_true rfl⟩, (hB _ q4_204)⟩ (ro_preS (GS_ok ad) hK hP hG hS [] rfl) rfl rfl hl.1 rfl (lv_room (Nat.le_of_ble_eq_true rfl)) dMo_attacked_44 ⟨Nat.le_of_ble_eq_true rfl, Nat.le_of_ble_eq_true rfl⟩) ?_
      refine ro_gol (va_runS (As := [.int (f_Mo_step square 1 k0_26)]) (rest := [.long (f_Mo_bit (f_Mo_step square (-1) k0_26))]) ⟨hx, hb, hml, hown, hB⟩ (c_Mo_bit l dC dI cI cJ cC ad (f_Mo_step square 1 k0_26)) ⟨callB_of 1 hB (big_self q4_211) rfl rfl rfl (hB _ q1_15) (hB _ q4_209) (by decide +kernel) ⟨Nat.le_of_ble_eq_true rfl, Nat.le_of_ble_eq_true rfl⟩, (hB _ q4_210)⟩ (ro_preS (GS_ok ad) hK hP hG hS [] rfl) rfl rfl hl.1 rfl (lv_room (Nat.le_of_ble_eq_true rfl)) dMo_attacked_47 ⟨Nat.le_of_ble_eq_true rfl, Nat.le_of_ble_eq_true rfl⟩) ?_
      refine lv_lor hx hb dMo_attacked_50 ?_
      exact ro_retl hx hb hr hlocks dMo_attacked_51 (Eq.symm (he_26.trans (by rw [f_Mo_attacked_26_eq, if_pos c_1] <;> rfl)))
  refine lv_icmp_ge (tgt := 25) hx hb dMo_attacked_18 (by decide) (fun c_15 => ?_) (fun c_15 => ?_)
  · refine lv_iconst (v := (-1)) hx hb dMo_attacked_25 (by decide) ?_
    exact J_26 (-1) (by rw [f_Mo_attacked_eq, if_pos c_15] <;> rfl) ls (lv_sub hl [1, 2, 0] rfl)
  · refine lv_iconst (v := 1) hx hb dMo_attacked_21 (by decide) ?_
    refine lv_goto (tgt := 26) hx hb dMo_attacked_22 (by decide) ?_
    exact J_26 1 (by rw [f_Mo_attacked_eq, if_neg c_15] <;> rfl) ls (lv_sub hl [1, 2, 0] rfl)

abbrev cMo_attackersOf : ByteArray := prog_11_method_10_code
def yMo_attackersOf : MethodName := ⟨"ChessRulesModel", "attackersOf", "(II)J"⟩
def wsMo_attackersOf : List Cond := Cond.code yMo_attackersOf cMo_attackersOf 6 (some .long) :: BIG
theorem dMo_attackersOf_0 : decode cMo_attackersOf 0 = .ok (.lconst 0, 1) := by decide +kernel
theorem dMo_attackersOf_1 : decode cMo_attackersOf 1 = .ok (.lstore_n 3, 1) := by decide +kernel
theorem dMo_attackersOf_2 : decode cMo_attackersOf 2 = .ok (.iconst 0, 1) := by decide +kernel
theorem dMo_attackersOf_3 : decode cMo_attackersOf 3 = .ok (.istore 5, 2) := by decide +kernel
theorem dMo_attackersOf_5 : decode cMo_attackersOf 5 = .ok (.iload 5, 2) := by decide +kernel
theorem dMo_attackersOf_7 : decode cMo_attackersOf 7 = .ok (.bipush 64, 2) := by decide +kernel
theorem dMo_attackersOf_9 : decode cMo_attackersOf 9 = .ok (.if_icmp .ge 43, 3) := by decide +kernel
theorem dMo_attackersOf_12 : decode cMo_attackersOf 12 = .ok (.aload_n 0, 1) := by decide +kernel
theorem dMo_attackersOf_13 : decode cMo_attackersOf 13 = .ok (.iload 5, 2) := by decide +kernel
theorem dMo_attackersOf_15 : decode cMo_attackersOf 15 = .ok (.iload_n 2, 1) := by decide +kernel
theorem dMo_attackersOf_16 : decode cMo_attackersOf 16 = .ok (.invokevirtual 93, 3) := by decide +kernel
theorem dMo_attackersOf_19 : decode cMo_attackersOf 19 = .ok (.ifCond .eq 27, 3) := by decide +kernel
theorem dMo_attackersOf_22 : decode cMo_attackersOf 22 = .ok (.aload_n 0, 1) := by decide +kernel
theorem dMo_attackersOf_23 : decode cMo_attackersOf 23 = .ok (.iload 5, 2) := by decide +kernel
theorem dMo_attackersOf_25 : decode cMo_attackersOf 25 = .ok (.invokevirtual 96, 3) := by decide +kernel
theorem dMo_attackersOf_28 : decode cMo_attackersOf 28 = .ok (.iload_n 1, 1) := by decide +kernel
theorem dMo_attackersOf_29 : decode cMo_attackersOf 29 = .ok (.invokestatic 81, 3) := by decide +kernel
theorem dMo_attackersOf_32 : decode cMo_attackersOf 32 = .ok (.land, 1) := by decide +kernel
theorem dMo_attackersOf_33 : decode cMo_attackersOf 33 = .ok (.lconst 0, 1) := by decide +kernel
theorem dMo_attackersOf_34 : decode cMo_attackersOf 34 = .ok (.lcmp, 1) := by decide +kernel
theorem dMo_attackersOf_35 : decode cMo_attackersOf 35 = .ok (.ifCond .eq 11, 3) := by decide +kernel
theorem dMo_attackersOf_38 : decode cMo_attackersOf 38 = .ok (.lload_n 3, 1) := by decide +kernel
theorem dMo_attackersOf_39 : decode cMo_attackersOf 39 = .ok (.iload 5, 2) := by decide +kernel
theorem dMo_attackersOf_41 : decode cMo_attackersOf 41 = .ok (.invokestatic 81, 3) := by decide +kernel
theorem dMo_attackersOf_44 : decode cMo_attackersOf 44 = .ok (.lor, 1) := by decide +kernel
theorem dMo_attackersOf_45 : decode cMo_attackersOf 45 = .ok (.lstore_n 3, 1) := by decide +kernel
theorem dMo_attackersOf_46 : decode cMo_attackersOf 46 = .ok (.iinc 5 1, 3) := by decide +kernel
theorem dMo_attackersOf_49 : decode cMo_attackersOf 49 = .ok (.goto (-44), 3) := by decide +kernel
theorem dMo_attackersOf_52 : decode cMo_attackersOf 52 = .ok (.lload_n 3, 1) := by decide +kernel
theorem dMo_attackersOf_53 : decode cMo_attackersOf 53 = .ok (.lreturn, 1) := by decide +kernel

def f_Mo_attackersOf_5 (oS_men : Nat → Int32) (square : Int32) (sd : Int32) : Nat → Int64 → Int32 → Int64
  | 0 => fun _ _ => 0
  | n_5 + 1 => fun v3_5 v5_5 => (if 64 ≤ v5_5 then v3_5 else (if (f_Mo_isOf oS_men v5_5 sd) = 0 then (f_Mo_attackersOf_5 oS_men square sd n_5) v3_5 (v5_5 + 1) else (if ((f_Mo_attacked oS_men v5_5) &&& (f_Mo_bit square)) = 0 then (f_Mo_attackersOf_5 oS_men square sd n_5) v3_5 (v5_5 + 1) else (f_Mo_attackersOf_5 oS_men square sd n_5) (v3_5 ||| (f_Mo_bit v5_5)) (v5_5 + 1))))
theorem f_Mo_attackersOf_5_eq (oS_men : Nat → Int32) (square : Int32) (sd : Int32) (n_5 : Nat) (v3_5 : Int64) (v5_5 : Int32) : f_Mo_attackersOf_5 oS_men square sd (n_5 + 1) v3_5 v5_5 =
  (if 64 ≤ v5_5 then v3_5 else (if (f_Mo_isOf oS_men v5_5 sd) = 0 then (f_Mo_attackersOf_5 oS_men square sd n_5) v3_5 (v5_5 + 1) else (if ((f_Mo_attacked oS_men v5_5) &&& (f_Mo_bit square)) = 0 then (f_Mo_attackersOf_5 oS_men square sd n_5) v3_5 (v5_5 + 1) else (f_Mo_attackersOf_5 oS_men square sd n_5) (v3_5 ||| (f_Mo_bit v5_5)) (v5_5 + 1)))) := rfl

def f_Mo_attackersOf (oS_men : Nat → Int32) (square : Int32) (sd : Int32) : Int64 :=
  f_Mo_attackersOf_5 oS_men square sd (65) 0 0
theorem f_Mo_attackersOf_eq (oS_men : Nat → Int32) (square : Int32) (sd : Int32) : f_Mo_attackersOf oS_men square sd =
  f_Mo_attackersOf_5 oS_men square sd (65) 0 0 := rfl

set_option maxHeartbeats 4000000 in
set_option maxRecDepth 100000 in
theorem c_Mo_attackersOf (l : Launch) (dC : Nat → ClassId) (dI : Nat → Nat → Nat) (cI cJ cC : ClassId) (ad : Nat → Nat) (o o_text o_out o_men o_pastMen o_pastSide o_pastRights o_pastPassed o_pastClock o_pastNumber o_pastTakes o_playedMoves o_keptMen o_keptRest o_lists o_counts : Nat) (oS_thrown : Int32) (oS_typed : Int32) (oS_text : Nat → Int32) (oS_told : Int32) (oS_out : Nat → Int32) (oS_men : Nat → Int32) (oS_side : Int32) (oS_rights : Int32) (oS_passed : Int32) (oS_clock : Int32) (oS_number : Int32) (oS_plies : Int32) (oS_pastMen : Nat → Int32) (oS_pastSide : Nat → Int32) (oS_pastRights : Nat → Int32) (oS_pastPassed : Nat → Int32) (oS_pastClock : Nat → Int32) (oS_pastNumber : Nat → Int32) (oS_pastTakes : Nat → Int64) (oS_playedMoves : Nat → Int32) (oS_keptMen : Nat → Int32) (oS_keptRest : Nat → Int32) (oS_lists : Nat → Int32) (oS_counts : Nat → Int32) (square : Int32) (sd : Int32) : Met l yMo_attackersOf wsMo_attackersOf { frames := 4, cells := 0, slots := 0, locals := 99 } (roP dC dI (TYS cI cJ cC) [.ref o, .int square, .int sd] [(o, .inr (6, [.int oS_thrown, .int oS_typed, .ref o_text, .int oS_told, .ref o_out, .ref o_men, .int oS_side, .int oS_rights, .int oS_passed, .int oS_clock, .int oS_number, .int oS_plies, .ref o_pastMen, .ref o_pastSide, .ref o_pastRights, .ref o_pastPassed, .ref o_pastClock, .ref o_pastNumber, .ref o_pastTakes, .ref o_playedMoves, .ref o_keptMen, .ref o_keptRest, .ref o_lists, .ref o_counts])), (o_text, .inl (cC, 100, .inl oS_text)), (o_out, .inl (cC, 100, .inl oS_out)), (o_men, .inl (cI, 64, .inl oS_men)), (o_pastMen, .inl (cI, 25664, .inl oS_pastMen)), (o_pastSide, .inl (cI, 401, .inl oS_pastSide)), (o_pastRights, .inl (cI, 401, .inl oS_pastRights)), (o_pastPassed, .inl (cI, 401, .inl oS_pastPassed)), (o_pastClock, .inl (cI, 401, .inl oS_pastClock)), (o_pastNumber, .inl (cI, 401, .inl oS_pastNumber)), (o_pastTakes, .inl (cJ, 401, .inr (.inl oS_pastTakes))), (o_playedMoves, .inl (cI, 400, .inl oS_playedMoves)), (o_keptMen, .inl (cI, 384, .inl oS_keptMen)), (o_keptRest, .inl (cI, 30, .inl oS_keptRest)), (o_lists, .inl (cI, 8192, .inl oS_lists)), (o_counts, .inl (cI, 4, .inl oS_counts))] (GS ad)) (vp_Sl (fun r => r = f_Mo_attackersOf oS_men square sd)) 0 0 (fun _ => False) := by
  refine Met.ofW (cc := cMo_attackersOf) (maxL := 6) (ret := (some .long)) (by decide) rfl ?_
  intro p e s m args below meth c s₁ B hml hv
  obtain ⟨rfl, hP, hK, hG⟩ := hv
  have hx := B.exec
  have hb := B.bytes
  have hr := B.returns
  have hB : ∀ w9 ∈ BIG, w9.before ([.ref o, .int square, .int sd]).toArray s = true := fun w9 h => atoms_spec (ws := wsMo_attackersOf) B.pre w9 (List.mem_cons_of_mem _ h)
  have hown : s.vm.findClass "ChessRulesModel" = some m.cls := findClass_of_methodNamed B.named
  have hlocks := B.notSynchronized
  have hS : va_S (fun _ => False) s.heap s.heap [] := va_S.rf
  have hP : va_P (dC, dI) vwCl [(o, .inr (6, [.int oS_thrown, .int oS_typed, .ref o_text, .int oS_told, .ref o_out, .ref o_men, .int oS_side, .int oS_rights, .int oS_passed, .int oS_clock, .int oS_number, .int oS_plies, .ref o_pastMen, .ref o_pastSide, .ref o_pastRights, .ref o_pastPassed, .ref o_pastClock, .ref o_pastNumber, .ref o_pastTakes, .ref o_playedMoves, .ref o_keptMen, .ref o_keptRest, .ref o_lists, .ref o_counts])), (o_text, .inl (cC, 100, .inl oS_text)), (o_out, .inl (cC, 100, .inl oS_out)), (o_men, .inl (cI, 64, .inl oS_men)), (o_pastMen, .inl (cI, 25664, .inl oS_pastMen)), (o_pastSide, .inl (cI, 401, .inl oS_pastSide)), (o_pastRights, .inl (cI, 401, .inl oS_pastRights)), (o_pastPassed, .inl (cI, 401, .inl oS_pastPassed)), (o_pastClock, .inl (cI, 401, .inl oS_pastClock)), (o_pastNumber, .inl (cI, 401, .inl oS_pastNumber)), (o_pastTakes, .inl (cJ, 401, .inr (.inl oS_pastTakes))), (o_playedMoves, .inl (cI, 400, .inl oS_playedMoves)), (o_keptMen, .inl (cI, 384, .inl oS_keptMen)), (o_keptRest, .inl (cI, 30, .inl oS_keptRest)), (o_lists, .inl (cI, 8192, .inl oS_lists)), (o_counts, .inl (cI, 4, .inl oS_counts))] s.heap := hP
  have hl := lv_entry ([.ref o, .int square, .int sd]) (n := 6) (Nat.le_of_ble_eq_true rfl)
  rw [lg_entry_eq]
  generalize (lg_sl ([.ref o, .int square, .int sd]) ++ List.replicate (6 - (lg_sl ([.ref o, .int square, .int sd])).length) Slot.unset).toArray = ls at hl ⊢
  have hl : lv_has ls 6 [(0, .ref o), (1, .int square), (2, .int sd)] := hl
  refine lv_lconst (v := 0) hx hb dMo_attackersOf_0 (by decide) ?_
  refine lv_lstore_n (lv' := [(3, .long 0), (0, .ref o), (1, .int square), (2, .int sd)]) hx hb dMo_attackersOf_1 rfl hl (by decide) rfl (fun ls hl => ?_)
  refine lv_iconst (v := 0) hx hb dMo_attackersOf_2 (by decide) ?_
  refine lv_istore (lv' := [(5, .int 0), (3, .long 0), (0, .ref o), (1, .int square), (2, .int sd)]) hx hb dMo_attackersOf_3 hl (by decide) rfl (fun ls hl => ?_)
  have J_5 : ∀ (n_5 : Nat) (v3_5 : Int64) (v5_5 : Int32), f_Mo_attackersOf oS_men square sd = f_Mo_attackersOf_5 oS_men square sd n_5 v3_5 v5_5 → ((0 : Int) ≤ v5_5.toInt ∧ (64 : Int32).toInt - v5_5.toInt + 1 ≤ (n_5 : Int) ∧ (1 : Int) ≤ (n_5 : Int)) → ∀ ls : Array Slot, lv_has ls 6 [(0, .ref o), (1, .int square), (2, .int sd), (3, .long v3_5), (5, .int v5_5)] → W p l e (headSpec wsMo_attackersOf { frames := 4, cells := 0, slots := 0, locals := 99 }).room s m ([.ref o, .int square, .int sd]).toArray below meth c s.heap [] 0 0 (MQ below (vp_Sl (fun r => r = f_Mo_attackersOf oS_men square sd)) ([.ref o, .int square, .int sd]).toArray s 0 0 (fun _ => False)) (F0 m 5 ls []) := by
    intro n_5
    induction n_5 with
    | zero => intro v3_5 v5_5 _ hm_5; exact absurd hm_5 (by omega)
    | succ n_5 ih_5 =>
      intro v3_5 v5_5 he_5 hm_5 ls hl
      refine lv_iload hx hb dMo_attackersOf_5 (lv_at hl 4 rfl) ?_
      refine lv_bipush (v := 64) hx hb dMo_attackersOf_7 (by decide) ?_
      refine lv_icmp_ge (tgt := 52) hx hb dMo_attackersOf_9 (by decide) (fun c_1 => ?_) (fun c_1 => ?_)
      · refine lv_lload_n hx hb dMo_attackersOf_52 rfl (lv_at hl 3 rfl) ?_
        exact ro_retl hx hb hr hlocks dMo_attackersOf_53 (Eq.symm (he_5.trans (by rw [f_Mo_attackersOf_5_eq, if_pos c_1] <;> rfl)))
      · refine lv_aload_n hx hb dMo_attackersOf_12 rfl (lv_at hl 0 rfl) ?_
        refine lv_iload hx hb dMo_attackersOf_13 (lv_at hl 4 rfl) ?_
        refine lv_iload_n hx hb dMo_attackersOf_15 rfl (lv_at hl 2 rfl) ?_
        refine ro_goi (va_runV (C := "ChessRulesModel") (As := [.int v5_5, .int sd]) (rest := []) ⟨hx, hb, hml, hown, hB⟩ (c_Mo_isOf l dC dI cI cJ cC ad o o_text o_out o_men o_pastMen o_pastSide o_pastRights o_pastPassed o_pastClock o_pastNumber o_pastTakes o_playedMoves o_keptMen o_keptRest o_lists o_counts oS_thrown oS_typed oS_text oS_told oS_out oS_men oS_side oS_rights oS_passed oS_clock oS_number oS_plies oS_pastMen oS_pastSide oS_pastRights oS_pastPassed oS_pastClock oS_pastNumber oS_pastTakes oS_playedMoves oS_keptMen oS_keptRest oS_lists oS_counts v5_5 sd (by have z1 := tnle c_1; have y64 : (64 : Int32).toInt = 64 := rfl; omega)) ⟨callB_of 2 hB (big_self q5_6) rfl rfl rfl (hB _ q1_15) (hB _ q5_3) (by decide +kernel) ⟨Nat.le_of_ble_eq_true rfl, Nat.le_of_ble_eq_true rfl⟩, (hB _ q5_5), (hB _ qs5_9)⟩ (ro_preV (GS_ok ad) hK hP hG hS [0, 1, 2, 3, 4, 5, 6, 7, 8, 9, 10, 11, 12, 13, 14, 15] rfl (va_recv hK hP (ci := 6) (q0 := 0) rfl rfl)) rfl rfl hl.1 rfl (lv_room (Nat.le_of_ble_eq_true rfl)) dMo_attackersOf_16 ⟨Nat.le_of_ble_eq_true rfl, Nat.le_of_ble_eq_true rfl⟩) ?_
        refine lv_if_eq (tgt := 46) hx hb dMo_attackersOf_19 (by decide) (fun c_2 => ?_) (fun c_2 => ?_)
        · refine lv_iinc (v := v5_5 + 1) (lv' := [(5, .int (v5_5 + 1)), (0, .ref o), (1, .int square), (2, .int sd), (3, .long v3_5)]) hx hb dMo_attackersOf_46 hl (k := 4) rfl rfl (by decide) rfl (fun ls hl => ?_)
          refine lv_goto (tgt := 5) hx hb dMo_attackersOf_49 (by decide) ?_
          exact ih_5 v3_5 (v5_5 + 1) (he_5.trans (by rw [f_Mo_attackersOf_5_eq, if_neg c_1, if_pos c_2] <;> rfl)) (by have z1 := tnle c_1; have z2 := teq c_2; have y0 : (0 : Int32).toInt = 0 := rfl; have y64 : (64 : Int32).toInt = 64 := rfl; have zr := i_rng (64 : Int32); have zs := i_succ9 v5_5 (by omega); omega) ls (lv_sub hl [1, 2, 3, 4, 0] rfl)
        · refine lv_aload_n hx hb dMo_attackersOf_22 rfl (lv_at hl 0 rfl) ?_
          refine lv_iload hx hb dMo_attackersOf_23 (lv_at hl 4 rfl) ?_
          refine ro_gol (va_runV (C := "ChessRulesModel") (As := [.int v5_5]) (rest := []) ⟨hx, hb, hml, hown, hB⟩ (c_Mo_attacked l dC dI cI cJ cC ad o o_text o_out o_men o_pastMen o_pastSide o_pastRights o_pastPassed o_pastClock o_pastNumber o_pastTakes o_playedMoves o_keptMen o_keptRest o_lists o_counts oS_thrown oS_typed oS_text oS_told oS_out oS_men oS_side oS_rights oS_passed oS_clock oS_number oS_plies oS_pastMen oS_pastSide oS_pastRights oS_pastPassed oS_pastClock oS_pastNumber oS_pastTakes oS_playedMoves oS_keptMen oS_keptRest oS_lists oS_counts v5_5 (by have z1 := tnle c_1; have z2 := tne c_2; have y0 : (0 : Int32).toInt = 0 := rfl; have y64 : (64 : Int32).toInt = 64 := rfl; omega)) ⟨callB_of 1 hB (big_self q4_199) rfl rfl rfl (hB _ q1_15) (hB _ q4_196) (by decide +kernel) ⟨Nat.le_of_ble_eq_true rfl, Nat.le_of_ble_eq_true rfl⟩, (hB _ q4_198), (hB _ qs5_1)⟩ (ro_preV (GS_ok ad) hK hP hG hS [0, 1, 2, 3, 4, 5, 6, 7, 8, 9, 10, 11, 12, 13, 14, 15] rfl (va_recv hK hP (ci := 6) (q0 := 0) rfl rfl)) rfl rfl hl.1 rfl (lv_room (Nat.le_of_ble_eq_true rfl)) dMo_attackersOf_25 ⟨Nat.le_of_ble_eq_true rfl, Nat.le_of_ble_eq_true rfl⟩) ?_
          refine lv_iload_n hx hb dMo_attackersOf_28 rfl (lv_at hl 1 rfl) ?_
          refine ro_gol (va_runS (As := [.int square]) (rest := [.long (f_Mo_attacked oS_men v5_5)]) ⟨hx, hb, hml, hown, hB⟩ (c_Mo_bit l dC dI cI cJ cC ad square) ⟨callB_of 1 hB (big_self q4_211) rfl rfl rfl (hB _ q1_15) (hB _ q4_209) (by decide +kernel) ⟨Nat.le_of_ble_eq_true rfl, Nat.le_of_ble_eq_true rfl⟩, (hB _ q4_210)⟩ (ro_preS (GS_ok ad) hK hP hG hS [] rfl) rfl rfl hl.1 rfl (lv_room (Nat.le_of_ble_eq_true rfl)) dMo_attackersOf_29 ⟨Nat.le_of_ble_eq_true rfl, Nat.le_of_ble_eq_true rfl⟩) ?_
          refine lv_land hx hb dMo_attackersOf_32 ?_
          refine lv_lconst (v := 0) hx hb dMo_attackersOf_33 (by decide) ?_
          refine W.lcmp hx hb dMo_attackersOf_34 ?_
          refine lv_if_eq (tgt := 46) hx hb dMo_attackersOf_35 (by decide) (fun q => let_c (h := ((f_Mo_attacked oS_men v5_5) &&& (f_Mo_bit square)) = 0) (lgc_eq.1 q) (fun c_3 => ?_)) (fun q => let_c (h := ¬ ((f_Mo_attacked oS_men v5_5) &&& (f_Mo_bit square)) = 0) (lgc_eq.2 q) (fun c_3 => ?_))
          · refine lv_iinc (v := v5_5 + 1) (lv' := [(5, .int (v5_5 + 1)), (0, .ref o), (1, .int square), (2, .int sd), (3, .long v3_5)]) hx hb dMo_attackersOf_46 hl (k := 4) rfl rfl (by decide) rfl (fun ls hl => ?_)
            refine lv_goto (tgt := 5) hx hb dMo_attackersOf_49 (by decide) ?_
            exact ih_5 v3_5 (v5_5 + 1) (he_5.trans (by rw [f_Mo_attackersOf_5_eq, if_neg c_1, if_neg c_2, if_pos c_3] <;> rfl)) (by have z1 := tnle c_1; have z2 := tne c_2; have y0 : (0 : Int32).toInt = 0 := rfl; have y64 : (64 : Int32).toInt = 64 := rfl; have zr := i_rng (64 : Int32); have zs := i_succ9 v5_5 (by omega); omega) ls (lv_sub hl [1, 2, 3, 4, 0] rfl)
          · refine lv_lload_n hx hb dMo_attackersOf_38 rfl (lv_at hl 3 rfl) ?_
            refine lv_iload hx hb dMo_attackersOf_39 (lv_at hl 4 rfl) ?_
            refine ro_gol (va_runS (As := [.int v5_5]) (rest := [.long v3_5]) ⟨hx, hb, hml, hown, hB⟩ (c_Mo_bit l dC dI cI cJ cC ad v5_5) ⟨callB_of 1 hB (big_self q4_211) rfl rfl rfl (hB _ q1_15) (hB _ q4_209) (by decide +kernel) ⟨Nat.le_of_ble_eq_true rfl, Nat.le_of_ble_eq_true rfl⟩, (hB _ q4_210)⟩ (ro_preS (GS_ok ad) hK hP hG hS [] rfl) rfl rfl hl.1 rfl (lv_room (Nat.le_of_ble_eq_true rfl)) dMo_attackersOf_41 ⟨Nat.le_of_ble_eq_true rfl, Nat.le_of_ble_eq_true rfl⟩) ?_
            refine lv_lor hx hb dMo_attackersOf_44 ?_
            refine lv_lstore_n (lv' := [(3, .long (v3_5 ||| (f_Mo_bit v5_5))), (0, .ref o), (1, .int square), (2, .int sd), (5, .int v5_5)]) hx hb dMo_attackersOf_45 rfl hl (by decide) rfl (fun ls hl => ?_)
            refine lv_iinc (v := v5_5 + 1) (lv' := [(5, .int (v5_5 + 1)), (3, .long (v3_5 ||| (f_Mo_bit v5_5))), (0, .ref o), (1, .int square), (2, .int sd)]) hx hb dMo_attackersOf_46 hl (k := 4) rfl rfl (by decide) rfl (fun ls hl => ?_)
            refine lv_goto (tgt := 5) hx hb dMo_attackersOf_49 (by decide) ?_
            exact ih_5 (v3_5 ||| (f_Mo_bit v5_5)) (v5_5 + 1) (he_5.trans (by rw [f_Mo_attackersOf_5_eq, if_neg c_1, if_neg c_2, if_neg c_3] <;> rfl)) (by have z1 := tnle c_1; have z2 := tne c_2; have y0 : (0 : Int32).toInt = 0 := rfl; have y64 : (64 : Int32).toInt = 64 := rfl; have zr := i_rng (64 : Int32); have zs := i_succ9 v5_5 (by omega); omega) ls (lv_sub hl [2, 3, 4, 1, 0] rfl)
  exact J_5 (65) 0 0 (by rw [f_Mo_attackersOf_eq] <;> rfl) (by decide) ls (lv_sub hl [2, 3, 4, 1, 0] rfl)

abbrev cMo_kingOf : ByteArray := prog_11_method_11_code
def yMo_kingOf : MethodName := ⟨"ChessRulesModel", "kingOf", "(I)I"⟩
def wsMo_kingOf : List Cond := Cond.code yMo_kingOf cMo_kingOf 4 (some .int) :: BIG
theorem dMo_kingOf_0 : decode cMo_kingOf 0 = .ok (.iconst (-1), 1) := by decide +kernel
theorem dMo_kingOf_1 : decode cMo_kingOf 1 = .ok (.istore_n 2, 1) := by decide +kernel
theorem dMo_kingOf_2 : decode cMo_kingOf 2 = .ok (.iconst 0, 1) := by decide +kernel
theorem dMo_kingOf_3 : decode cMo_kingOf 3 = .ok (.istore_n 3, 1) := by decide +kernel
theorem dMo_kingOf_4 : decode cMo_kingOf 4 = .ok (.iload_n 3, 1) := by decide +kernel
theorem dMo_kingOf_5 : decode cMo_kingOf 5 = .ok (.bipush 64, 2) := by decide +kernel
theorem dMo_kingOf_7 : decode cMo_kingOf 7 = .ok (.if_icmp .ge 31, 3) := by decide +kernel
theorem dMo_kingOf_10 : decode cMo_kingOf 10 = .ok (.aload_n 0, 1) := by decide +kernel
theorem dMo_kingOf_11 : decode cMo_kingOf 11 = .ok (.getfield 16, 3) := by decide +kernel
theorem dMo_kingOf_14 : decode cMo_kingOf 14 = .ok (.iload_n 3, 1) := by decide +kernel
theorem dMo_kingOf_15 : decode cMo_kingOf 15 = .ok (.iaload, 1) := by decide +kernel
theorem dMo_kingOf_16 : decode cMo_kingOf 16 = .ok (.bipush 6, 2) := by decide +kernel
theorem dMo_kingOf_18 : decode cMo_kingOf 18 = .ok (.bipush 8, 2) := by decide +kernel
theorem dMo_kingOf_20 : decode cMo_kingOf 20 = .ok (.iload_n 1, 1) := by decide +kernel
theorem dMo_kingOf_21 : decode cMo_kingOf 21 = .ok (.imul, 1) := by decide +kernel
theorem dMo_kingOf_22 : decode cMo_kingOf 22 = .ok (.iadd, 1) := by decide +kernel
theorem dMo_kingOf_23 : decode cMo_kingOf 23 = .ok (.if_icmp .ne 7, 3) := by decide +kernel
theorem dMo_kingOf_26 : decode cMo_kingOf 26 = .ok (.iload_n 3, 1) := by decide +kernel
theorem dMo_kingOf_27 : decode cMo_kingOf 27 = .ok (.goto 4, 3) := by decide +kernel
theorem dMo_kingOf_30 : decode cMo_kingOf 30 = .ok (.iload_n 2, 1) := by decide +kernel
theorem dMo_kingOf_31 : decode cMo_kingOf 31 = .ok (.istore_n 2, 1) := by decide +kernel
theorem dMo_kingOf_32 : decode cMo_kingOf 32 = .ok (.iinc 3 1, 3) := by decide +kernel
theorem dMo_kingOf_35 : decode cMo_kingOf 35 = .ok (.goto (-31), 3) := by decide +kernel
theorem dMo_kingOf_38 : decode cMo_kingOf 38 = .ok (.iload_n 2, 1) := by decide +kernel
theorem dMo_kingOf_39 : decode cMo_kingOf 39 = .ok (.ireturn, 1) := by decide +kernel

def f_Mo_kingOf_4 (oS_men : Nat → Int32) (sd : Int32) : Nat → Int32 → Int32 → Int32
  | 0 => fun _ _ => 0
  | n_4 + 1 => fun v2_4 v3_4 => (if 64 ≤ v3_4 then v2_4 else (if (oS_men v3_4.toNatClampNeg) = (6 + (8 * sd)) then (f_Mo_kingOf_4 oS_men sd n_4) v3_4 (v3_4 + 1) else (f_Mo_kingOf_4 oS_men sd n_4) v2_4 (v3_4 + 1)))
theorem f_Mo_kingOf_4_eq (oS_men : Nat → Int32) (sd : Int32) (n_4 : Nat) (v2_4 : Int32) (v3_4 : Int32) : f_Mo_kingOf_4 oS_men sd (n_4 + 1) v2_4 v3_4 =
  (if 64 ≤ v3_4 then v2_4 else (if (oS_men v3_4.toNatClampNeg) = (6 + (8 * sd)) then (f_Mo_kingOf_4 oS_men sd n_4) v3_4 (v3_4 + 1) else (f_Mo_kingOf_4 oS_men sd n_4) v2_4 (v3_4 + 1))) := rfl

def f_Mo_kingOf (oS_men : Nat → Int32) (sd : Int32) : Int32 :=
  f_Mo_kingOf_4 oS_men sd (65) (-1) 0
theorem f_Mo_kingOf_eq (oS_men : Nat → Int32) (sd : Int32) : f_Mo_kingOf oS_men sd =
  f_Mo_kingOf_4 oS_men sd (65) (-1) 0 := rfl

set_option maxHeartbeats 4000000 in
set_option maxRecDepth 100000 in
theorem c_Mo_kingOf (l : Launch) (dC : Nat → ClassId) (dI : Nat → Nat → Nat) (cI cJ cC : ClassId) (ad : Nat → Nat) (o o_text o_out o_men o_pastMen o_pastSide o_pastRights o_pastPassed o_pastClock o_pastNumber o_pastTakes o_playedMoves o_keptMen o_keptRest o_lists o_counts : Nat) (oS_thrown : Int32) (oS_typed : Int32) (oS_text : Nat → Int32) (oS_told : Int32) (oS_out : Nat → Int32) (oS_men : Nat → Int32) (oS_side : Int32) (oS_rights : Int32) (oS_passed : Int32) (oS_clock : Int32) (oS_number : Int32) (oS_plies : Int32) (oS_pastMen : Nat → Int32) (oS_pastSide : Nat → Int32) (oS_pastRights : Nat → Int32) (oS_pastPassed : Nat → Int32) (oS_pastClock : Nat → Int32) (oS_pastNumber : Nat → Int32) (oS_pastTakes : Nat → Int64) (oS_playedMoves : Nat → Int32) (oS_keptMen : Nat → Int32) (oS_keptRest : Nat → Int32) (oS_lists : Nat → Int32) (oS_counts : Nat → Int32) (sd : Int32) : Met l yMo_kingOf wsMo_kingOf { frames := 0, cells := 0, slots := 0, locals := 0 } (roP dC dI (TYS cI cJ cC) [.ref o, .int sd] [(o, .inr (6, [.int oS_thrown, .int oS_typed, .ref o_text, .int oS_told, .ref o_out, .ref o_men, .int oS_side, .int oS_rights, .int oS_passed, .int oS_clock, .int oS_number, .int oS_plies, .ref o_pastMen, .ref o_pastSide, .ref o_pastRights, .ref o_pastPassed, .ref o_pastClock, .ref o_pastNumber, .ref o_pastTakes, .ref o_playedMoves, .ref o_keptMen, .ref o_keptRest, .ref o_lists, .ref o_counts])), (o_text, .inl (cC, 100, .inl oS_text)), (o_out, .inl (cC, 100, .inl oS_out)), (o_men, .inl (cI, 64, .inl oS_men)), (o_pastMen, .inl (cI, 25664, .inl oS_pastMen)), (o_pastSide, .inl (cI, 401, .inl oS_pastSide)), (o_pastRights, .inl (cI, 401, .inl oS_pastRights)), (o_pastPassed, .inl (cI, 401, .inl oS_pastPassed)), (o_pastClock, .inl (cI, 401, .inl oS_pastClock)), (o_pastNumber, .inl (cI, 401, .inl oS_pastNumber)), (o_pastTakes, .inl (cJ, 401, .inr (.inl oS_pastTakes))), (o_playedMoves, .inl (cI, 400, .inl oS_playedMoves)), (o_keptMen, .inl (cI, 384, .inl oS_keptMen)), (o_keptRest, .inl (cI, 30, .inl oS_keptRest)), (o_lists, .inl (cI, 8192, .inl oS_lists)), (o_counts, .inl (cI, 4, .inl oS_counts))] (GS ad)) (vp_Si (fun r => r = f_Mo_kingOf oS_men sd)) 0 0 (fun _ => False) := by
  refine Met.ofW (cc := cMo_kingOf) (maxL := 4) (ret := (some .int)) (by decide) rfl ?_
  intro p e s m args below meth c s₁ B hml hv
  obtain ⟨rfl, hP, hK, hG⟩ := hv
  have hx := B.exec
  have hb := B.bytes
  have hr := B.returns
  have hB : ∀ w9 ∈ BIG, w9.before ([.ref o, .int sd]).toArray s = true := fun w9 h => atoms_spec (ws := wsMo_kingOf) B.pre w9 (List.mem_cons_of_mem _ h)
  have hown : s.vm.findClass "ChessRulesModel" = some m.cls := findClass_of_methodNamed B.named
  have hlocks := B.notSynchronized
  have hS : va_S (fun _ => False) s.heap s.heap [] := va_S.rf
  have hP : va_P (dC, dI) vwCl [(o, .inr (6, [.int oS_thrown, .int oS_typed, .ref o_text, .int oS_told, .ref o_out, .ref o_men, .int oS_side, .int oS_rights, .int oS_passed, .int oS_clock, .int oS_number, .int oS_plies, .ref o_pastMen, .ref o_pastSide, .ref o_pastRights, .ref o_pastPassed, .ref o_pastClock, .ref o_pastNumber, .ref o_pastTakes, .ref o_playedMoves, .ref o_keptMen, .ref o_keptRest, .ref o_lists, .ref o_counts])), (o_text, .inl (cC, 100, .inl oS_text)), (o_out, .inl (cC, 100, .inl oS_out)), (o_men, .inl (cI, 64, .inl oS_men)), (o_pastMen, .inl (cI, 25664, .inl oS_pastMen)), (o_pastSide, .inl (cI, 401, .inl oS_pastSide)), (o_pastRights, .inl (cI, 401, .inl oS_pastRights)), (o_pastPassed, .inl (cI, 401, .inl oS_pastPassed)), (o_pastClock, .inl (cI, 401, .inl oS_pastClock)), (o_pastNumber, .inl (cI, 401, .inl oS_pastNumber)), (o_pastTakes, .inl (cJ, 401, .inr (.inl oS_pastTakes))), (o_playedMoves, .inl (cI, 400, .inl oS_playedMoves)), (o_keptMen, .inl (cI, 384, .inl oS_keptMen)), (o_keptRest, .inl (cI, 30, .inl oS_keptRest)), (o_lists, .inl (cI, 8192, .inl oS_lists)), (o_counts, .inl (cI, 4, .inl oS_counts))] s.heap := hP
  have hl := lv_entry ([.ref o, .int sd]) (n := 4) (Nat.le_of_ble_eq_true rfl)
  rw [lg_entry_eq]
  generalize (lg_sl ([.ref o, .int sd]) ++ List.replicate (4 - (lg_sl ([.ref o, .int sd])).length) Slot.unset).toArray = ls at hl ⊢
  have hl : lv_has ls 4 [(0, .ref o), (1, .int sd)] := hl
  refine lv_iconst (v := (-1)) hx hb dMo_kingOf_0 (by decide) ?_
  refine lv_istore_n (lv' := [(2, .int (-1)), (0, .ref o), (1, .int sd)]) hx hb dMo_kingOf_1 rfl hl (by decide) rfl (fun ls hl => ?_)
  refine lv_iconst (v := 0) hx hb dMo_kingOf_2 (by decide) ?_
  refine lv_istore_n (lv' := [(3, .int 0), (2, .int (-1)), (0, .ref o), (1, .int sd)]) hx hb dMo_kingOf_3 rfl hl (by decide) rfl (fun ls hl => ?_)
  have J_4 : ∀ (n_4 : Nat) (v2_4 : Int32) (v3_4 : Int32), f_Mo_kingOf oS_men sd = f_Mo_kingOf_4 oS_men sd n_4 v2_4 v3_4 → ((0 : Int) ≤ v3_4.toInt ∧ (64 : Int32).toInt - v3_4.toInt + 1 ≤ (n_4 : Int) ∧ (1 : Int) ≤ (n_4 : Int)) → ∀ ls : Array Slot, lv_has ls 4 [(0, .ref o), (1, .int sd), (2, .int v2_4), (3, .int v3_4)] → W p l e (headSpec wsMo_kingOf { frames := 0, cells := 0, slots := 0, locals := 0 }).room s m ([.ref o, .int sd]).toArray below meth c s.heap [] 0 0 (MQ below (vp_Si (fun r => r = f_Mo_kingOf oS_men sd)) ([.ref o, .int sd]).toArray s 0 0 (fun _ => False)) (F0 m 4 ls []) := by
    intro n_4
    induction n_4 with
    | zero => intro v2_4 v3_4 _ hm_4; exact absurd hm_4 (by omega)
    | succ n_4 ih_4 =>
      intro v2_4 v3_4 he_4 hm_4 ls hl
      refine lv_iload_n hx hb dMo_kingOf_4 rfl (lv_at hl 3 rfl) ?_
      refine lv_bipush (v := 64) hx hb dMo_kingOf_5 (by decide) ?_
      refine lv_icmp_ge (tgt := 38) hx hb dMo_kingOf_7 (by decide) (fun c_1 => ?_) (fun c_1 => ?_)
      · refine lv_iload_n hx hb dMo_kingOf_38 rfl (lv_at hl 2 rfl) ?_
        exact ro_reti hx hb hr hlocks dMo_kingOf_39 (Eq.symm (he_4.trans (by rw [f_Mo_kingOf_4_eq, if_pos c_1] <;> rfl)))
      · refine lv_aload_n hx hb dMo_kingOf_10 rfl (lv_at hl 0 rfl) ?_
        refine va_get (D := (dC, dI)) (ci := 6) (v := .ref o_men) (C := RMo) (T := TMo) (N := 24) hx hb hB inMo hown hK hP 0 rfl rfl 5 (by decide) (hB _ q5_16) (fun _ h9 => h9) rfl dMo_kingOf_11 ?_
        refine lv_iload_n hx hb dMo_kingOf_14 rfl (lv_at hl 3 rfl) ?_
        refine va_iald hx hb hK hP 3 0 rfl rfl (vp_in_iff.mpr (by have z1 := tnle c_1; have y64 : (64 : Int32).toInt = 64 := rfl; omega)) dMo_kingOf_15 ?_
        refine lv_bipush (v := 6) hx hb dMo_kingOf_16 (by decide) ?_
        refine lv_bipush (v := 8) hx hb dMo_kingOf_18 (by decide) ?_
        refine lv_iload_n hx hb dMo_kingOf_20 rfl (lv_at hl 1 rfl) ?_
        refine lv_imul hx hb dMo_kingOf_21 ?_
        refine lv_iadd hx hb dMo_kingOf_22 ?_
        refine lv_icmp_ne (tgt := 30) hx hb dMo_kingOf_23 (by decide) (fun c_2 => ?_) (fun c_2 => ?_)
        · refine lv_iload_n hx hb dMo_kingOf_30 rfl (lv_at hl 2 rfl) ?_
          refine lv_istore_n (lv' := [(2, .int v2_4), (0, .ref o), (1, .int sd), (3, .int v3_4)]) hx hb dMo_kingOf_31 rfl hl (by decide) rfl (fun ls hl => ?_)
          refine lv_iinc (v := v3_4 + 1) (lv' := [(3, .int (v3_4 + 1)), (2, .int v2_4), (0, .ref o), (1, .int sd)]) hx hb dMo_kingOf_32 hl (k := 3) rfl rfl (by decide) rfl (fun ls hl => ?_)
          refine lv_goto (tgt := 4) hx hb dMo_kingOf_35 (by decide) ?_
          exact ih_4 v2_4 (v3_4 + 1) (he_4.trans (by rw [f_Mo_kingOf_4_eq, if_neg c_1, if_neg c_2] <;> rfl)) (by have z1 := tnle c_1; have z2 := tne c_2; have y6 : (6 : Int32).toInt = 6 := rfl; have y8 : (8 : Int32).toInt = 8 := rfl; have y64 : (64 : Int32).toInt = 64 := rfl; have zr := i_rng (64 : Int32); have zs := i_succ9 v3_4 (by omega); omega) ls (lv_sub hl [2, 3, 1, 0] rfl)
        · refine lv_iload_n hx hb dMo_kingOf_26 rfl (lv_at hl 3 rfl) ?_
          refine lv_goto (tgt := 31) hx hb dMo_kingOf_27 (by decide) ?_
          refine lv_istore_n (lv' := [(2, .int v3_4), (0, .ref o), (1, .int sd), (3, .int v3_4)]) hx hb dMo_kingOf_31 rfl hl (by decide) rfl (fun ls hl => ?_)
          refine lv_iinc (v := v3_4 + 1) (lv' := [(3, .int (v3_4 + 1)), (2, .int v3_4), (0, .ref o), (1, .int sd)]) hx hb dMo_kingOf_32 hl (k := 3) rfl rfl (by decide) rfl (fun ls hl => ?_)
          refine lv_goto (tgt := 4) hx hb dMo_kingOf_35 (by decide) ?_
          exact ih_4 v3_4 (v3_4 + 1) (he_4.trans (by rw [f_Mo_kingOf_4_eq, if_neg c_1, if_pos c_2] <;> rfl)) (by have z1 := tnle c_1; have z2 := teq c_2; have y6 : (6 : Int32).toInt = 6 := rfl; have y8 : (8 : Int32).toInt = 8 := rfl; have y64 : (64 : Int32).toInt = 64 := rfl; have zr := i_rng (64 : Int32); have zs := i_succ9 v3_4 (by omega); omega) ls (lv_sub hl [2, 3, 1, 0] rfl)
  exact J_4 (65) (-1) 0 (by rw [f_Mo_kingOf_eq] <;> rfl) (by decide) ls (lv_sub hl [2, 3, 1, 0] rfl)

abbrev cMo_inCheck : ByteArray := prog_11_method_12_code
def yMo_inCheck : MethodName := ⟨"ChessRulesModel", "inCheck", "(I)Z"⟩
def wsMo_inCheck : List Cond := Cond.code yMo_inCheck cMo_inCheck 2 (some .boolean) :: BIG
theorem dMo_inCheck_0 : decode cMo_inCheck 0 = .ok (.aload_n 0, 1) := by decide +kernel
theorem dMo_inCheck_1 : decode cMo_inCheck 1 = .ok (.aload_n 0, 1) := by decide +kernel
theorem dMo_inCheck_2 : decode cMo_inCheck 2 = .ok (.iload_n 1, 1) := by decide +kernel
theorem dMo_inCheck_3 : decode cMo_inCheck 3 = .ok (.invokevirtual 99, 3) := by decide +kernel
theorem dMo_inCheck_6 : decode cMo_inCheck 6 = .ok (.iconst 1, 1) := by decide +kernel
theorem dMo_inCheck_7 : decode cMo_inCheck 7 = .ok (.iload_n 1, 1) := by decide +kernel
theorem dMo_inCheck_8 : decode cMo_inCheck 8 = .ok (.isub, 1) := by decide +kernel
theorem dMo_inCheck_9 : decode cMo_inCheck 9 = .ok (.invokevirtual 102, 3) := by decide +kernel
theorem dMo_inCheck_12 : decode cMo_inCheck 12 = .ok (.lconst 0, 1) := by decide +kernel
theorem dMo_inCheck_13 : decode cMo_inCheck 13 = .ok (.lcmp, 1) := by decide +kernel
theorem dMo_inCheck_14 : decode cMo_inCheck 14 = .ok (.ifCond .eq 7, 3) := by decide +kernel
theorem dMo_inCheck_17 : decode cMo_inCheck 17 = .ok (.iconst 1, 1) := by decide +kernel
theorem dMo_inCheck_18 : decode cMo_inCheck 18 = .ok (.goto 4, 3) := by decide +kernel
theorem dMo_inCheck_21 : decode cMo_inCheck 21 = .ok (.iconst 0, 1) := by decide +kernel
theorem dMo_inCheck_22 : decode cMo_inCheck 22 = .ok (.ireturn, 1) := by decide +kernel

def f_Mo_inCheck (oS_men : Nat → Int32) (sd : Int32) : Int32 :=
  (if (f_Mo_attackersOf oS_men (f_Mo_kingOf oS_men sd) (1 - sd)) = 0 then 0 else 1)
theorem f_Mo_inCheck_eq (oS_men : Nat → Int32) (sd : Int32) : f_Mo_inCheck oS_men sd =
  (if (f_Mo_attackersOf oS_men (f_Mo_kingOf oS_men sd) (1 - sd)) = 0 then 0 else 1) := rfl

set_option maxHeartbeats 4000000 in
set_option maxRecDepth 100000 in
theorem c_Mo_inCheck (l : Launch) (dC : Nat → ClassId) (dI : Nat → Nat → Nat) (cI cJ cC : ClassId) (ad : Nat → Nat) (o o_text o_out o_men o_pastMen o_pastSide o_pastRights o_pastPassed o_pastClock o_pastNumber o_pastTakes o_playedMoves o_keptMen o_keptRest o_lists o_counts : Nat) (oS_thrown : Int32) (oS_typed : Int32) (oS_text : Nat → Int32) (oS_told : Int32) (oS_out : Nat → Int32) (oS_men : Nat → Int32) (oS_side : Int32) (oS_rights : Int32) (oS_passed : Int32) (oS_clock : Int32) (oS_number : Int32) (oS_plies : Int32) (oS_pastMen : Nat → Int32) (oS_pastSide : Nat → Int32) (oS_pastRights : Nat → Int32) (oS_pastPassed : Nat → Int32) (oS_pastClock : Nat → Int32) (oS_pastNumber : Nat → Int32) (oS_pastTakes : Nat → Int64) (oS_playedMoves : Nat → Int32) (oS_keptMen : Nat → Int32) (oS_keptRest : Nat → Int32) (oS_lists : Nat → Int32) (oS_counts : Nat → Int32) (sd : Int32) : Met l yMo_inCheck wsMo_inCheck { frames := 5, cells := 0, slots := 0, locals := 124 } (roP dC dI (TYS cI cJ cC) [.ref o, .int sd] [(o, .inr (6, [.int oS_thrown, .int oS_typed, .ref o_text, .int oS_told, .ref o_out, .ref o_men, .int oS_side, .int oS_rights, .int oS_passed, .int oS_clock, .int oS_number, .int oS_plies, .ref o_pastMen, .ref o_pastSide, .ref o_pastRights, .ref o_pastPassed, .ref o_pastClock, .ref o_pastNumber, .ref o_pastTakes, .ref o_playedMoves, .ref o_keptMen, .ref o_keptRest, .ref o_lists, .ref o_counts])), (o_text, .inl (cC, 100, .inl oS_text)), (o_out, .inl (cC, 100, .inl oS_out)), (o_men, .inl (cI, 64, .inl oS_men)), (o_pastMen, .inl (cI, 25664, .inl oS_pastMen)), (o_pastSide, .inl (cI, 401, .inl oS_pastSide)), (o_pastRights, .inl (cI, 401, .inl oS_pastRights)), (o_pastPassed, .inl (cI, 401, .inl oS_pastPassed)), (o_pastClock, .inl (cI, 401, .inl oS_pastClock)), (o_pastNumber, .inl (cI, 401, .inl oS_pastNumber)), (o_pastTakes, .inl (cJ, 401, .inr (.inl oS_pastTakes))), (o_playedMoves, .inl (cI, 400, .inl oS_playedMoves)), (o_keptMen, .inl (cI, 384, .inl oS_keptMen)), (o_keptRest, .inl (cI, 30, .inl oS_keptRest)), (o_lists, .inl (cI, 8192, .inl oS_lists)), (o_counts, .inl (cI, 4, .inl oS_counts))] (GS ad)) (vp_Si (fun r => r = f_Mo_inCheck oS_men sd)) 0 0 (fun _ => False) := by
  refine Met.ofW (cc := cMo_inCheck) (maxL := 2) (ret := (some .boolean)) (by decide) rfl ?_
  intro p e s m args below meth c s₁ B hml hv
  obtain ⟨rfl, hP, hK, hG⟩ := hv
  have hx := B.exec
  have hb := B.bytes
  have hr := B.returns
  have hB : ∀ w9 ∈ BIG, w9.before ([.ref o, .int sd]).toArray s = true := fun w9 h => atoms_spec (ws := wsMo_inCheck) B.pre w9 (List.mem_cons_of_mem _ h)
  have hown : s.vm.findClass "ChessRulesModel" = some m.cls := findClass_of_methodNamed B.named
  have hlocks := B.notSynchronized
  have hS : va_S (fun _ => False) s.heap s.heap [] := va_S.rf
  have hP : va_P (dC, dI) vwCl [(o, .inr (6, [.int oS_thrown, .int oS_typed, .ref o_text, .int oS_told, .ref o_out, .ref o_men, .int oS_side, .int oS_rights, .int oS_passed, .int oS_clock, .int oS_number, .int oS_plies, .ref o_pastMen, .ref o_pastSide, .ref o_pastRights, .ref o_pastPassed, .ref o_pastClock, .ref o_pastNumber, .ref o_pastTakes, .ref o_playedMoves, .ref o_keptMen, .ref o_keptRest, .ref o_lists, .ref o_counts])), (o_text, .inl (cC, 100, .inl oS_text)), (o_out, .inl (cC, 100, .inl oS_out)), (o_men, .inl (cI, 64, .inl oS_men)), (o_pastMen, .inl (cI, 25664, .inl oS_pastMen)), (o_pastSide, .inl (cI, 401, .inl oS_pastSide)), (o_pastRights, .inl (cI, 401, .inl oS_pastRights)), (o_pastPassed, .inl (cI, 401, .inl oS_pastPassed)), (o_pastClock, .inl (cI, 401, .inl oS_pastClock)), (o_pastNumber, .inl (cI, 401, .inl oS_pastNumber)), (o_pastTakes, .inl (cJ, 401, .inr (.inl oS_pastTakes))), (o_playedMoves, .inl (cI, 400, .inl oS_playedMoves)), (o_keptMen, .inl (cI, 384, .inl oS_keptMen)), (o_keptRest, .inl (cI, 30, .inl oS_keptRest)), (o_lists, .inl (cI, 8192, .inl oS_lists)), (o_counts, .inl (cI, 4, .inl oS_counts))] s.heap := hP
  have hl := lv_entry ([.ref o, .int sd]) (n := 2) (Nat.le_of_ble_eq_true rfl)
  rw [lg_entry_eq]
  generalize (lg_sl ([.ref o, .int sd]) ++ List.replicate (2 - (lg_sl ([.ref o, .int sd])).length) Slot.unset).toArray = ls at hl ⊢
  have hl : lv_has ls 2 [(0, .ref o), (1, .int sd)] := hl
  refine lv_aload_n hx hb dMo_inCheck_0 rfl (lv_at hl 0 rfl) ?_
  refine lv_aload_n hx hb dMo_inCheck_1 rfl (lv_at hl 0 rfl) ?_
  refine lv_iload_n hx hb dMo_inCheck_2 rfl (lv_at hl 1 rfl) ?_
  refine ro_goi (va_runV (C := "ChessRulesModel") (As := [.int sd]) (rest := [.ref o]) ⟨hx, hb, hml, hown, hB⟩ (c_Mo_kingOf l dC dI cI cJ cC ad o o_text o_out o_men o_pastMen o_pastSide o_pastRights o_pastPassed o_pastClock o_pastNumber o_pastTakes o_playedMoves o_keptMen o_keptRest o_lists o_counts oS_thrown oS_typed oS_text oS_told oS_out oS_men oS_side oS_rights oS_passed oS_clock oS_number oS_plies oS_pastMen oS_pastSide oS_pastRights oS_pastPassed oS_pastClock oS_pastNumber oS_pastTakes oS_playedMoves oS_keptMen oS_keptRest oS_lists oS_counts sd) ⟨callB_of 1 hB (big_self q4_238) rfl rfl rfl (hB _ q1_15) (hB _ q4_235) (by decide +kernel) ⟨Nat.le_of_ble_eq_true rfl, Nat.le_of_ble_eq_true rfl⟩, (hB _ q4_237), (hB _ qs5_7)⟩ (ro_preV (GS_ok ad) hK hP hG hS [0, 1, 2, 3, 4, 5, 6, 7, 8, 9, 10, 11, 12, 13, 14, 15] rfl (va_recv hK hP (ci := 6) (q0 := 0) rfl rfl)) rfl rfl hl.1 rfl (lv_room (Nat.le_of_ble_eq_true rfl)) dMo_inCheck_3 ⟨Nat.le_of_ble_eq_true rfl, Nat.le_of_ble_eq_true rfl⟩) ?_
  refine lv_iconst (v := 1) hx hb dMo_inCheck_6 (by decide) ?_
  refine lv_iload_n hx hb dMo_inCheck_7 rfl (lv_at hl 1 rfl) ?_
  refine lv_isub hx hb dMo_inCheck_8 ?_
  refine ro_gol (va_runV (C := "ChessRulesModel") (As := [.int (f_Mo_kingOf oS_men sd), .int (1 - sd)]) (rest := []) ⟨hx, hb, hml, hown, hB⟩ (c_Mo_attackersOf l dC dI cI cJ cC ad o o_text o_out o_men o_pastMen o_pastSide o_pastRights o_pastPassed o_pastClock o_pastNumber o_pastTakes o_playedMoves o_keptMen o_keptRest o_lists o_counts oS_thrown oS_typed oS_text oS_told oS_out oS_men oS_side oS_rights oS_passed oS_clock oS_number oS_plies oS_pastMen oS_pastSide oS_pastRights oS_pastPassed oS_pastClock oS_pastNumber oS_pastTakes oS_playedMoves oS_keptMen oS_keptRest oS_lists oS_counts (f_Mo_kingOf oS_men sd) (1 - sd)) ⟨callB_of 2 hB (big_self q5_2) rfl rfl rfl (hB _ q1_15) (hB _ q4_239) (by decide +kernel) ⟨Nat.le_of_ble_eq_true rfl, Nat.le_of_ble_eq_true rfl⟩, (hB _ q5_1), (hB _ qs5_8)⟩ (ro_preV (GS_ok ad) hK hP hG hS [0, 1, 2, 3, 4, 5, 6, 7, 8, 9, 10, 11, 12, 13, 14, 15] rfl (va_recv hK hP (ci := 6) (q0 := 0) rfl rfl)) rfl rfl hl.1 rfl (lv_room (Nat.le_of_ble_eq_true rfl)) dMo_inCheck_9 ⟨Nat.le_of_ble_eq_true rfl, Nat.le_of_ble_eq_true rfl⟩) ?_
  refine lv_lconst (v := 0) hx hb dMo_inCheck_12 (by decide) ?_
  refine W.lcmp hx hb dMo_inCheck_13 ?_
  refine lv_if_eq (tgt := 21) hx hb dMo_inCheck_14 (by decide) (fun q => let_c (h := (f_Mo_attackersOf oS_men (f_Mo_kingOf oS_men sd) (1 - sd)) = 0) (lgc_eq.1 q) (fun c_1 => ?_)) (fun q => let_c (h := ¬ (f_Mo_attackersOf oS_men (f_Mo_kingOf oS_men sd) (1 - sd)) = 0) (lgc_eq.2 q) (fun c_1 => ?_))
  · refine lv_iconst (v := 0) hx hb dMo_inCheck_21 (by decide) ?_
    exact ro_retz hx hb hr rfl hlocks dMo_inCheck_22 (Eq.symm (by rw [f_Mo_inCheck_eq, if_pos c_1] <;> rfl))
  · refine lv_iconst (v := 1) hx hb dMo_inCheck_17 (by decide) ?_
    refine lv_goto (tgt := 22) hx hb dMo_inCheck_18 (by decide) ?_
    exact ro_retz hx hb hr rfl hlocks dMo_inCheck_22 (Eq.symm (by rw [f_Mo_inCheck_eq, if_neg c_1] <;> rfl))

abbrev cMo_isEmptyBetween : ByteArray := prog_11_method_13_code
def yMo_isEmptyBetween : MethodName := ⟨"ChessRulesModel", "isEmptyBetween", "(II)Z"⟩
def wsMo_isEmptyBetween : List Cond := Cond.code yMo_isEmptyBetween cMo_isEmptyBetween 5 (some .boolean) :: BIG
theorem dMo_isEmptyBetween_0 : decode cMo_isEmptyBetween 0 = .ok (.iconst 1, 1) := by decide +kernel
theorem dMo_isEmptyBetween_1 : decode cMo_isEmptyBetween 1 = .ok (.istore_n 3, 1) := by decide +kernel
theorem dMo_isEmptyBetween_2 : decode cMo_isEmptyBetween 2 = .ok (.iload_n 1, 1) := by decide +kernel
theorem dMo_isEmptyBetween_3 : decode cMo_isEmptyBetween 3 = .ok (.iload_n 2, 1) := by decide +kernel
theorem dMo_isEmptyBetween_4 : decode cMo_isEmptyBetween 4 = .ok (.if_icmp .ge 7, 3) := by decide +kernel
theorem dMo_isEmptyBetween_7 : decode cMo_isEmptyBetween 7 = .ok (.iload_n 1, 1) := by decide +kernel
theorem dMo_isEmptyBetween_8 : decode cMo_isEmptyBetween 8 = .ok (.goto 4, 3) := by decide +kernel
theorem dMo_isEmptyBetween_11 : decode cMo_isEmptyBetween 11 = .ok (.iload_n 2, 1) := by decide +kernel
theorem dMo_isEmptyBetween_12 : decode cMo_isEmptyBetween 12 = .ok (.iconst 1, 1) := by decide +kernel
theorem dMo_isEmptyBetween_13 : decode cMo_isEmptyBetween 13 = .ok (.iadd, 1) := by decide +kernel
theorem dMo_isEmptyBetween_14 : decode cMo_isEmptyBetween 14 = .ok (.istore 4, 2) := by decide +kernel
theorem dMo_isEmptyBetween_16 : decode cMo_isEmptyBetween 16 = .ok (.iload 4, 2) := by decide +kernel
theorem dMo_isEmptyBetween_18 : decode cMo_isEmptyBetween 18 = .ok (.iload_n 1, 1) := by decide +kernel
theorem dMo_isEmptyBetween_19 : decode cMo_isEmptyBetween 19 = .ok (.iload_n 2, 1) := by decide +kernel
theorem dMo_isEmptyBetween_20 : decode cMo_isEmptyBetween 20 = .ok (.if_icmp .ge 7, 3) := by decide +kernel
theorem dMo_isEmptyBetween_23 : decode cMo_isEmptyBetween 23 = .ok (.iload_n 2, 1) := by decide +kernel
theorem dMo_isEmptyBetween_24 : decode cMo_isEmptyBetween 24 = .ok (.goto 4, 3) := by decide +kernel
theorem dMo_isEmptyBetween_27 : decode cMo_isEmptyBetween 27 = .ok (.iload_n 1, 1) := by decide +kernel
theorem dMo_isEmptyBetween_28 : decode cMo_isEmptyBetween 28 = .ok (.if_icmp .ge 29, 3) := by decide +kernel
theorem dMo_isEmptyBetween_31 : decode cMo_isEmptyBetween 31 = .ok (.iload_n 3, 1) := by decide +kernel
theorem dMo_isEmptyBetween_32 : decode cMo_isEmptyBetween 32 = .ok (.ifCond .eq 17, 3) := by decide +kernel
theorem dMo_isEmptyBetween_35 : decode cMo_isEmptyBetween 35 = .ok (.aload_n 0, 1) := by decide +kernel
theorem dMo_isEmptyBetween_36 : decode cMo_isEmptyBetween 36 = .ok (.getfield 16, 3) := by decide +kernel
theorem dMo_isEmptyBetween_39 : decode cMo_isEmptyBetween 39 = .ok (.iload 4, 2) := by decide +kernel
theorem dMo_isEmptyBetween_41 : decode cMo_isEmptyBetween 41 = .ok (.iaload, 1) := by decide +kernel
theorem dMo_isEmptyBetween_42 : decode cMo_isEmptyBetween 42 = .ok (.ifCond .ne 7, 3) := by decide +kernel
theorem dMo_isEmptyBetween_45 : decode cMo_isEmptyBetween 45 = .ok (.iconst 1, 1) := by decide +kernel
theorem dMo_isEmptyBetween_46 : decode cMo_isEmptyBetween 46 = .ok (.goto 4, 3) := by decide +kernel
theorem dMo_isEmptyBetween_49 : decode cMo_isEmptyBetween 49 = .ok (.iconst 0, 1) := by decide +kernel
theorem dMo_isEmptyBetween_50 : decode cMo_isEmptyBetween 50 = .ok (.istore_n 3, 1) := by decide +kernel
theorem dMo_isEmptyBetween_51 : decode cMo_isEmptyBetween 51 = .ok (.iinc 4 1, 3) := by decide +kernel
theorem dMo_isEmptyBetween_54 : decode cMo_isEmptyBetween 54 = .ok (.goto (-38), 3) := by decide +kernel
theorem dMo_isEmptyBetween_57 : decode cMo_isEmptyBetween 57 = .ok (.iload_n 3, 1) := by decide +kernel
theorem dMo_isEmptyBetween_58 : decode cMo_isEmptyBetween 58 = .ok (.ireturn, 1) := by decide +kernel

def f_Mo_isEmptyBetween_16 (oS_men : Nat → Int32) (a : Int32) (b : Int32) : Nat → Int32 → Int32 → Int32
  | 0 => fun _ _ => 0
  | n_16 + 1 => fun v3_16 v4_16 => (if b ≤ a then (if a ≤ v4_16 then v3_16 else (if v3_16 = 0 then (f_Mo_isEmptyBetween_16 oS_men a b n_16) 0 (v4_16 + 1) else (if (oS_men v4_16.toNatClampNeg) = 0 then (f_Mo_isEmptyBetween_16 oS_men a b n_16) 1 (v4_16 + 1) else (f_Mo_isEmptyBetween_16 oS_men a b n_16) 0 (v4_16 + 1)))) else (if b ≤ v4_16 then v3_16 else (if v3_16 = 0 then (f_Mo_isEmptyBetween_16 oS_men a b n_16) 0 (v4_16 + 1) else (if (oS_men v4_16.toNatClampNeg) = 0 then (f_Mo_isEmptyBetween_16 oS_men a b n_16) 1 (v4_16 + 1) else (f_Mo_isEmptyBetween_16 oS_men a b n_16) 0 (v4_16 + 1)))))
theorem f_Mo_isEmptyBetween_16_eq (oS_men : Nat → Int32) (a : Int32) (b : Int32) (n_16 : Nat) (v3_16 : Int32) (v4_16 : Int32) : f_Mo_isEmptyBetween_16 oS_men a b (n_16 + 1) v3_16 v4_16 =
  (if b ≤ a then (if a ≤ v4_16 then v3_16 else (if v3_16 = 0 then (f_Mo_isEmptyBetween_16 oS_men a b n_16) 0 (v4_16 + 1) else (if (oS_men v4_16.toNatClampNeg) = 0 then (f_Mo_isEmptyBetween_16 oS_men a b n_16) 1 (v4_16 + 1) else (f_Mo_isEmptyBetween_16 oS_men a b n_16) 0 (v4_16 + 1)))) else (if b ≤ v4_16 then v3_16 else (if v3_16 = 0 then (f_Mo_isEmptyBetween_16 oS_men a b n_16) 0 (v4_16 + 1) else (if (oS_men v4_16.toNatClampNeg) = 0 then (f_Mo_isEmptyBetween_16 oS_men a b n_16) 1 (v4_16 + 1) else (f_Mo_isEmptyBetween_16 oS_men a b n_16) 0 (v4_16 + 1))))) := rfl

def f_Mo_isEmptyBetween (oS_men : Nat → Int32) (a : Int32) (b : Int32) : Int32 :=
  (if b ≤ a then f_Mo_isEmptyBetween_16 oS_men a b (65) 1 (b + 1) else f_Mo_isEmptyBetween_16 oS_men a b (65) 1 (a + 1))
theorem f_Mo_isEmptyBetween_eq (oS_men : Nat → Int32) (a : Int32) (b : Int32) : f_Mo_isEmptyBetween oS_men a b =
  (if b ≤ a then f_Mo_isEmptyBetween_16 oS_men a b (65) 1 (b + 1) else f_Mo_isEmptyBetween_16 oS_men a b (65) 1 (a + 1)) := rfl

set_option maxHeartbeats 4000000 in
set_option maxRecDepth 100000 in
theorem c_Mo_isEmptyBetween (l : Launch) (dC : Nat → ClassId) (dI : Nat → Nat → Nat) (cI cJ cC : ClassId) (ad : Nat → Nat) (o o_text o_out o_men o_pastMen o_pastSide o_pastRights o_pastPassed o_pastClock o_pastNumber o_pastTakes o_playedMoves o_keptMen o_keptRest o_lists o_counts : Nat) (oS_thrown : Int32) (oS_typed : Int32) (oS_text : Nat → Int32) (oS_told : Int32) (oS_out : Nat → Int32) (oS_men : Nat → Int32) (oS_side : Int32) (oS_rights : Int32) (oS_passed : Int32) (oS_clock : Int32) (oS_number : Int32) (oS_plies : Int32) (oS_pastMen : Nat → Int32) (oS_pastSide : Nat → Int32) (oS_pastRights : Nat → Int32) (oS_pastPassed : Nat → Int32) (oS_pastClock : Nat → Int32) (oS_pastNumber : Nat → Int32) (oS_pastTakes : Nat → Int64) (oS_playedMoves : Nat → Int32) (oS_keptMen : Nat → Int32) (oS_keptRest : Nat → Int32) (oS_lists : Nat → Int32) (oS_counts : Nat → Int32) (a : Int32) (b : Int32) (ha : 0 ≤ a.toInt ∧ a.toInt < 64) (hb9 : 0 ≤ b.toInt ∧ b.toInt < 64) : Met l yMo_isEmptyBetween wsMo_isEmptyBetween { frames := 0, cells := 0, slots := 0, locals := 0 } (roP dC dI (TYS cI cJ cC) [.ref o, .int a, .int b] [(o, .inr (6, [.int oS_thrown, .int oS_typed, .ref o_text, .int oS_told, .ref o_out, .ref o_men, .int oS_side, .int oS_rights, .int oS_passed, .int oS_clock, .int oS_number, .int oS_plies, .ref o_pastMen, .ref o_pastSide, .ref o_pastRights, .ref o_pastPassed, .ref o_pastClock, .ref o_pastNumber, .ref o_pastTakes, .ref o_playedMoves, .ref o_keptMen, .ref o_keptRest, .ref o_lists, .ref o_counts])), (o_text, .inl (cC, 100, .inl oS_text)), (o_out, .inl (cC, 100, .inl oS_out)), (o_men, .inl (cI, 64, .inl oS_men)), (o_pastMen, .inl (cI, 25664, .inl oS_pastMen)), (o_pastSide, .inl (cI, 401, .inl oS_pastSide)), (o_pastRights, .inl (cI, 401, .inl oS_pastRights)), (o_pastPassed, .inl (cI, 401, .inl oS_pastPassed)), (o_pastClock, .inl (cI, 401, .inl oS_pastClock)), (o_pastNumber, .inl (cI, 401, .inl oS_pastNumber)), (o_pastTakes, .inl (cJ, 401, .inr (.inl oS_pastTakes))), (o_playedMoves, .inl (cI, 400, .inl oS_playedMoves)), (o_keptMen, .inl (cI, 384, .inl oS_keptMen)), (o_keptRest, .inl (cI, 30, .inl oS_keptRest)), (o_lists, .inl (cI, 8192, .inl oS_lists)), (o_counts, .inl (cI, 4, .inl oS_counts))] (GS ad)) (vp_Si (fun r => r = f_Mo_isEmptyBetween oS_men a b)) 0 0 (fun _ => False) := by
  refine Met.ofW (cc := cMo_isEmptyBetween) (maxL := 5) (ret := (some .boolean)) (by decide) rfl ?_
  intro p e s m args below meth c s₁ B hml hv
  obtain ⟨rfl, hP, hK, hG⟩ := hv
  have hx := B.exec
  have hb := B.bytes
  have hr := B.returns
  have hB : ∀ w9 ∈ BIG, w9.before ([.ref o, .int a, .int b]).toArray s = true := fun w9 h => atoms_spec (ws := wsMo_isEmptyBetween) B.pre w9 (List.mem_cons_of_mem _ h)
  have hown : s.vm.findClass "ChessRulesModel" = some m.cls := findClass_of_methodNamed B.named
  have hlocks := B.notSynchronized
  have hS : va_S (fun _ => False) s.heap s.heap [] := va_S.rf
  have hP : va_P (dC, dI) vwCl [(o, .inr (6, [.int oS_thrown, .int oS_typed, .ref o_text, .int oS_told, .ref o_out, .ref o_men, .int oS_side, .int oS_rights, .int oS_passed, .int oS_clock, .int oS_number, .int oS_plies, .ref o_pastMen, .ref o_pastSide, .ref o_pastRights, .ref o_pastPassed, .ref o_pastClock, .ref o_pastNumber, .ref o_pastTakes, .ref o_playedMoves, .ref o_keptMen, .ref o_keptRest, .ref o_lists, .ref o_counts])), (o_text, .inl (cC, 100, .inl oS_text)), (o_out, .inl (cC, 100, .inl oS_out)), (o_men, .inl (cI, 64, .inl oS_men)), (o_pastMen, .inl (cI, 25664, .inl oS_pastMen)), (o_pastSide, .inl (cI, 401, .inl oS_pastSide)), (o_pastRights, .inl (cI, 401, .inl oS_pastRights)), (o_pastPassed, .inl (cI, 401, .inl oS_pastPassed)), (o_pastClock, .inl (cI, 401, .inl oS_pastClock)), (o_pastNumber, .inl (cI, 401, .inl oS_pastNumber)), (o_pastTakes, .inl (cJ, 401, .inr (.inl oS_pastTakes))), (o_playedMoves, .inl (cI, 400, .inl oS_playedMoves)), (o_keptMen, .inl (cI, 384, .inl oS_keptMen)), (o_keptRest, .inl (cI, 30, .inl oS_keptRest)), (o_lists, .inl (cI, 8192, .inl oS_lists)), (o_counts, .inl (cI, 4, .inl oS_counts))] s.heap := hP
  have hl := lv_entry ([.ref o, .int a, .int b]) (n := 5) (Nat.le_of_ble_eq_true rfl)
  rw [lg_entry_eq]
  generalize (lg_sl ([.ref o, .int a, .int b]) ++ List.replicate (5 - (lg_sl ([.ref o, .int a, .int b])).length) Slot.unset).toArray = ls at hl ⊢
  have hl : lv_has ls 5 [(0, .ref o), (1, .int a), (2, .int b)] := hl
  refine lv_iconst (v := 1) hx hb dMo_isEmptyBetween_0 (by decide) ?_
  refine lv_istore_n (lv' := [(3, .int 1), (0, .ref o), (1, .int a), (2, .int b)]) hx hb dMo_isEmptyBetween_1 rfl hl (by decide) rfl (fun ls hl => ?_)
  refine lv_iload_n hx hb dMo_isEmptyBetween_2 rfl (lv_at hl 2 rfl) ?_
  refine lv_iload_n hx hb dMo_isEmptyBetween_3 rfl (lv_at hl 3 rfl) ?_
  refine lv_icmp_ge (tgt := 11) hx hb dMo_isEmptyBetween_4 (by decide) (fun c_1 => ?_) (fun c_1 => ?_)
  · refine lv_iload_n hx hb dMo_isEmptyBetween_11 rfl (lv_at hl 3 rfl) ?_
    refine lv_iconst (v := 1) hx hb dMo_isEmptyBetween_12 (by decide) ?_
    refine lv_iadd hx hb dMo_isEmptyBetween_13 ?_
    refine lv_istore (lv' := [(4, .int (b + 1)), (3, .int 1), (0, .ref o), (1, .int a), (2, .int b)]) hx hb dMo_isEmptyBetween_14 hl (by decide) rfl (fun ls hl => ?_)
    have J_16 : ∀ (n_16 : Nat) (v3_16 : Int32) (v4_16 : Int32), f_Mo_isEmptyBetween oS_men a b = f_Mo_isEmptyBetween_16 oS_men a b n_16 v3_16 v4_16 → ((0 : Int) ≤ v4_16.toInt ∧ (64 : Int32).toInt - v4_16.toInt + 1 ≤ (n_16 : Int) ∧ (1 : Int) ≤ (n_16 : Int)) → (v3_16 = 0 ∨ v3_16 = 1) → ∀ ls : Array Slot, lv_has ls 5 [(0, .ref o), (1, .int a), (2, .int b), (3, .int v3_16), (4, .int v4_16)] → W p l e (headSpec wsMo_isEmptyBetween { frames := 0, cells := 0, slots := 0, locals := 0 }).room s m ([.ref o, .int a, .int b]).toArray below meth c s.heap [] 0 0 (MQ below (vp_Si (fun r => r = f_Mo_isEmptyBetween oS_men a b)) ([.ref o, .int a, .int b]).toArray s 0 0 (fun _ => False)) (F0 m 16 ls []) := by
      intro n_16
      induction n_16 with
      | zero => intro v3_16 v4_16 _ hm_16; exact absurd hm_16 (by omega)
      | succ n_16 ih_16 =>
        intro v3_16 v4_16 he_16 hm_16 hi_16 ls hl
        refine lv_iload hx hb dMo_isEmptyBetween_16 (lv_at hl 4 rfl) ?_
        refine lv_iload_n hx hb dMo_isEmptyBetween_18 rfl (lv_at hl 1 rfl) ?_
        refine lv_iload_n hx hb dMo_isEmptyBetween_19 rfl (lv_at hl 2 rfl) ?_
        refine lv_icmp_ge (tgt := 27) hx hb dMo_isEmptyBetween_20 (by decide) (fun c_2 => ?_) (fun c_2 => ?_)
        · refine lv_iload_n hx hb dMo_isEmptyBetween_27 rfl (lv_at hl 1 rfl) ?_
          refine lv_icmp_ge (tgt := 57) hx hb dMo_isEmptyBetween_28 (by decide) (fun c_3 => ?_) (fun c_3 => ?_)
          · refine lv_iload_n hx hb dMo_isEmptyBetween_57 rfl (lv_at hl 3 rfl) ?_
            exact ro_retz hx hb hr (nar01 hi_16) hlocks dMo_isEmptyBetween_58 (Eq.symm (he_16.trans (by rw [f_Mo_isEmptyBetween_16_eq, if_pos c_2, if_pos c_3] <;> rfl)))
          · refine lv_iload_n hx hb dMo_isEmptyBetween_31 rfl (lv_at hl 3 rfl) ?_
            refine lv_if_eq (tgt := 49) hx hb dMo_isEmptyBetween_32 (by decide) (fun c_4 => ?_) (fun c_4 => ?_)
            · refine lv_iconst (v := 0) hx hb dMo_isEmptyBetween_49 (by decide) ?_
              refine lv_istore_n (lv' := [(3, .int 0), (0, .ref o), (1, .int a), (2, .int b), (4, .int v4_16)]) hx hb dMo_isEmptyBetween_50 rfl hl (by decide) rfl (fun ls hl => ?_)
              refine lv_iinc (v := v4_16 + 1) (lv' := [(4, .int (v4_16 + 1)), (3, .int 0), (0, .ref o), (1, .int a), (2, .int b)]) hx hb dMo_isEmptyBetween_51 hl (k := 4) rfl rfl (by decide) rfl (fun ls hl => ?_)
              refine lv_goto (tgt := 16) hx hb dMo_isEmptyBetween_54 (by decide) ?_
              exact ih_16 0 (v4_16 + 1) (he_16.trans (by rw [f_Mo_isEmptyBetween_16_eq, if_pos c_2, if_neg c_3, if_pos c_4] <;> rfl)) (by have z0 := tle c_1; have z2 := tle c_2; have z3 := tnle c_3; have z4 := teq c_4; have y0 : (0 : Int32).toInt = 0 := rfl; have y64 : (64 : Int32).toInt = 64 := rfl; have zr := i_rng (64 : Int32); have zs := i_succ9 v4_16 (by omega); omega) (by first | exact Or.inl rfl | exact Or.inr rfl | exact hi_16) ls (lv_sub hl [2, 3, 4, 1, 0] rfl)
            · refine lv_aload_n hx hb dMo_isEmptyBetween_35 rfl (lv_at hl 0 rfl) ?_
              refine va_get (D := (dC, dI)) (ci := 6) (v := .ref o_men) (C := RMo) (T := TMo) (N := 24) hx hb hB inMo hown hK hP 0 rfl rfl 5 (by decide) (hB _ q5_16) (fun _ h9 => h9) rfl dMo_isEmptyBetween_36 ?_
              refine lv_iload hx hb dMo_isEmptyBetween_39 (lv_at hl 4 rfl) ?_
              refine va_iald hx hb hK hP 3 0 rfl rfl (vp_in_iff.mpr (by have z0 := tle c_1; have z2 := tle c_2; have z3 := tnle c_3; have z4 := tne c_4; have y0 : (0 : Int32).toInt = 0 := rfl; omega)) dMo_isEmptyBetween_41 ?_
              refine lv_if_ne (tgt := 49) hx hb dMo_isEmptyBetween_42 (by decide) (fun c_5 => ?_) (fun c_5 => ?_)
              · refine lv_iconst (v := 0) hx hb dMo_isEmptyBetween_49 (by decide) ?_
                refine lv_istore_n (lv' := [(3, .int 0), (0, .ref o), (1, .int a), (2, .int b), (4, .int v4_16)]) hx hb dMo_isEmptyBetween_50 rfl hl (by decide) rfl (fun ls hl => ?_)
                refine lv_iinc (v := v4_16 + 1) (lv' := [(4, .int (v4_16 + 1)), (3, .int 0), (0, .ref o), (1, .int a), (2, .int b)]) hx hb dMo_isEmptyBetween_51 hl (k := 4) rfl rfl (by decide) rfl (fun ls hl => ?_)
                refine lv_goto (tgt := 16) hx hb dMo_isEmptyBetween_54 (by decide) ?_
                exact ih_16 0 (v4_16 + 1) (he_16.trans (by rw [f_Mo_isEmptyBetween_16_eq, if_pos c_2, if_neg c_3, if_neg c_4, if_neg c_5] <;> rfl)) (by have z0 := tle c_1; have z2 := tle c_2; have z3 := tnle c_3; have z4 := tne c_4; have z5 := tne c_5; have y0 : (0 : Int32).toInt = 0 := rfl; have y64 : (64 : Int32).toInt = 64 := rfl; have zr := i_rng (64 : Int32); have zs := i_succ9 v4_16 (by omega); omega) (by first | exact Or.inl rfl | exact Or.inr rfl | exact hi_16) ls (lv_sub hl [2, 3, 4, 1, 0] rfl)
              · refine lv_iconst (v := 1) hx hb dMo_isEmptyBetween_45 (by decide) ?_
                refine lv_goto (tgt := 50) hx hb dMo_isEmptyBetween_46 (by decide) ?_
                refine lv_istore_n (lv' := [(3, .int 1), (0, .ref o), (1, .int a), (2, .int b), (4, .int v4_16)]) hx hb dMo_isEmptyBetween_50 rfl hl (by decide) rfl (fun ls hl => ?_)
                refine lv_iinc (v := v4_16 + 1) (lv' := [(4, .int (v4_16 + 1)), (3, .int 1), (0, .ref o), (1, .int a), (2, .int b)]) hx hb dMo_isEmptyBetween_51 hl (k := 4) rfl rfl (by decide) rfl (fun ls hl => ?_)
                refine lv_goto (tgt := 16) hx hb dMo_isEmptyBetween_54 (by decide) ?_
                exact ih_16 1 (v4_16 + 1) (he_16.trans (by rw [f_Mo_isEmptyBetween_16_eq, if_pos c_2, if_neg c_3, if_neg c_4, if_pos c_5] <;> rfl)) (by have z0 := tle c_1; have z2 := tle c_2; have z3 := tnle c_3; have z4 := tne c_4; have z5 := teq c_5; have y0 : (0 : Int32).toInt = 0 := rfl; have y64 : (64 : Int32).toInt = 64 := rfl; have zr := i_rng (64 : Int32); have zs := i_succ9 v4_16 (by omega); omega) (by first | exact Or.inl rfl | exact Or.inr rfl | exact hi_16) ls (lv_sub hl [2, 3, 4, 1, 0] rfl)
        · refine lv_iload_n hx hb dMo_isEmptyBetween_23 rfl (lv_at hl 2 rfl) ?_
          refine lv_goto (tgt := 28) hx hb dMo_isEmptyBetween_24 (by decide) ?_
          refine lv_icmp_ge (tgt := 57) hx hb dMo_isEmptyBetween_28 (by decide) (fun c_6 => ?_) (fun c_6 => ?_)
          · refine lv_iload_n hx hb dMo_isEmptyBetween_57 rfl (lv_at hl 3 rfl) ?_
            exact ro_retz hx hb hr (nar01 hi_16) hlocks dMo_isEmptyBetween_58 (Eq.symm (he_16.trans (by rw [f_Mo_isEmptyBetween_16_eq, if_neg c_2, if_pos c_6] <;> rfl)))
          · refine lv_iload_n hx hb dMo_isEmptyBetween_31 rfl (lv_at hl 3 rfl) ?_
            refine lv_if_eq (tgt := 49) hx hb dMo_isEmptyBetween_32 (by decide) (fun c_7 => ?_) (fun c_7 => ?_)
            · refine lv_iconst (v := 0) hx hb dMo_isEmptyBetween_49 (by decide) ?_
              refine lv_istore_n (lv' := [(3, .int 0), (0, .ref o), (1, .int a), (2, .int b), (4, .int v4_16)]) hx hb dMo_isEmptyBetween_50 rfl hl (by decide) rfl (fun ls hl => ?_)
              refine lv_iinc (v := v4_16 + 1) (lv' := [(4, .int (v4_16 + 1)), (3, .int 0), (0, .ref o), (1, .int a), (2, .int b)]) hx hb dMo_isEmptyBetween_51 hl (k := 4) rfl rfl (by decide) rfl (fun ls hl => ?_)
              refine lv_goto (tgt := 16) hx hb dMo_isEmptyBetween_54 (by decide) ?_
              exact ih_16 0 (v4_16 + 1) (he_16.trans (by rw [f_Mo_isEmptyBetween_16_eq, if_neg c_2, if_neg c_6, if_pos c_7] <;> rfl)) (by have z0 := tle c_1; have z2 := tnle c_2; have z3 := tnle c_6; have z4 := teq c_7; have y0 : (0 : Int32).toInt = 0 := rfl; have y64 : (64 : Int32).toInt = 64 := rfl; have zr := i_rng (64 : Int32); have zs := i_succ9 v4_16 (by omega); omega) (by first | exact Or.inl rfl | exact Or.inr rfl | exact hi_16) ls (lv_sub hl [2, 3, 4, 1, 0] rfl)
            · refine lv_aload_n hx hb dMo_isEmptyBetween_35 rfl (lv_at hl 0 rfl) ?_
              refine va_get (D := (dC, dI)) (ci := 6) (v := .ref o_men) (C := RMo) (T := TMo) (N := 24) hx hb hB inMo hown hK hP 0 rfl rfl 5 (by decide) (hB _ q5_16) (fun _ h9 => h9) rfl dMo_isEmptyBetween_36 ?_
              refine lv_iload hx hb dMo_isEmptyBetween_39 (lv_at hl 4 rfl) ?_
              refine va_iald hx hb hK hP 3 0 rfl rfl (vp_in_iff.mpr (by have z0 := tle c_1; have z2 := tnle c_2; have z3 := tnle c_6; have z4 := tne c_7; have y0 : (0 : Int32).toInt = 0 := rfl; omega)) dMo_isEmptyBetween_41 ?_
              refine lv_if_ne (tgt := 49) hx hb dMo_isEmptyBetween_42 (by decide) (fun c_8 => ?_) (fun c_8 => ?_)
              · refine lv_iconst (v := 0) hx hb dMo_isEmptyBetween_49 (by decide) ?_
                refine lv_istore_n (lv' := [(3, .int 0), (0, .ref o), (1, .int a), (2, .int b), (4, .int v4_16)]) hx hb dMo_isEmptyBetween_50 rfl hl (by decide) rfl (fun ls hl => ?_)
                refine lv_iinc (v := v4_16 + 1) (lv' := [(4, .int (v4_16 + 1)), (3, .int 0), (0, .ref o), (1, .int a), (2, .int b)]) hx hb dMo_isEmptyBetween_51 hl (k := 4) rfl rfl (by decide) rfl (fun ls hl => ?_)
                refine lv_goto (tgt := 16) hx hb dMo_isEmptyBetween_54 (by decide) ?_
                exact ih_16 0 (v4_16 + 1) (he_16.trans (by rw [f_Mo_isEmptyBetween_16_eq, if_neg c_2, if_neg c_6, if_neg c_7, if_neg c_8] <;> rfl)) (by have z0 := tle c_1; have z2 := tnle c_2; have z3 := tnle c_6; have z4 := tne c_7; have z5 := tne c_8; have y0 : (0 : Int32).toInt = 0 := rfl; have y64 : (64 : Int32).toInt = 64 := rfl; have zr := i_rng (64 : Int32); have zs := i_succ9 v4_16 (by omega); omega) (by first | exact Or.inl rfl | exact Or.inr rfl | exact hi_16) ls (lv_sub hl [2, 3, 4, 1, 0] rfl)
              · refine lv_iconst (v := 1) hx hb dMo_isEmptyBetween_45 (by decide) ?_
                refine lv_goto (tgt := 50) hx hb dMo_isEmptyBetween_46 (by decide) ?_
                refine lv_istore_n (lv' := [(3, .int 1), (0, .ref o), (1, .int a), (2, .int b), (4, .int v4_16)]) hx hb dMo_isEmptyBetween_50 rfl hl (by decide) rfl (fun ls hl => ?_)
                refine lv_iinc (v := v4_16 + 1) (lv' := [(4, .int (v4_16 + 1)), (3, .int 1), (0, .ref o), (1, .int a), (2, .int b)]) hx hb dMo_isEmptyBetween_51 hl (k := 4) rfl rfl (by decide) rfl (fun ls hl => ?_)
                refine lv_goto (tgt := 16) hx hb dMo_isEmptyBetween_54 (by decide) ?_
                exact ih_16 1 (v4_16 + 1) (he_16.trans (by rw [f_Mo_isEmptyBetween_16_eq, if_neg c_2, if_neg c_6, if_neg c_7, if_pos c_8] <;> rfl)) (by have z0 := tle c_1; have z2 := tnle c_2; have z3 := tnle c_6; have z4 := tne c_7; have z5 := teq c_8; have y0 : (0 : Int32).toInt = 0 := rfl; have y64 : (64 : Int32).toInt = 64 := rfl; have zr := i_rng (64 : Int32); have zs := i_succ9 v4_16 (by omega); omega) (by first | exact Or.inl rfl | exact Or.inr rfl | exact hi_16) ls (lv_sub hl [2, 3, 4, 1, 0] rfl)
    exact J_16 (65) 1 (b + 1) (by rw [f_Mo_isEmptyBetween_eq, if_pos c_1] <;> rfl) (by have z1 := i_succ9 a (by omega); have z2 := i_succ9 b (by omega); have y : (64 : Int32).toInt = 64 := rfl; omega) (Or.inr rfl) ls (lv_sub hl [2, 3, 4, 1, 0] rfl)
  · refine lv_iload_n hx hb dMo_isEmptyBetween_7 rfl (lv_at hl 2 rfl) ?_
    refine lv_goto (tgt := 12) hx hb dMo_isEmptyBetween_8 (by decide) ?_
    refine lv_iconst (v := 1) hx hb dMo_isEmptyBetween_12 (by decide) ?_
    refine lv_iadd hx hb dMo_isEmptyBetween_13 ?_
    refine lv_istore (lv' := [(4, .int (a + 1)), (3, .int 1), (0, .ref o), (1, .int a), (2, .int b)]) hx hb dMo_isEmptyBetween_14 hl (by decide) rfl (fun ls hl => ?_)
    have J_16 : ∀ (n_16 : Nat) (v3_16 : Int32) (v4_16 : Int32), f_Mo_isEmptyBetween oS_men a b = f_Mo_isEmptyBetween_16 oS_men a b n_16 v3_16 v4_16 → ((0 : Int) ≤ v4_16.toInt ∧ (64 : Int32).toInt - v4_16.toInt + 1 ≤ (n_16 : Int) ∧ (1 : Int) ≤ (n_16 : Int)) → (v3_16 = 0 ∨ v3_16 = 1) → ∀ ls : Array Slot, lv_has ls 5 [(0, .ref o), (1, .int a), (2, .int b), (3, .int v3_16), (4, .int v4_16)] → W p l e (headSpec wsMo_isEmptyBetween { frames := 0, cells := 0, slots := 0, locals := 0 }).room s m ([.ref o, .int a, .int b]).toArray below meth c s.heap [] 0 0 (MQ below (vp_Si (fun r => r = f_Mo_isEmptyBetween oS_men a b)) ([.ref o, .int a, .int b]).toArray s 0 0 (fun _ => False)) (F0 m 16 ls []) := by
      intro n_16
      induction n_16 with
      | zero => intro v3_16 v4_16 _ hm_16; exact absurd hm_16 (by omega)
      | succ n_16 ih_16 =>
        intro v3_16 v4_16 he_16 hm_16 hi_16 ls hl
        refine lv_iload hx hb dMo_isEmptyBetween_16 (lv_at hl 4 rfl) ?_
        refine lv_iload_n hx hb dMo_isEmptyBetween_18 rfl (lv_at hl 1 rfl) ?_
        refine lv_iload_n hx hb dMo_isEmptyBetween_19 rfl (lv_at hl 2 rfl) ?_
        refine lv_icmp_ge (tgt := 27) hx hb dMo_isEmptyBetween_20 (by decide) (fun c_9 => ?_) (fun c_9 => ?_)
        · refine lv_iload_n hx hb dMo_isEmptyBetween_27 rfl (lv_at hl 1 rfl) ?_
          refine lv_icmp_ge (tgt := 57) hx hb dMo_isEmptyBetween_28 (by decide) (fun c_10 => ?_) (fun c_10 => ?_)
          · refine lv_iload_n hx hb dMo_isEmptyBetween_57 rfl (lv_at hl 3 rfl) ?_
            exact ro_retz hx hb hr (nar01 hi_16) hlocks dMo_isEmptyBetween_58 (Eq.symm (he_16.trans (by rw [f_Mo_isEmptyBetween_16_eq, if_pos c_9, if_pos c_10] <;> rfl)))
          · refine lv_iload_n hx hb dMo_isEmptyBetween_31 rfl (lv_at hl 3 rfl) ?_
            refine lv_if_eq (tgt := 49) hx hb dMo_isEmptyBetween_32 (by decide) (fun c_11 => ?_) (fun c_11 => ?_)
            · refine lv_iconst (v := 0) hx hb dMo_isEmptyBetween_49 (by decide) ?_
              refine lv_istore_n (lv' := [(3, .int 0), (0, .ref o), (1, .int a), (2, .int b), (4, .int v4_16)]) hx hb dMo_isEmptyBetween_50 rfl hl (by decide) rfl (fun ls hl => ?_)
              refine lv_iinc (v := v4_16 + 1) (lv' := [(4, .int (v4_16 + 1)), (3, .int 0), (0, .ref o), (1, .int a), (2, .int b)]) hx hb dMo_isEmptyBetween_51 hl (k := 4) rfl rfl (by decide) rfl (fun ls hl => ?_)
              refine lv_goto (tgt := 16) hx hb dMo_isEmptyBetween_54 (by decide) ?_
              exact ih_16 0 (v4_16 + 1) (he_16.trans (by rw [f_Mo_isEmptyBetween_16_eq, if_pos c_9, if_neg c_10, if_pos c_11] <;> rfl)) (by have z0 := tnle c_1; have z2 := tle c_9; have z3 := tnle c_10; have z4 := teq c_11; have y0 : (0 : Int32).toInt = 0 := rfl; have y64 : (64 : Int32).toInt = 64 := rfl; have zr := i_rng (64 : Int32); have zs := i_succ9 v4_16 (by omega); omega) (by first | exact Or.inl rfl | exact Or.inr rfl | exact hi_16) ls (lv_sub hl [2, 3, 4, 1, 0] rfl)
            · refine lv_aload_n hx hb dMo_isEmptyBetween_35 rfl (lv_at hl 0 rfl) ?_
              refine va_get (D := (dC, dI)) (ci := 6) (v := .ref o_men) (C := RMo) (T := TMo) (N := 24) hx hb hB inMo hown hK hP 0 rfl rfl 5 (by decide) (hB _ q5_16) (fun _ h9 => h9) rfl dMo_isEmptyBetween_36 ?_
              refine lv_iload hx hb dMo_isEmptyBetween_39 (lv_at hl 4 rfl) ?_
              refine va_iald hx hb hK hP 3 0 rfl rfl (vp_in_iff.mpr (by have z0 := tnle c_1; have z2 := tle c_9; have z3 := tnle c_10; have z4 := tne c_11; have y0 : (0 : Int32).toInt = 0 := rfl; omega)) dMo_isEmptyBetween_41 ?_
              refine lv_if_ne (tgt := 49) hx hb dMo_isEmptyBetween_42 (by decide) (fun c_12 => ?_) (fun c_12 => ?_)
              · refine lv_iconst (v := 0) hx hb dMo_isEmptyBetween_49 (by decide) ?_
                refine lv_istore_n (lv' := [(3, .int 0), (0, .ref o), (1, .int a), (2, .int b), (4, .int v4_16)]) hx hb dMo_isEmptyBetween_50 rfl hl (by decide) rfl (fun ls hl => ?_)
                refine lv_iinc (v := v4_16 + 1) (lv' := [(4, .int (v4_16 + 1)), (3, .int 0), (0, .ref o), (1, .int a), (2, .int b)]) hx hb dMo_isEmptyBetween_51 hl (k := 4) rfl rfl (by decide) rfl (fun ls hl => ?_)
                refine lv_goto (tgt := 16) hx hb dMo_isEmptyBetween_54 (by decide) ?_
                exact ih_16 0 (v4_16 + 1) (he_16.trans (by rw [f_Mo_isEmptyBetween_16_eq, if_pos c_9, if_neg c_10, if_neg c_11, if_neg c_12] <;> rfl)) (by have z0 := tnle c_1; have z2 := tle c_9; have z3 := tnle c_10; have z4 := tne c_11; have z5 := tne c_12; have y0 : (0 : Int32).toInt = 0 := rfl; have y64 : (64 : Int32).toInt = 64 := rfl; have zr := i_rng (64 : Int32); have zs := i_succ9 v4_16 (by omega); omega) (by first | exact Or.inl rfl | exact Or.inr rfl | exact hi_16) ls (lv_sub hl [2, 3, 4, 1, 0] rfl)
              · refine lv_iconst (v := 1) hx hb dMo_isEmptyBetween_45 (by decide) ?_
                refine lv_goto (tgt := 50) hx hb dMo_isEmptyBetween_46 (by decide) ?_
                refine lv_istore_n (lv' := [(3, .int 1), (0, .ref o), (1, .int a), (2, .int b), (4, .int v4_16)]) hx hb dMo_isEmptyBetween_50 rfl hl (by decide) rfl (fun ls hl => ?_)
                refine lv_iinc (v := v4_16 + 1) (lv' := [(4, .int (v4_16 + 1)), (3, .int 1), (0, .ref o), (1, .int a), (2, .int b)]) hx hb dMo_isEmptyBetween_51 hl (k := 4) rfl rfl (by decide) rfl (fun ls hl => ?_)
                refine lv_goto (tgt := 16) hx hb dMo_isEmptyBetween_54 (by decide) ?_
                exact ih_16 1 (v4_16 + 1) (he_16.trans (by rw [f_Mo_isEmptyBetween_16_eq, if_pos c_9, if_neg c_10, if_neg c_11, if_pos c_12] <;> rfl)) (by have z0 := tnle c_1; have z2 := tle c_9; have z3 := tnle c_10; have z4 := tne c_11; have z5 := teq c_12; have y0 : (0 : Int32).toInt = 0 := rfl; have y64 : (64 : Int32).toInt = 64 := rfl; have zr := i_rng (64 : Int32); have zs := i_succ9 v4_16 (by omega); omega) (by first | exact Or.inl rfl | exact Or.inr rfl | exact hi_16) ls (lv_sub hl [2, 3, 4, 1, 0] rfl)
        · refine lv_iload_n hx hb dMo_isEmptyBetween_23 rfl (lv_at hl 2 rfl) ?_
          refine lv_goto (tgt := 28) hx hb dMo_isEmptyBetween_24 (by decide) ?_
          refine lv_icmp_ge (tgt := 57) hx hb dMo_isEmptyBetween_28 (by decide) (fun c_13 => ?_) (fun c_13 => ?_)
          · refine lv_iload_n hx hb dMo_isEmptyBetween_57 rfl (lv_at hl 3 rfl) ?_
            exact ro_retz hx hb hr (nar01 hi_16) hlocks dMo_isEmptyBetween_58 (Eq.symm (he_16.trans (by rw [f_Mo_isEmptyBetween_16_eq, if_neg c_9, if_pos c_13] <;> rfl)))
          · refine lv_iload_n hx hb dMo_isEmptyBetween_31 rfl (lv_at hl 3 rfl) ?_
            refine lv_if_eq (tgt := 49) hx hb dMo_isEmptyBetween_32 (by decide) (fun c_14 => ?_) (fun c_14 => ?_)
            · refine lv_iconst (v := 0) hx hb dMo_isEmptyBetween_49 (by decide) ?_
              refine lv_istore_n (lv' := [(3, .int 0), (0, .ref o), (1, .int a), (2, .int b), (4, .int v4_16)]) hx hb dMo_isEmptyBetween_50 rfl hl (by decide) rfl (fun ls hl => ?_)
              refine lv_iinc (v := v4_16 + 1) (lv' := [(4, .int (v4_16 + 1)), (3, .int 0), (0, .ref o), (1, .int a), (2, .int b)]) hx hb dMo_isEmptyBetween_51 hl (k := 4) rfl rfl (by decide) rfl (fun ls hl => ?_)
              refine lv_goto (tgt := 16) hx hb dMo_isEmptyBetween_54 (by decide) ?_
              exact ih_16 0 (v4_16 + 1) (he_16.trans (by rw [f_Mo_isEmptyBetween_16_eq, if_neg c_9, if_neg c_13, if_pos c_14] <;> rfl)) (by have z0 := tnle c_1; have z2 := tnle c_9; have z3 := tnle c_13; have z4 := teq c_14; have y0 : (0 : Int32).toInt = 0 := rfl; have y64 : (64 : Int32).toInt = 64 := rfl; have zr := i_rng (64 : Int32); have zs := i_succ9 v4_16 (by omega); omega) (by first | exact Or.inl rfl | exact Or.inr rfl | exact hi_16) ls (lv_sub hl [2, 3, 4, 1, 0] rfl)
            · refine lv_aload_n hx hb dMo_isEmptyBetween_35 rfl (lv_at hl 0 rfl) ?_
              refine va_get (D := (dC, dI)) (ci := 6) (v := .ref o_men) (C := RMo) (T := TMo) (N := 24) hx hb hB inMo hown hK hP 0 rfl rfl 5 (by decide) (hB _ q5_16) (fun _ h9 => h9) rfl dMo_isEmptyBetween_36 ?_
              refine lv_iload hx hb dMo_isEmptyBetween_39 (lv_at hl 4 rfl) ?_
              refine va_iald hx hb hK hP 3 0 rfl rfl (vp_in_iff.mpr (by have z0 := tnle c_1; have z2 := tnle c_9; have z3 := tnle c_13; have z4 := tne c_14; have y0 : (0 : Int32).toInt = 0 := rfl; omega)) dMo_isEmptyBetween_41 ?_
              refine lv_if_ne (tgt := 49) hx hb dMo_isEmptyBetween_42 (by decide) (fun c_15 => ?_) (fun c_15 => ?_)
              · refine lv_iconst (v := 0) hx hb dMo_isEmptyBetween_49 (by decide) ?_
                refine lv_istore_n (lv' := [(3, .int 0), (0, .ref o), (1, .int a), (2, .int b), (4, .int v4_16)]) hx hb dMo_isEmptyBetween_50 rfl hl (by decide) rfl (fun ls hl => ?_)
                refine lv_iinc (v := v4_16 + 1) (lv' := [(4, .int (v4_16 + 1)), (3, .int 0), (0, .ref o), (1, .int a), (2, .int b)]) hx hb dMo_isEmptyBetween_51 hl (k := 4) rfl rfl (by decide) rfl (fun ls hl => ?_)
                refine lv_goto (tgt := 16) hx hb dMo_isEmptyBetween_54 (by decide) ?_
                exact ih_16 0 (v4_16 + 1) (he_16.trans (by rw [f_Mo_isEmptyBetween_16_eq, if_neg c_9, if_neg c_13, if_neg c_14, if_neg c_15] <;> rfl)) (by have z0 := tnle c_1; have z2 := tnle c_9; have z3 := tnle c_13; have z4 := tne c_14; have z5 := tne c_15; have y0 : (0 : Int32).toInt = 0 := rfl; have y64 : (64 : Int32).toInt = 64 := rfl; have zr := i_rng (64 : Int32); have zs := i_succ9 v4_16 (by omega); omega) (by first | exact Or.inl rfl | exact Or.inr rfl | exact hi_16) ls (lv_sub hl [2, 3, 4, 1, 0] rfl)
              · refine lv_iconst (v := 1) hx hb dMo_isEmptyBetween_45 (by decide) ?_
                refine lv_goto (tgt := 50) hx hb dMo_isEmptyBetween_46 (by decide) ?_
                refine lv_istore_n (lv' := [(3, .int 1), (0, .ref o), (1, .int a), (2, .int b), (4, .int v4_16)]) hx hb dMo_isEmptyBetween_50 rfl hl (by decide) rfl (fun ls hl => ?_)
                refine lv_iinc (v := v4_16 + 1) (lv' := [(4, .int (v4_16 + 1)), (3, .int 1), (0, .ref o), (1, .int a), (2, .int b)]) hx hb dMo_isEmptyBetween_51 hl (k := 4) rfl rfl (by decide) rfl (fun ls hl => ?_)
                refine lv_goto (tgt := 16) hx hb dMo_isEmptyBetween_54 (by decide) ?_
                exact ih_16 1 (v4_16 + 1) (he_16.trans (by rw [f_Mo_isEmptyBetween_16_eq, if_neg c_9, if_neg c_13, if_neg c_14, if_pos c_15] <;> rfl)) (by have z0 := tnle c_1; have z2 := tnle c_9; have z3 := tnle c_13; have z4 := tne c_14; have z5 := teq c_15; have y0 : (0 : Int32).toInt = 0 := rfl; have y64 : (64 : Int32).toInt = 64 := rfl; have zr := i_rng (64 : Int32); have zs := i_succ9 v4_16 (by omega); omega) (by first | exact Or.inl rfl | exact Or.inr rfl | exact hi_16) ls (lv_sub hl [2, 3, 4, 1, 0] rfl)
    exact J_16 (65) 1 (a + 1) (by rw [f_Mo_isEmptyBetween_eq, if_neg c_1] <;> rfl) (by have z1 := i_succ9 a (by omega); have z2 := i_succ9 b (by omega); have y : (64 : Int32).toInt = 64 := rfl; omega) (Or.inr rfl) ls (lv_sub hl [2, 3, 4, 1, 0] rfl)

abbrev cMo_mayCastle : ByteArray := prog_11_method_14_code
def yMo_mayCastle : MethodName := ⟨"ChessRulesModel", "mayCastle", "(Z)Z"⟩
def wsMo_mayCastle : List Cond := Cond.code yMo_mayCastle cMo_mayCastle 5 (some .boolean) :: BIG
theorem dMo_mayCastle_0 : decode cMo_mayCastle 0 = .ok (.bipush 56, 2) := by decide +kernel
theorem dMo_mayCastle_2 : decode cMo_mayCastle 2 = .ok (.aload_n 0, 1) := by decide +kernel
theorem dMo_mayCastle_3 : decode cMo_mayCastle 3 = .ok (.getfield 106, 3) := by decide +kernel
theorem dMo_mayCastle_6 : decode cMo_mayCastle 6 = .ok (.imul, 1) := by decide +kernel
theorem dMo_mayCastle_7 : decode cMo_mayCastle 7 = .ok (.iconst 4, 1) := by decide +kernel
theorem dMo_mayCastle_8 : decode cMo_mayCastle 8 = .ok (.iadd, 1) := by decide +kernel
theorem dMo_mayCastle_9 : decode cMo_mayCastle 9 = .ok (.istore_n 2, 1) := by decide +kernel
theorem dMo_mayCastle_10 : decode cMo_mayCastle 10 = .ok (.iload_n 1, 1) := by decide +kernel
theorem dMo_mayCastle_11 : decode cMo_mayCastle 11 = .ok (.ifCond .eq 7, 3) := by decide +kernel
theorem dMo_mayCastle_14 : decode cMo_mayCastle 14 = .ok (.iconst 1, 1) := by decide +kernel
theorem dMo_mayCastle_15 : decode cMo_mayCastle 15 = .ok (.goto 4, 3) := by decide +kernel
theorem dMo_mayCastle_18 : decode cMo_mayCastle 18 = .ok (.iconst 2, 1) := by decide +kernel
theorem dMo_mayCastle_19 : decode cMo_mayCastle 19 = .ok (.iconst 2, 1) := by decide +kernel
theorem dMo_mayCastle_20 : decode cMo_mayCastle 20 = .ok (.aload_n 0, 1) := by decide +kernel
theorem dMo_mayCastle_21 : decode cMo_mayCastle 21 = .ok (.getfield 106, 3) := by decide +kernel
theorem dMo_mayCastle_24 : decode cMo_mayCastle 24 = .ok (.imul, 1) := by decide +kernel
theorem dMo_mayCastle_25 : decode cMo_mayCastle 25 = .ok (.ishl, 1) := by decide +kernel
theorem dMo_mayCastle_26 : decode cMo_mayCastle 26 = .ok (.istore_n 3, 1) := by decide +kernel
theorem dMo_mayCastle_27 : decode cMo_mayCastle 27 = .ok (.iload_n 1, 1) := by decide +kernel
theorem dMo_mayCastle_28 : decode cMo_mayCastle 28 = .ok (.ifCond .eq 9, 3) := by decide +kernel
theorem dMo_mayCastle_31 : decode cMo_mayCastle 31 = .ok (.iload_n 2, 1) := by decide +kernel
theorem dMo_mayCastle_32 : decode cMo_mayCastle 32 = .ok (.iconst 1, 1) := by decide +kernel
theorem dMo_mayCastle_33 : decode cMo_mayCastle 33 = .ok (.iadd, 1) := by decide +kernel
theorem dMo_mayCastle_34 : decode cMo_mayCastle 34 = .ok (.goto 6, 3) := by decide +kernel
theorem dMo_mayCastle_37 : decode cMo_mayCastle 37 = .ok (.iload_n 2, 1) := by decide +kernel
theorem dMo_mayCastle_38 : decode cMo_mayCastle 38 = .ok (.iconst 1, 1) := by decide +kernel
theorem dMo_mayCastle_39 : decode cMo_mayCastle 39 = .ok (.isub, 1) := by decide +kernel
theorem dMo_mayCastle_40 : decode cMo_mayCastle 40 = .ok (.istore 4, 2) := by decide +kernel
theorem dMo_mayCastle_42 : decode cMo_mayCastle 42 = .ok (.aload_n 0, 1) := by decide +kernel
theorem dMo_mayCastle_43 : decode cMo_mayCastle 43 = .ok (.getfield 20, 3) := by decide +kernel
theorem dMo_mayCastle_46 : decode cMo_mayCastle 46 = .ok (.iload_n 3, 1) := by decide +kernel
theorem dMo_mayCastle_47 : decode cMo_mayCastle 47 = .ok (.iand, 1) := by decide +kernel
theorem dMo_mayCastle_48 : decode cMo_mayCastle 48 = .ok (.ifCond .eq 56, 3) := by decide +kernel
theorem dMo_mayCastle_51 : decode cMo_mayCastle 51 = .ok (.aload_n 0, 1) := by decide +kernel
theorem dMo_mayCastle_52 : decode cMo_mayCastle 52 = .ok (.iload_n 2, 1) := by decide +kernel
theorem dMo_mayCastle_53 : decode cMo_mayCastle 53 = .ok (.iload_n 1, 1) := by decide +kernel
theorem dMo_mayCastle_54 : decode cMo_mayCastle 54 = .ok (.ifCond .eq 9, 3) := by decide +kernel
theorem dMo_mayCastle_57 : decode cMo_mayCastle 57 = .ok (.iload_n 2, 1) := by decide +kernel
theorem dMo_mayCastle_58 : decode cMo_mayCastle 58 = .ok (.iconst 3, 1) := by decide +kernel
theorem dMo_mayCastle_59 : decode cMo_mayCastle 59 = .ok (.iadd, 1) := by decide +kernel
theorem dMo_mayCastle_60 : decode cMo_mayCastle 60 = .ok (.goto 6, 3) := by decide +kernel
theorem dMo_mayCastle_63 : decode cMo_mayCastle 63 = .ok (.iload_n 2, 1) := by decide +kernel
theorem dMo_mayCastle_64 : decode cMo_mayCastle 64 = .ok (.iconst 4, 1) := by decide +kernel
theorem dMo_mayCastle_65 : decode cMo_mayCastle 65 = .ok (.isub, 1) := by decide +kernel
theorem dMo_mayCastle_66 : decode cMo_mayCastle 66 = .ok (.invokevirtual 109, 3) := by decide +kernel
theorem dMo_mayCastle_69 : decode cMo_mayCastle 69 = .ok (.ifCond .eq 35, 3) := by decide +kernel
theorem dMo_mayCastle_72 : decode cMo_mayCastle 72 = .ok (.aload_n 0, 1) := by decide +kernel
theorem dMo_mayCastle_73 : decode cMo_mayCastle 73 = .ok (.aload_n 0, 1) := by decide +kernel
theorem dMo_mayCastle_74 : decode cMo_mayCastle 74 = .ok (.getfield 106, 3) := by decide +kernel
theorem dMo_mayCastle_77 : decode cMo_mayCastle 77 = .ok (.invokevirtual 112, 3) := by decide +kernel
theorem dMo_mayCastle_80 : decode cMo_mayCastle 80 = .ok (.ifCond .ne 24, 3) := by decide +kernel
theorem dMo_mayCastle_83 : decode cMo_mayCastle 83 = .ok (.aload_n 0, 1) := by decide +kernel
theorem dMo_mayCastle_84 : decode cMo_mayCastle 84 = .ok (.iload 4, 2) := by decide +kernel
theorem dMo_mayCastle_86 : decode cMo_mayCastle 86 = .ok (.iconst 1, 1) := by decide +kernel
theorem dMo_mayCastle_87 : decode cMo_mayCastle 87 = .ok (.aload_n 0, 1) := by decide +kernel
theorem dMo_mayCastle_88 : decode cMo_mayCastle 88 = .ok (.getfield 106, 3) := by decide +kernel
theorem dMo_mayCastle_91 : decode cMo_mayCastle 91 = .ok (.isub, 1) := by decide +kernel
theorem dMo_mayCastle_92 : decode cMo_mayCastle 92 = .ok (.invokevirtual 102, 3) := by decide +kernel
theorem dMo_mayCastle_95 : decode cMo_mayCastle 95 = .ok (.lconst 0, 1) := by decide +kernel
theorem dMo_mayCastle_96 : decode cMo_mayCastle 96 = .ok (.lcmp, 1) := by decide +kernel
theorem dMo_mayCastle_97 : decode cMo_mayCastle 97 = .ok (.ifCond .ne 7, 3) := by decide +kernel
theorem dMo_mayCastle_100 : decode cMo_mayCastle 100 = .ok (.iconst 1, 1) := by decide +kernel
theorem dMo_mayCastle_101 : decode cMo_mayCastle 101 = .ok (.goto 4, 3) := by decide +kernel
theorem dMo_mayCastle_104 : decode cMo_mayCastle 104 = .ok (.iconst 0, 1) := by decide +kernel
theorem dMo_mayCastle_105 : decode cMo_mayCastle 105 = .ok (.ireturn, 1) := by decide +kernel

def f_Mo_mayCastle_40 (oS_men : Nat → Int32) (oS_side : Int32) (oS_rights : Int32) (isShort : Int32) (k0_19 : Int32) (k0_40 : Int32) : Int32 :=
  (if (oS_rights &&& (k0_19 <<< ((2 * oS_side) &&& 31))) = 0 then 0 else (if isShort = 0 then (if (f_Mo_isEmptyBetween oS_men ((56 * oS_side) + 4) (((56 * oS_side) + 4) - 4)) = 0 then 0 else (if (f_Mo_inCheck oS_men oS_side) = 0 then (if (f_Mo_attackersOf oS_men k0_40 (1 - oS_side)) = 0 then 1 else 0) else 0)) else (if (f_Mo_isEmptyBetween oS_men ((56 * oS_side) + 4) (((56 * oS_side) + 4) + 3)) = 0 then 0 else (if (f_Mo_inCheck oS_men oS_side) = 0 then (if (f_Mo_attackersOf oS_men k0_40 (1 - oS_side)) = 0 then 1 else 0) else 0))))
theorem f_Mo_mayCastle_40_eq (oS_men : Nat → Int32) (oS_side : Int32) (oS_rights : Int32) (isShort : Int32) (k0_19 : Int32) (k0_40 : Int32) : f_Mo_mayCastle_40 oS_men oS_side oS_rights isShort k0_19 k0_40 =
  (if (oS_rights &&& (k0_19 <<< ((2 * oS_side) &&& 31))) = 0 then 0 else (if isShort = 0 then (if (f_Mo_isEmptyBetween oS_men ((56 * oS_side) + 4) (((56 * oS_side) + 4) - 4)) = 0 then 0 else (if (f_Mo_inCheck oS_men oS_side) = 0 then (if (f_Mo_attackersOf oS_men k0_40 (1 - oS_side)) = 0 then 1 else 0) else 0)) else (if (f_Mo_isEmptyBetween oS_men ((56 * oS_side) + 4) (((56 * oS_side) + 4) + 3)) = 0 then 0 else (if (f_Mo_inCheck oS_men oS_side) = 0 then (if (f_Mo_attackersOf oS_men k0_40 (1 - oS_side)) = 0 then 1 else 0) else 0)))) := rfl

def f_Mo_mayCastle_19 (oS_men : Nat → Int32) (oS_side : Int32) (oS_rights : Int32) (isShort : Int32) (k0_19 : Int32) : Int32 :=
  (if isShort = 0 then f_Mo_mayCastle_40 oS_men oS_side oS_rights isShort k0_19 (((56 * oS_side) + 4) - 1) else f_Mo_mayCastle_40 oS_men oS_side oS_rights isShort k0_19 (((56 * oS_side) + 4) + 1))
theorem f_Mo_mayCastle_19_eq (oS_men : Nat → Int32) (oS_side : Int32) (oS_rights : Int32) (isShort : Int32) (k0_19 : Int32) : f_Mo_mayCastle_19 oS_men oS_side oS_rights isShort k0_19 =
  (if isShort = 0 then f_Mo_mayCastle_40 oS_men oS_side oS_rights isShort k0_19 (((56 * oS_side) + 4) - 1) else f_Mo_mayCastle_40 oS_men oS_side oS_rights isShort k0_19 (((56 * oS_side) + 4) + 1)) := rfl

def f_Mo_mayCastle (oS_men : Nat → Int32) (oS_side : Int32) (oS_rights : Int32) (isShort : Int32) : Int32 :=
  (if isShort = 0 then f_Mo_mayCastle_19 oS_men oS_side oS_rights isShort 2 else f_Mo_mayCastle_19 oS_men oS_side oS_rights isShort 1)
theorem f_Mo_mayCastle_eq (oS_men : Nat → Int32) (oS_side : Int32) (oS_rights : Int32) (isShort : Int32) : f_Mo_mayCastle oS_men oS_side oS_rights isShort =
  (if isShort = 0 then f_Mo_mayCastle_19 oS_men oS_side oS_rights isShort 2 else f_Mo_mayCastle_19 oS_men oS_side oS_rights isShort 1) := rfl

set_option maxHeartbeats 4000000 in
set_option maxRecDepth 100000 in
theorem c_Mo_mayCastle (l : Launch) (dC : Nat → ClassId) (dI : Nat → Nat → Nat) (cI cJ cC : ClassId) (ad : Nat → Nat) (o o_text o_out o_men o_pastMen o_pastSide o_pastRights o_pastPassed o_pastClock o_pastNumber o_pastTakes o_playedMoves o_keptMen o_keptRest o_lists o_counts : Nat) (oS_thrown : Int32) (oS_typed : Int32) (oS_text : Nat → Int32) (oS_told : Int32) (oS_out : Nat → Int32) (oS_men : Nat → Int32) (oS_side : Int32) (oS_rights : Int32) (oS_passed : Int32) (oS_clock : Int32) (oS_number : Int32) (oS_plies : Int32) (oS_pastMen : Nat → Int32) (oS_pastSide : Nat → Int32) (oS_pastRights : Nat → Int32) (oS_pastPassed : Nat → Int32) (oS_pastClock : Nat → Int32) (oS_pastNumber : Nat → Int32) (oS_pastTakes : Nat → Int64) (oS_playedMoves : Nat → Int32) (oS_keptMen : Nat → Int32) (oS_keptRest : Nat → Int32) (oS_lists : Nat → Int32) (oS_counts : Nat → Int32) (isShort : Int32) (hs : oS_side = 0 ∨ oS_side = 1) : Met l yMo_mayCastle wsMo_mayCastle { frames := 6, cells := 0, slots := 0, locals := 145 } (roP dC dI (TYS cI cJ cC) [.ref o, .int isShort] [(o, .inr (6, [.int oS_thrown, .int oS_typed, .ref o_text, .int oS_told, .ref o_out, .ref o_men, .int oS_side, .int oS_rights, .int oS_passed, .int oS_clock, .int oS_number, .int oS_plies, .ref o_pastMen, .ref o_pastSide, .ref o_pastRights, .ref o_pastPassed, .ref o_pastClock, .ref o_pastNumber, .ref o_pastTakes, .ref o_playedMoves, .ref o_keptMen, .ref o_keptRest, .ref o_lists, .ref o_counts])), (o_text, .inl (cC, 100, .inl oS_text)), (o_out, .inl (cC, 100, .inl oS_out)), (o_men, .inl (cI, 64, .inl oS_men)), (o_pastMen, .inl (cI, 25664, .inl oS_pastMen)), (o_pastSide, .inl (cI, 401, .inl oS_pastSide)), (o_pastRights, .inl (cI, 401, .inl oS_pastRights)), (o_pastPassed, .inl (cI, 401, .inl oS_pastPassed)), (o_pastClock, .inl (cI, 401, .inl oS_pastClock)), (o_pastNumber, .inl (cI, 401, .inl oS_pastNumber)), (o_pastTakes, .inl (cJ, 401, .inr (.inl oS_pastTakes))), (o_playedMoves, .inl (cI, 400, .inl oS_playedMoves)), (o_keptMen, .inl (cI, 384, .inl oS_keptMen)), (o_keptRest, .inl (cI, 30, .inl oS_keptRest)), (o_lists, .inl (cI, 8192, .inl oS_lists)), (o_counts, .inl (cI, 4, .inl oS_counts))] (GS ad)) (vp_Si (fun r => r = f_Mo_mayCastle oS_men oS_side oS_rights isShort)) 0 0 (fun _ => False) := by
  refine Met.ofW (cc := cMo_mayCastle) (maxL := 5) (ret := (some .boolean)) (by decide) rfl ?_
  intro p e s m args below meth c s₁ B hml hv
  obtain ⟨rfl, hP, hK, hG⟩ := hv
  have hx := B.exec
  have hb := B.bytes
  have hr := B.returns
  have hB : ∀ w9 ∈ BIG, w9.before ([.ref o, .int isShort]).toArray s = true := fun w9 h => atoms_spec (ws := wsMo_mayCastle) B.pre w9 (List.mem_cons_of_mem _ h)
  have hown : s.vm.findClass "ChessRulesModel" = some m.cls := findClass_of_methodNamed B.named
  have hlocks := B.notSynchronized
  have hS : va_S (fun _ => False) s.heap s.heap [] := va_S.rf
  have hP : va_P (dC, dI) vwCl [(o, .inr (6, [.int oS_thrown, .int oS_typed, .ref o_text, .int oS_told, .ref o_out, .ref o_men, .int oS_side, .int oS_rights, .int oS_passed, .int oS_clock, .int oS_number, .int oS_plies, .ref o_pastMen, .ref o_pastSide, .ref o_pastRights, .ref o_pastPassed, .ref o_pastClock, .ref o_pastNumber, .ref o_pastTakes, .ref o_playedMoves, .ref o_keptMen, .ref o_keptRest, .ref o_lists, .ref o_counts])), (o_text, .inl (cC, 100, .inl oS_text)), (o_out, .inl (cC, 100, .inl oS_out)), (o_men, .inl (cI, 64, .inl oS_men)), (o_pastMen, .inl (cI, 25664, .inl oS_pastMen)), (o_pastSide, .inl (cI, 401, .inl oS_pastSide)), (o_pastRights, .inl (cI, 401, .inl oS_pastRights)), (o_pastPassed, .inl (cI, 401, .inl oS_pastPassed)), (o_pastClock, .inl (cI, 401, .inl oS_pastClock)), (o_pastNumber, .inl (cI, 401, .inl oS_pastNumber)), (o_pastTakes, .inl (cJ, 401, .inr (.inl oS_pastTakes))), (o_playedMoves, .inl (cI, 400, .inl oS_playedMoves)), (o_keptMen, .inl (cI, 384, .inl oS_keptMen)), (o_keptRest, .inl (cI, 30, .inl oS_keptRest)), (o_lists, .inl (cI, 8192, .inl oS_lists)), (o_counts, .inl (cI, 4, .inl oS_counts))] s.heap := hP
  have hl := lv_entry ([.ref o, .int isShort]) (n := 5) (Nat.le_of_ble_eq_true rfl)
  rw [lg_entry_eq]
  generalize (lg_sl ([.ref o, .int isShort]) ++ List.replicate (5 - (lg_sl ([.ref o, .int isShort])).length) Slot.unset).toArray = ls at hl ⊢
  have hl : lv_has ls 5 [(0, .ref o), (1, .int isShort)] := hl
  refine lv_bipush (v := 56) hx hb dMo_mayCastle_0 (by decide) ?_
  refine lv_aload_n hx hb dMo_mayCastle_2 rfl (lv_at hl 0 rfl) ?_
  refine va_get (D := (dC, dI)) (ci := 6) (v := .int oS_side) (C := RMo) (T := TMo) (N := 24) hx hb hB inMo hown hK hP 0 rfl rfl 6 (by decide) (hB _ q5_17) (fun _ h9 => h9) rfl dMo_mayCastle_3 ?_
  refine lv_imul hx hb dMo_mayCastle_6 ?_
  refine lv_iconst (v := 4) hx hb dMo_mayCastle_7 (by decide) ?_
  refine lv_iadd hx hb dMo_mayCastle_8 ?_
  refine lv_istore_n (lv' := [(2, .int ((56 * oS_side) + 4)), (0, .ref o), (1, .int isShort)]) hx hb dMo_mayCastle_9 rfl hl (by decide) rfl (fun ls hl => ?_)
  refine lv_iload_n hx hb dMo_mayCastle_10 rfl (lv_at hl 2 rfl) ?_
  have J_19 : ∀ (k0_19 : Int32), f_Mo_mayCastle oS_men oS_side oS_rights isShort = f_Mo_mayCastle_19 oS_men oS_side oS_rights isShort k0_19 → ∀ ls : Array Slot, lv_has ls 5 [(0, .ref o), (1, .int isShort), (2, .int ((56 * oS_side) + 4))] → W p l e (headSpec wsMo_mayCastle { frames := 6, cells := 0, slots := 0, locals := 145 }).room s m ([.ref o, .int isShort]).toArray below meth c s.heap [] 0 0 (MQ below (vp_Si (fun r => r = f_Mo_mayCastle oS_men oS_side oS_rights isShort)) ([.ref o, .int isShort]).toArray s 0 0 (fun _ => False)) (F0 m 19 ls [.int k0_19]) := by
    intro k0_19 he_19 ls hl
    refine lv_iconst (v := 2) hx hb dMo_mayCastle_19 (by decide) ?_
    refine lv_aload_n hx hb dMo_mayCastle_20 rfl (lv_at hl 0 rfl) ?_
    refine va_get (D := (dC, dI)) (ci := 6) (v := .int oS_side) (C := RMo) (T := TMo) (N := 24) hx hb hB inMo hown hK hP 0 rfl rfl 6 (by decide) (hB _ q5_17) (fun _ h9 => h9) rfl dMo_mayCastle_21 ?_
    refine lv_imul hx hb dMo_mayCastle_24 ?_
    refine lv_ishl hx hb dMo_mayCastle_25 ?_
    refine lv_istore_n (lv' := [(3, .int (k0_19 <<< ((2 * oS_side) &&& 31))), (0, .ref o), (1, .int isShort), (2, .int ((56 * oS_side) + 4))]) hx hb dMo_mayCastle_26 rfl hl (by decide) rfl (fun ls hl => ?_)
    refine lv_iload_n hx hb dMo_mayCastle_27 rfl (lv_at hl 2 rfl) ?_
    have J_40 : ∀ (k0_40 : Int32), f_Mo_mayCastle oS_men oS_side oS_rights isShort = f_Mo_mayCastle_40 oS_men oS_side oS_rights isShort k0_19 k0_40 → ∀ ls : Array Slot, lv_has ls 5 [(0, .ref o), (1, .int isShort), (2, .int ((56 * oS_side) + 4)), (3, .int (k0_19 <<< ((2 * oS_side) &&& 31)))] → W p l e (headSpec wsMo_mayCastle { frames := 6, cells := 0, slots := 0, locals := 145 }).room s m ([.ref o, .int isShort]).toArray below meth c s.heap [] 0 0 (MQ below (vp_Si (fun r => r = f_Mo_mayCastle oS_men oS_side oS_rights isShort)) ([.ref o, .int isShort]).toArray s 0 0 (fun _ => False)) (F0 m 40 ls [.int k0_40]) := by
      intro k0_40 he_40 ls hl
      refine lv_istore (lv' := [(4, .int k0_40), (0, .ref o), (1, .int isShort), (2, .int ((56 * oS_side) + 4)), (3, .int (k0_19 <<< ((2 * oS_side) &&& 31)))]) hx hb dMo_mayCastle_40 hl (by decide) rfl (fun ls hl => ?_)
      refine lv_aload_n hx hb dMo_mayCastle_42 rfl (lv_at hl 1 rfl) ?_
      refine va_get (D := (dC, dI)) (ci := 6) (v := .int oS_rights) (C := RMo) (T := TMo) (N := 24) hx hb hB inMo hown hK hP 0 rfl rfl 7 (by decide) (hB _ q5_18) (fun _ h9 => h9) rfl dMo_mayCastle_43 ?_
      refine lv_iload_n hx hb dMo_mayCastle_46 rfl (lv_at hl 4 rfl) ?_
      refine lv_iand hx hb dMo_mayCastle_47 ?_
      refine lv_if_eq (tgt := 104) hx hb dMo_mayCastle_48 (by decide) (fun c_1 => ?_) (fun c_1 => ?_)
      · refine lv_iconst (v := 0) hx hb dMo_mayCastle_104 (by decide) ?_
        exact ro_retz hx hb hr rfl hlocks dMo_mayCastle_105 (Eq.symm (he_40.trans (by rw [f_Mo_mayCastle_40_eq, if_pos c_1] <;> rfl)))
      · refine lv_aload_n hx hb dMo_mayCastle_51 rfl (lv_at hl 1 rfl) ?_
        refine lv_iload_n hx hb dMo_mayCastle_52 rfl (lv_at hl 3 rfl) ?_
        refine lv_iload_n hx hb dMo_mayCastle_53 rfl (lv_at hl 2 rfl) ?_
        refine lv_if_eq (tgt := 63) hx hb dMo_mayCastle_54 (by decide) (fun c_2 => ?_) (fun c_2 => ?_)
        · refine lv_iload_n hx hb dMo_mayCastle_63 rfl (lv_at hl 3 rfl) ?_
          refine lv_iconst (v := 4) hx hb dMo_mayCastle_64 (by decide) ?_
          refine lv_isub hx hb dMo_mayCastle_65 ?_
          refine ro_goi (va_runV (C := "ChessRulesModel") (As := [.int ((56 * oS_side) + 4), .int (((56 * oS_side) + 4) - 4)]) (rest := []) ⟨hx, hb, hml, hown, hB⟩ (c_Mo_isEmptyBetween l dC dI cI cJ cC ad o o_text o_out o_men o_pastMen o_pastSide o_pastRights o_pastPassed o_pastClock o_pastNumber o_pastTakes o_playedMoves o_keptMen o_keptRest o_lists o_counts oS_thrown oS_typed oS_text oS_told oS_out oS_men oS_side oS_rights oS_passed oS_clock oS_number oS_plies oS_pastMen oS_pastSide oS_pastRights oS_pastPassed oS_pastClock oS_pastNumber oS_pastTakes oS_playedMoves oS_keptMen oS_keptRest oS_lists oS_counts ((56 * oS_side) + 4) (((56 * oS_side) + 4) - 4) (by rcases hs with h | h <;> rw [h] <;> decide) (by rcases hs with h | h <;> rw [h] <;> decide)) ⟨callB_of 2 hB (big_self q5_112) rfl rfl rfl (hB _ q1_15) (hB _ q5_109) (by decide +kernel) ⟨Nat.le_of_ble_eq_true rfl, Nat.le_of_ble_eq_true rfl⟩, (hB _ q5_111), (hB _ qs5_15)⟩ (ro_preV (GS_ok ad) hK hP hG hS [0, 1, 2, 3, 4, 5, 6, 7, 8, 9, 10, 11, 12, 13, 14, 15] rfl (va_recv hK hP (ci := 6) (q0 := 0) rfl rfl)) rfl rfl hl.1 rfl (lv_room (Nat.le_of_ble_eq_true rfl)) dMo_mayCastle_66 ⟨Nat.le_of_ble_eq_true rfl, Nat.le_of_ble_eq_true rfl⟩) ?_
          refine lv_if_eq (tgt := 104) hx hb dMo_mayCastle_69 (by decide) (fun c_3 => ?_) (fun c_3 => ?_)
          · refine lv_iconst (v := 0) hx hb dMo_mayCastle_104 (by decide) ?_
            exact ro_retz hx hb hr rfl hlocks dMo_mayCastle_105 (Eq.symm (he_40.trans (by rw [f_Mo_mayCastle_40_eq, if_neg c_1, if_pos c_2, if_pos c_3] <;> rfl)))
          · refine lv_aload_n hx hb dMo_mayCastle_72 rfl (lv_at hl 1 rfl) ?_
            refine lv_aload_n hx hb dMo_mayCastle_73 rfl (lv_at hl 1 rfl) ?_
            refine va_get (D := (dC, dI)) (ci := 6) (v := .int oS_side) (C := RMo) (T := TMo) (N := 24) hx hb hB inMo hown hK hP 0 rfl rfl 6 (by decide) (hB _ q5_17) (fun _ h9 => h9) rfl dMo_mayCastle_74 ?_
            refine ro_goi (va_runV (C := "ChessRulesModel") (As := [.int oS_side]) (rest := []) ⟨hx, hb, hml, hown, hB⟩ (c_Mo_inCheck l dC dI cI cJ cC ad o o_text o_out o_men o_pastMen o_pastSide o_pastRights o_pastPassed o_pastClock o_pastNumber o_pastTakes o_playedMoves o_keptMen o_keptRest o_lists o_counts oS_thrown oS_typed oS_text oS_told oS_out oS_men oS_side oS_rights oS_passed oS_clock oS_number oS_plies oS_pastMen oS_pastSide oS_pastRights oS_pastPassed oS_pastClock oS_pastNumber oS_pastTakes oS_playedMoves oS_keptMen oS_keptRest oS_lists oS_counts oS_side) ⟨callB_of 1 hB (big_self q4_234) rfl rfl rfl (hB _ q1_15) (hB _ q4_231) (by decide +kernel) ⟨Nat.le_of_ble_eq_true rfl, Nat.le_of_ble_eq_true rfl⟩, (hB _ q4_233), (hB _ qs5_6)⟩ (ro_preV (GS_ok ad) hK hP hG hS [0, 1, 2, 3, 4, 5, 6, 7, 8, 9, 10, 11, 12, 13, 14, 15] rfl (va_recv hK hP (ci := 6) (q0 := 0) rfl rfl)) rfl rfl hl.1 rfl (lv_room (Nat.le_of_ble_eq_true rfl)) dMo_mayCastle_77 ⟨Nat.le_of_ble_eq_true rfl, Nat.le_of_ble_eq_true rfl⟩) ?_
            refine lv_if_ne (tgt := 104) hx hb dMo_mayCastle_80 (by decide) (fun c_4 => ?_) (fun c_4 => ?_)
            · refine lv_iconst (v := 0) hx hb dMo_mayCastle_104 (by decide) ?_
              exact ro_retz hx hb hr rfl hlocks dMo_mayCastle_105 (Eq.symm (he_40.trans (by rw [f_Mo_mayCastle_40_eq, if_neg c_1, if_pos c_2, if_neg c_3, if_neg c_4] <;> rfl)))
            · refine lv_aload_n hx hb dMo_mayCastle_83 rfl (lv_at hl 1 rfl) ?_
              refine lv_iload hx hb dMo_mayCastle_84 (lv_at hl 0 rfl) ?_
              refine lv_iconst (v := 1) hx hb dMo_mayCastle_86 (by decide) ?_
              refine lv_aload_n hx hb dMo_mayCastle_87 rfl (lv_at hl 1 rfl) ?_
              refine va_get (D := (dC, dI)) (ci := 6) (v := .int oS_side) (C := RMo) (T := TMo) (N := 24) hx hb hB inMo hown hK hP 0 rfl rfl 6 (by decide) (hB _ q5_17) (fun _ h9 => h9) rfl dMo_mayCastle_88 ?_
              refine lv_isub hx hb dMo_mayCastle_91 ?_
              refine ro_gol (va_runV (C := "ChessRulesModel") (As := [.int k0_40, .int (1 - oS_side)]) (rest := []) ⟨hx, hb, hml, hown, hB⟩ (c_Mo_attackersOf l dC dI cI cJ cC ad o o_text o_out o_men o_pastMen o_pastSide o_pastRights o_pastPassed o_pastClock o_pastNumber o_pastTakes o_playedMoves o_keptMen o_keptRest o_lists o_counts oS_thrown oS_typed oS_text oS_told oS_out oS_men oS_side oS_rights oS_passed oS_clock oS_number oS_plies oS_pastMen oS_pastSide oS_pastRights oS_pastPassed oS_pastClock oS_pastNumber oS_pastTakes oS_playedMoves oS_keptMen oS_keptRest oS_lists oS_counts k0_40 (1 - oS_side)) ⟨callB_of 2 hB (big_self q5_2) rfl rfl rfl (hB _ q1_15) (hB _ q4_239) (by decide +kernel) ⟨Nat.le_of_ble_eq_true rfl, Nat.le_of_ble_eq_true rfl⟩, (hB _ q5_1), (hB _ qs5_8)⟩ (ro_preV (GS_ok ad) hK hP hG hS [0, 1, 2, 3, 4, 5, 6, 7, 8, 9, 10, 11, 12, 13, 14, 15] rfl (va_recv hK hP (ci := 6) (q0 := 0) rfl rfl)) rfl rfl hl.1 rfl (lv_room (Nat.le_of_ble_eq_true rfl)) dMo_mayCastle_92 ⟨Nat.le_of_ble_eq_true rfl, Nat.le_of_ble_eq_true rfl⟩) ?_
              refine lv_lconst (v := 0) hx hb dMo_mayCastle_95 (by decide) ?_
              refine W.lcmp hx hb dMo_mayCastle_96 ?_
              refine lv_if_ne (tgt := 104) hx hb dMo_mayCastle_97 (by decide) (fun q => let_c (h := ¬ (f_Mo_attackersOf oS_men k0_40 (1 - oS_side)) = 0) (lgc_ne.1 q) (fun c_5 => ?_)) (fun q => let_c (h := (f_Mo_attackersOf oS_men k0_40 (1 - oS_side)) = 0) (lgc_ne.2 q) (fun c_5 => ?_))
              · refine lv_iconst (v := 0) hx hb dMo_mayCastle_104 (by decide) ?_
                exact ro_retz hx hb hr rfl hlocks dMo_mayCastle_105 (Eq.symm (he_40.trans (by rw [f_Mo_mayCastle_40_eq, if_neg c_1, if_pos c_2, if_neg c_3, if_pos c_4, if_neg c_5] <;> rfl)))
              · refine lv_iconst (v := 1) hx hb dMo_mayCastle_100 (by decide) ?_
                refine lv_goto (tgt := 105) hx hb dMo_mayCastle_101 (by decide) ?_
                exact ro_retz hx hb hr rfl hlocks dMo_mayCastle_105 (Eq.symm (he_40.trans (by rw [f_Mo_mayCastle_40_eq, if_neg c_1, if_pos c_2, if_neg c_3, if_pos c_4, if_pos c_5] <;> rfl)))
        · refine lv_iload_n hx hb dMo_mayCastle_57 rfl (lv_at hl 3 rfl) ?_
          refine lv_iconst (v := 3) hx hb dMo_mayCastle_58 (by decide) ?_
          refine lv_iadd hx hb dMo_mayCastle_59 ?_
          refine lv_goto (tgt := 66) hx hb dMo_mayCastle_60 (by decide) ?_
          refine ro_goi (va_runV (C := "ChessRulesModel") (As := [.int ((56 * oS_side) + 4), .int (((56 * oS_side) + 4) + 3)]) (rest := []) ⟨hx, hb, hml, hown, hB⟩ (c_Mo_isEmptyBetween l dC dI cI cJ cC ad o o_text o_out o_men o_pastMen o_pastSide o_pastRights o_pastPassed o_pastClock o_pastNumber o_pastTakes o_playedMoves o_keptMen o_keptRest o_lists o_counts oS_thrown oS_typed oS_text oS_told oS_out oS_men oS_side oS_rights oS_passed oS_clock oS_number oS_plies oS_pastMen oS_pastSide oS_pastRights oS_pastPassed oS_pastClock oS_pastNumber oS_pastTakes oS_playedMoves oS_keptMen oS_keptRest oS_lists oS_counts ((56 * oS_side) + 4) (((56 * oS_side) + 4) + 3) (by rcases hs with h | h <;> rw [h] <;> decide) (by rcases hs with h | h <;> rw [h] <;> decide)) ⟨callB_of 2 hB (big_self q5_112) rfl rfl rfl (hB _ q1_15) (hB _ q5_109) (by decide +kernel) ⟨Nat.le_of_ble_eq_true rfl, Nat.le_of_ble_eq_true rfl⟩, (hB _ q5_111), (hB _ qs5_15)⟩ (ro_preV (GS_ok ad) hK hP hG hS [0, 1, 2, 3, 4, 5, 6, 7, 8, 9, 10, 11, 12, 13, 14, 15] rfl (va_recv hK hP (ci := 6) (q0 := 0) rfl rfl)) rfl rfl hl.1 rfl (lv_room (Nat.le_of_ble_eq_true rfl)) dMo_mayCastle_66 ⟨Nat.le_of_ble_eq_true rfl, Nat.le_of_ble_eq_true rfl⟩) ?_
          refine lv_if_eq (tgt := 104) hx hb dMo_mayCastle_69 (by decide) (fun c_6 => ?_) (fun c_6 => ?_)
          · refine lv_iconst (v := 0) hx hb dMo_mayCastle_104 (by decide) ?_
            exact ro_retz hx hb hr rfl hlocks dMo_mayCastle_105 (Eq.symm (he_40.trans (by rw [f_Mo_mayCastle_40_eq, if_neg c_1, if_neg c_2, if_pos c_6] <;> rfl)))
          · refine lv_aload_n hx hb dMo_mayCastle_72 rfl (lv_at hl 1 rfl) ?_
            refine lv_aload_n hx hb dMo_mayCastle_73 rfl (lv_at hl 1 rfl) ?_
            refine va_get (D := (dC, dI)) (ci := 6) (v := .int oS_side) (C := RMo) (T := TMo) (N := 24) hx hb hB inMo hown hK hP 0 rfl rfl 6 (by decide) (hB _ q5_17) (fun _ h9 => h9) rfl dMo_mayCastle_74 ?_
            refine ro_goi (va_runV (C := "ChessRulesModel") (As := [.int oS_side]) (rest := []) ⟨hx, hb, hml, hown, hB⟩ (c_Mo_inCheck l dC dI cI cJ cC ad o o_text o_out o_men o_pastMen o_pastSide o_pastRights o_pastPassed o_pastClock o_pastNumber o_pastTakes o_playedMoves o_keptMen o_keptRest o_lists o_counts oS_thrown oS_typed oS_text oS_told oS_out oS_men oS_side oS_rights oS_passed oS_clock oS_number oS_plies oS_pastMen oS_pastSide oS_pastRights oS_pastPassed oS_pastClock oS_pastNumber oS_pastTakes oS_playedMoves oS_keptMen oS_keptRest oS_lists oS_counts oS_side) ⟨callB_of 1 hB (big_self q4_234) rfl rfl rfl (hB _ q1_15) (hB _ q4_231) (by decide +kernel) ⟨Nat.le_of_ble_eq_true rfl, Nat.le_of_ble_eq_true rfl⟩, (hB _ q4_233), (hB _ qs5_6)⟩ (ro_preV (GS_ok ad) hK hP hG hS [0, 1, 2, 3, 4, 5, 6, 7, 8, 9, 10, 11, 12, 13, 14, 15] rfl (va_recv hK hP (ci := 6) (q0 := 0) rfl rfl)) rfl rfl hl.1 rfl (lv_room (Nat.le_of_ble_eq_true rfl)) dMo_mayCastle_77 ⟨Nat.le_of_ble_eq_true rfl, Nat.le_of_ble_eq_true rfl⟩) ?_
            refine lv_if_ne (tgt := 104) hx hb dMo_mayCastle_80 (by decide) (fun c_7 => ?_) (fun c_7 => ?_)
            · refine lv_iconst (v := 0) hx hb dMo_mayCastle_104 (by decide) ?_
              exact ro_retz hx hb hr rfl hlocks dMo_mayCastle_105 (Eq.symm (he_40.trans (by rw [f_Mo_mayCastle_40_eq, if_neg c_1, if_neg c_2, if_neg c_6, if_neg c_7] <;> rfl)))
            · refine lv_aload_n hx hb dMo_mayCastle_83 rfl (lv_at hl 1 rfl) ?_
              refine lv_iload hx hb dMo_mayCastle_84 (lv_at hl 0 rfl) ?_
              refine lv_iconst (v := 1) hx hb dMo_mayCastle_86 (by decide) ?_
              refine lv_aload_n hx hb dMo_mayCastle_87 rfl (lv_at hl 1 rfl) ?_
              refine va_get (D := (dC, dI)) (ci := 6) (v := .int oS_side) (C := RMo) (T := TMo) (N := 24) hx hb hB inMo hown hK hP 0 rfl rfl 6 (by decide) (hB _ q5_17) (fun _ h9 => h9) rfl dMo_mayCastle_88 ?_
              refine lv_isub hx hb dMo_mayCastle_91 ?_
              refine ro_gol (va_runV (C := "ChessRulesModel") (As := [.int k0_40, .int (1 - oS_side)]) (rest := []) ⟨hx, hb, hml, hown, hB⟩ (c_Mo_attackersOf l dC dI cI cJ cC ad o o_text o_out o_men o_pastMen o_pastSide o_pastRights o_pastPassed o_pastClock o_pastNumber o_pastTakes o_playedMoves o_keptMen o_keptRest o_lists o_counts oS_thrown oS_typed oS_text oS_told oS_out oS_men oS_side oS_rights oS_passed oS_clock oS_number oS_plies oS_pastMen oS_pastSide oS_pastRights oS_pastPassed oS_pastClock oS_pastNumber oS_pastTakes oS_playedMoves oS_keptMen oS_keptRest oS_lists oS_counts k0_40 (1 - oS_side)) ⟨callB_of 2 hB (big_self q5_2) rfl rfl rfl (hB _ q1_15) (hB _ q4_239) (by decide +kernel) ⟨Nat.le_of_ble_eq_true rfl, Nat.le_of_ble_eq_true rfl⟩, (hB _ q5_1), (hB _ qs5_8)⟩ (ro_preV (GS_ok ad) hK hP hG hS [0, 1, 2, 3, 4, 5, 6, 7, 8, 9, 10, 11, 12, 13, 14, 15] rfl (va_recv hK hP (ci := 6) (q0 := 0) rfl rfl)) rfl rfl hl.1 rfl (lv_room (Nat.le_of_ble_eq_true rfl)) dMo_mayCastle_92 ⟨Nat.le_of_ble_eq_true rfl, Nat.le_of_ble_eq_true rfl⟩) ?_
              refine lv_lconst (v := 0) hx hb dMo_mayCastle_95 (by decide) ?_
              refine W.lcmp hx hb dMo_mayCastle_96 ?_
              refine lv_if_ne (tgt := 104) hx hb dMo_mayCastle_97 (by decide) (fun q => let_c (h := ¬ (f_Mo_attackersOf oS_men k0_40 (1 - oS_side)) = 0) (lgc_ne.1 q) (fun c_8 => ?_)) (fun q => let_c (h := (f_Mo_attackersOf oS_men k0_40 (1 - oS_side)) = 0) (lgc_ne.2 q) (fun c_8 => ?_))
              · refine lv_iconst (v := 0) hx hb dMo_mayCastle_104 (by decide) ?_
                exact ro_retz hx hb hr rfl hlocks dMo_mayCastle_105 (Eq.symm (he_40.trans (by rw [f_Mo_mayCastle_40_eq, if_neg c_1, if_neg c_2, if_neg c_6, if_pos c_7, if_neg c_8] <;> rfl)))
              · refine lv_iconst (v := 1) hx hb dMo_mayCastle_100 (by decide) ?_
                refine lv_goto (tgt := 105) hx hb dMo_mayCastle_101 (by decide) ?_
                exact ro_retz hx hb hr rfl hlocks dMo_mayCastle_105 (Eq.symm (he_40.trans (by rw [f_Mo_mayCastle_40_eq, if_neg c_1, if_neg c_2, if_neg c_6, if_pos c_7, if_pos c_8] <;> rfl)))
    refine lv_if_eq (tgt := 37) hx hb dMo_mayCastle_28 (by decide) (fun c_9 => ?_) (fun c_9 => ?_)
    · refine lv_iload_n hx hb dMo_mayCastle_37 rfl (lv_at hl 3 rfl) ?_
      refine lv_iconst (v := 1) hx hb dMo_mayCastle_38 (by decide) ?_
      refine lv_isub hx hb dMo_mayCastle_39 ?_
      exact J_40 (((56 * oS_side) + 4) - 1) (he_19.trans (by rw [f_Mo_mayCastle_19_eq, if_pos c_9] <;> rfl)) ls (lv_sub hl [1, 2, 3, 0] rfl)
    · refine lv_iload_n hx hb dMo_mayCastle_31 rfl (lv_at hl 3 rfl) ?_
      refine lv_iconst (v := 1) hx hb dMo_mayCastle_32 (by decide) ?_
      refine lv_iadd hx hb dMo_mayCastle_33 ?_
      refine lv_goto (tgt := 40) hx hb dMo_mayCastle_34 (by decide) ?_
      exact J_40 (((56 * oS_side) + 4) + 1) (he_19.trans (by rw [f_Mo_mayCastle_19_eq, if_neg c_9] <;> rfl)) ls (lv_sub hl [1, 2, 3, 0] rfl)
  refine lv_if_eq (tgt := 18) hx hb dMo_mayCastle_11 (by decide) (fun c_10 => ?_) (fun c_10 => ?_)
  · refine lv_iconst (v := 2) hx hb dMo_mayCastle_18 (by decide) ?_
    exact J_19 2 (by rw [f_Mo_mayCastle_eq, if_pos c_10] <;> rfl) ls (lv_sub hl [1, 2, 0] rfl)
  · refine lv_iconst (v := 1) hx hb dMo_mayCastle_14 (by decide) ?_
    refine lv_goto (tgt := 19) hx hb dMo_mayCastle_15 (by decide) ?_
    exact J_19 1 (by rw [f_Mo_mayCastle_eq, if_neg c_10] <;> rfl) ls (lv_sub hl [1, 2, 0] rfl)

abbrev cMo_pawnGoals : ByteArray := prog_11_method_15_code
def yMo_pawnGoals : MethodName := ⟨"ChessRulesModel", "pawnGoals", "(I)J"⟩
def wsMo_pawnGoals : List Cond := Cond.code yMo_pawnGoals cMo_pawnGoals 9 (some .long) :: BIG
theorem dMo_pawnGoals_0 : decode cMo_pawnGoals 0 = .ok (.aload_n 0, 1) := by decide +kernel
theorem dMo_pawnGoals_1 : decode cMo_pawnGoals 1 = .ok (.getfield 106, 3) := by decide +kernel
theorem dMo_pawnGoals_4 : decode cMo_pawnGoals 4 = .ok (.ifCond .ne 7, 3) := by decide +kernel
theorem dMo_pawnGoals_7 : decode cMo_pawnGoals 7 = .ok (.iconst 1, 1) := by decide +kernel
theorem dMo_pawnGoals_8 : decode cMo_pawnGoals 8 = .ok (.goto 4, 3) := by decide +kernel
theorem dMo_pawnGoals_11 : decode cMo_pawnGoals 11 = .ok (.iconst (-1), 1) := by decide +kernel
theorem dMo_pawnGoals_12 : decode cMo_pawnGoals 12 = .ok (.istore_n 2, 1) := by decide +kernel
theorem dMo_pawnGoals_13 : decode cMo_pawnGoals 13 = .ok (.lconst 0, 1) := by decide +kernel
theorem dMo_pawnGoals_14 : decode cMo_pawnGoals 14 = .ok (.lstore_n 3, 1) := by decide +kernel
theorem dMo_pawnGoals_15 : decode cMo_pawnGoals 15 = .ok (.iload_n 1, 1) := by decide +kernel
theorem dMo_pawnGoals_16 : decode cMo_pawnGoals 16 = .ok (.iconst 0, 1) := by decide +kernel
theorem dMo_pawnGoals_17 : decode cMo_pawnGoals 17 = .ok (.iload_n 2, 1) := by decide +kernel
theorem dMo_pawnGoals_18 : decode cMo_pawnGoals 18 = .ok (.invokestatic 77, 3) := by decide +kernel
theorem dMo_pawnGoals_21 : decode cMo_pawnGoals 21 = .ok (.istore 5, 2) := by decide +kernel
theorem dMo_pawnGoals_23 : decode cMo_pawnGoals 23 = .ok (.iload 5, 2) := by decide +kernel
theorem dMo_pawnGoals_25 : decode cMo_pawnGoals 25 = .ok (.ifCond .lt 68, 3) := by decide +kernel
theorem dMo_pawnGoals_28 : decode cMo_pawnGoals 28 = .ok (.aload_n 0, 1) := by decide +kernel
theorem dMo_pawnGoals_29 : decode cMo_pawnGoals 29 = .ok (.getfield 16, 3) := by decide +kernel
theorem dMo_pawnGoals_32 : decode cMo_pawnGoals 32 = .ok (.iload 5, 2) := by decide +kernel
theorem dMo_pawnGoals_34 : decode cMo_pawnGoals 34 = .ok (.iaload, 1) := by decide +kernel
theorem dMo_pawnGoals_35 : decode cMo_pawnGoals 35 = .ok (.ifCond .ne 58, 3) := by decide +kernel
theorem dMo_pawnGoals_38 : decode cMo_pawnGoals 38 = .ok (.lload_n 3, 1) := by decide +kernel
theorem dMo_pawnGoals_39 : decode cMo_pawnGoals 39 = .ok (.iload 5, 2) := by decide +kernel
theorem dMo_pawnGoals_41 : decode cMo_pawnGoals 41 = .ok (.invokestatic 81, 3) := by decide +kernel
theorem dMo_pawnGoals_44 : decode cMo_pawnGoals 44 = .ok (.lor, 1) := by decide +kernel
theorem dMo_pawnGoals_45 : decode cMo_pawnGoals 45 = .ok (.lstore_n 3, 1) := by decide +kernel
theorem dMo_pawnGoals_46 : decode cMo_pawnGoals 46 = .ok (.iload 5, 2) := by decide +kernel
theorem dMo_pawnGoals_48 : decode cMo_pawnGoals 48 = .ok (.iconst 0, 1) := by decide +kernel
theorem dMo_pawnGoals_49 : decode cMo_pawnGoals 49 = .ok (.iload_n 2, 1) := by decide +kernel
theorem dMo_pawnGoals_50 : decode cMo_pawnGoals 50 = .ok (.invokestatic 77, 3) := by decide +kernel
theorem dMo_pawnGoals_53 : decode cMo_pawnGoals 53 = .ok (.istore 6, 2) := by decide +kernel
theorem dMo_pawnGoals_55 : decode cMo_pawnGoals 55 = .ok (.iload_n 1, 1) := by decide +kernel
theorem dMo_pawnGoals_56 : decode cMo_pawnGoals 56 = .ok (.bipush 8, 2) := by decide +kernel
theorem dMo_pawnGoals_58 : decode cMo_pawnGoals 58 = .ok (.idiv, 1) := by decide +kernel
theorem dMo_pawnGoals_59 : decode cMo_pawnGoals 59 = .ok (.aload_n 0, 1) := by decide +kernel
theorem dMo_pawnGoals_60 : decode cMo_pawnGoals 60 = .ok (.getfield 106, 3) := by decide +kernel
theorem dMo_pawnGoals_63 : decode cMo_pawnGoals 63 = .ok (.ifCond .ne 7, 3) := by decide +kernel
theorem dMo_pawnGoals_66 : decode cMo_pawnGoals 66 = .ok (.iconst 1, 1) := by decide +kernel
theorem dMo_pawnGoals_67 : decode cMo_pawnGoals 67 = .ok (.goto 5, 3) := by decide +kernel
theorem dMo_pawnGoals_70 : decode cMo_pawnGoals 70 = .ok (.bipush 6, 2) := by decide +kernel
theorem dMo_pawnGoals_72 : decode cMo_pawnGoals 72 = .ok (.if_icmp .ne 21, 3) := by decide +kernel
theorem dMo_pawnGoals_75 : decode cMo_pawnGoals 75 = .ok (.aload_n 0, 1) := by decide +kernel
theorem dMo_pawnGoals_76 : decode cMo_pawnGoals 76 = .ok (.getfield 16, 3) := by decide +kernel
theorem dMo_pawnGoals_79 : decode cMo_pawnGoals 79 = .ok (.iload 6, 2) := by decide +kernel
theorem dMo_pawnGoals_81 : decode cMo_pawnGoals 81 = .ok (.iaload, 1) := by decide +kernel
theorem dMo_pawnGoals_82 : decode cMo_pawnGoals 82 = .ok (.ifCond .ne 11, 3) := by decide +kernel
theorem dMo_pawnGoals_85 : decode cMo_pawnGoals 85 = .ok (.lload_n 3, 1) := by decide +kernel
theorem dMo_pawnGoals_86 : decode cMo_pawnGoals 86 = .ok (.iload 6, 2) := by decide +kernel
theorem dMo_pawnGoals_88 : decode cMo_pawnGoals 88 = .ok (.invokestatic 81, 3) := by decide +kernel
theorem dMo_pawnGoals_91 : decode cMo_pawnGoals 91 = .ok (.lor, 1) := by decide +kernel
theorem dMo_pawnGoals_92 : decode cMo_pawnGoals 92 = .ok (.lstore_n 3, 1) := by decide +kernel
theorem dMo_pawnGoals_93 : decode cMo_pawnGoals 93 = .ok (.aload_n 0, 1) := by decide +kernel
theorem dMo_pawnGoals_94 : decode cMo_pawnGoals 94 = .ok (.iload_n 1, 1) := by decide +kernel
theorem dMo_pawnGoals_95 : decode cMo_pawnGoals 95 = .ok (.invokevirtual 96, 3) := by decide +kernel
theorem dMo_pawnGoals_98 : decode cMo_pawnGoals 98 = .ok (.lstore 6, 2) := by decide +kernel
theorem dMo_pawnGoals_100 : decode cMo_pawnGoals 100 = .ok (.iconst 0, 1) := by decide +kernel
theorem dMo_pawnGoals_101 : decode cMo_pawnGoals 101 = .ok (.istore 8, 2) := by decide +kernel
theorem dMo_pawnGoals_103 : decode cMo_pawnGoals 103 = .ok (.iload 8, 2) := by decide +kernel
theorem dMo_pawnGoals_105 : decode cMo_pawnGoals 105 = .ok (.bipush 64, 2) := by decide +kernel
theorem dMo_pawnGoals_107 : decode cMo_pawnGoals 107 = .ok (.if_icmp .ge 53, 3) := by decide +kernel
theorem dMo_pawnGoals_110 : decode cMo_pawnGoals 110 = .ok (.lload 6, 2) := by decide +kernel
theorem dMo_pawnGoals_112 : decode cMo_pawnGoals 112 = .ok (.iload 8, 2) := by decide +kernel
theorem dMo_pawnGoals_114 : decode cMo_pawnGoals 114 = .ok (.lshr, 1) := by decide +kernel
theorem dMo_pawnGoals_115 : decode cMo_pawnGoals 115 = .ok (.lconst 1, 1) := by decide +kernel
theorem dMo_pawnGoals_116 : decode cMo_pawnGoals 116 = .ok (.land, 1) := by decide +kernel
theorem dMo_pawnGoals_117 : decode cMo_pawnGoals 117 = .ok (.lconst 1, 1) := by decide +kernel
theorem dMo_pawnGoals_118 : decode cMo_pawnGoals 118 = .ok (.lcmp, 1) := by decide +kernel
theorem dMo_pawnGoals_119 : decode cMo_pawnGoals 119 = .ok (.ifCond .ne 35, 3) := by decide +kernel
theorem dMo_pawnGoals_122 : decode cMo_pawnGoals 122 = .ok (.aload_n 0, 1) := by decide +kernel
theorem dMo_pawnGoals_123 : decode cMo_pawnGoals 123 = .ok (.iload 8, 2) := by decide +kernel
theorem dMo_pawnGoals_125 : decode cMo_pawnGoals 125 = .ok (.iconst 1, 1) := by decide +kernel
theorem dMo_pawnGoals_126 : decode cMo_pawnGoals 126 = .ok (.aload_n 0, 1) := by decide +kernel
theorem dMo_pawnGoals_127 : decode cMo_pawnGoals 127 = .ok (.getfield 106, 3) := by decide +kernel
theorem dMo_pawnGoals_130 : decode cMo_pawnGoals 130 = .ok (.isub, 1) := by decide +kernel
theorem dMo_pawnGoals_131 : decode cMo_pawnGoals 131 = .ok (.invokevirtual 93, 3) := by decide +kernel
theorem dMo_pawnGoals_134 : decode cMo_pawnGoals 134 = .ok (.ifCond .ne 12, 3) := by decide +kernel
theorem dMo_pawnGoals_137 : decode cMo_pawnGoals 137 = .ok (.iload 8, 2) := by decide +kernel
theorem dMo_pawnGoals_139 : decode cMo_pawnGoals 139 = .ok (.aload_n 0, 1) := by decide +kernel
theorem dMo_pawnGoals_140 : decode cMo_pawnGoals 140 = .ok (.getfield 24, 3) := by decide +kernel
theorem dMo_pawnGoals_143 : decode cMo_pawnGoals 143 = .ok (.if_icmp .ne 11, 3) := by decide +kernel
theorem dMo_pawnGoals_146 : decode cMo_pawnGoals 146 = .ok (.lload_n 3, 1) := by decide +kernel
theorem dMo_pawnGoals_147 : decode cMo_pawnGoals 147 = .ok (.iload 8, 2) := by decide +kernel
theorem dMo_pawnGoals_149 : decode cMo_pawnGoals 149 = .ok (.invokestatic 81, 3) := by decide +kernel
theorem dMo_pawnGoals_152 : decode cMo_pawnGoals 152 = .ok (.lor, 1) := by decide +kernel
theorem dMo_pawnGoals_153 : decode cMo_pawnGoals 153 = .ok (.lstore_n 3, 1) := by decide +kernel
theorem dMo_pawnGoals_154 : decode cMo_pawnGoals 154 = .ok (.iinc 8 1, 3) := by decide +kernel
theorem dMo_pawnGoals_157 : decode cMo_pawnGoals 157 = .ok (.goto (-54), 3) := by decide +kernel
theorem dMo_pawnGoals_160 : decode cMo_pawnGoals 160 = .ok (.lload_n 3, 1) := by decide +kernel
theorem dMo_pawnGoals_161 : decode cMo_pawnGoals 161 = .ok (.lreturn, 1) := by decide +kernel

def f_Mo_pawnGoals_146 (r_103 : Int64 → Int32 → Int64) (oS_men : Nat → Int32) (oS_side : Int32) (oS_passed : Int32) (square : Int32) (k0_12 : Int32) (v3_93 : Int64) (v3_103 : Int64) (v8_103 : Int32) : Int64 :=
  r_103 (v3_103 ||| (f_Mo_bit v8_103)) (v8_103 + 1)
theorem f_Mo_pawnGoals_146_eq (r_103 : Int64 → Int32 → Int64) (oS_men : Nat → Int32) (oS_side : Int32) (oS_passed : Int32) (square : Int32) (k0_12 : Int32) (v3_93 : Int64) (v3_103 : Int64) (v8_103 : Int32) : f_Mo_pawnGoals_146 r_103 oS_men oS_side oS_passed square k0_12 v3_93 v3_103 v8_103 =
  r_103 (v3_103 ||| (f_Mo_bit v8_103)) (v8_103 + 1) := rfl

def f_Mo_pawnGoals_103 (oS_men : Nat → Int32) (oS_side : Int32) (oS_passed : Int32) (square : Int32) (k0_12 : Int32) (v3_93 : Int64) : Nat → Int64 → Int32 → Int64
  | 0 => fun _ _ => 0
  | n_103 + 1 => fun v3_103 v8_103 => (if 64 ≤ v8_103 then v3_103 else (if ((shr64 (f_Mo_attacked oS_men square) v8_103) &&& 1) = 1 then (if (f_Mo_isOf oS_men v8_103 (1 - oS_side)) = 0 then (if v8_103 = oS_passed then f_Mo_pawnGoals_146 (f_Mo_pawnGoals_103 oS_men oS_side oS_passed square k0_12 v3_93 n_103) oS_men oS_side oS_passed square k0_12 v3_93 v3_103 v8_103 else (f_Mo_pawnGoals_103 oS_men oS_side oS_passed square k0_12 v3_93 n_103) v3_103 (v8_103 + 1)) else f_Mo_pawnGoals_146 (f_Mo_pawnGoals_103 oS_men oS_side oS_passed square k0_12 v3_93 n_103) oS_men oS_side oS_passed square k0_12 v3_93 v3_103 v8_103) else (f_Mo_pawnGoals_103 oS_men oS_side oS_passed square k0_12 v3_93 n_103) v3_103 (v8_103 + 1)))
theorem f_Mo_pawnGoals_103_eq (oS_men : Nat → Int32) (oS_side : Int32) (oS_passed : Int32) (square : Int32) (k0_12 : Int32) (v3_93 : Int64) (n_103 : Nat) (v3_103 : Int64) (v8_103 : Int32) : f_Mo_pawnGoals_103 oS_men oS_side oS_passed square k0_12 v3_93 (n_103 + 1) v3_103 v8_103 =
  (if 64 ≤ v8_103 then v3_103 else (if ((shr64 (f_Mo_attacked oS_men square) v8_103) &&& 1) = 1 then (if (f_Mo_isOf oS_men v8_103 (1 - oS_side)) = 0 then (if v8_103 = oS_passed then f_Mo_pawnGoals_146 (f_Mo_pawnGoals_103 oS_men oS_side oS_passed square k0_12 v3_93 n_103) oS_men oS_side oS_passed square k0_12 v3_93 v3_103 v8_103 else (f_Mo_pawnGoals_103 oS_men oS_side oS_passed square k0_12 v3_93 n_103) v3_103 (v8_103 + 1)) else f_Mo_pawnGoals_146 (f_Mo_pawnGoals_103 oS_men oS_side oS_passed square k0_12 v3_93 n_103) oS_men oS_side oS_passed square k0_12 v3_93 v3_103 v8_103) else (f_Mo_pawnGoals_103 oS_men oS_side oS_passed square k0_12 v3_93 n_103) v3_103 (v8_103 + 1))) := rfl

def f_Mo_pawnGoals_93 (oS_men : Nat → Int32) (oS_side : Int32) (oS_passed : Int32) (square : Int32) (k0_12 : Int32) (v3_93 : Int64) : Int64 :=
  f_Mo_pawnGoals_103 oS_men oS_side oS_passed square k0_12 v3_93 (65) v3_93 0
theorem f_Mo_pawnGoals_93_eq (oS_men : Nat → Int32) (oS_side : Int32) (oS_passed : Int32) (square : Int32) (k0_12 : Int32) (v3_93 : Int64) : f_Mo_pawnGoals_93 oS_men oS_side oS_passed square k0_12 v3_93 =
  f_Mo_pawnGoals_103 oS_men oS_side oS_passed square k0_12 v3_93 (65) v3_93 0 := rfl

def f_Mo_pawnGoals_72 (oS_men : Nat → Int32) (oS_side : Int32) (oS_passed : Int32) (square : Int32) (k0_12 : Int32) (k0_72 : Int32) : Int64 :=
  (if (square / 8) = k0_72 then (if (oS_men (f_Mo_step (f_Mo_step square 0 k0_12) 0 k0_12).toNatClampNeg) = 0 then f_Mo_pawnGoals_93 oS_men oS_side oS_passed square k0_12 ((0 ||| (f_Mo_bit (f_Mo_step square 0 k0_12))) ||| (f_Mo_bit (f_Mo_step (f_Mo_step square 0 k0_12) 0 k0_12))) else f_Mo_pawnGoals_93 oS_men oS_side oS_passed square k0_12 (0 ||| (f_Mo_bit (f_Mo_step square 0 k0_12)))) else f_Mo_pawnGoals_93 oS_men oS_side oS_passed square k0_12 (0 ||| (f_Mo_bit (f_Mo_step square 0 k0_12))))
theorem f_Mo_pawnGoals_72_eq (oS_men : Nat → Int32) (oS_side : Int32) (oS_passed : Int32) (square : Int32) (k0_12 : Int32) (k0_72 : Int32) : f_Mo_pawnGoals_72 oS_men oS_side oS_passed square k0_12 k0_72 =
  (if (square / 8) = k0_72 then (if (oS_men (f_Mo_step (f_Mo_step square 0 k0_12) 0 k0_12).toNatClampNeg) = 0 then f_Mo_pawnGoals_93 oS_men oS_side oS_passed square k0_12 ((0 ||| (f_Mo_bit (f_Mo_step square 0 k0_12))) ||| (f_Mo_bit (f_Mo_step (f_Mo_step square 0 k0_12) 0 k0_12))) else f_Mo_pawnGoals_93 oS_men oS_side oS_passed square k0_12 (0 ||| (f_Mo_bit (f_Mo_step square 0 k0_12)))) else f_Mo_pawnGoals_93 oS_men oS_side oS_passed square k0_12 (0 ||| (f_Mo_bit (f_Mo_step square 0 k0_12)))) := rfl

def f_Mo_pawnGoals_12 (oS_men : Nat → Int32) (oS_side : Int32) (oS_passed : Int32) (square : Int32) (k0_12 : Int32) : Int64 :=
  (if (f_Mo_step square 0 k0_12) < 0 then f_Mo_pawnGoals_93 oS_men oS_side oS_passed square k0_12 0 else (if (oS_men (f_Mo_step square 0 k0_12).toNatClampNeg) = 0 then (if oS_side = 0 then f_Mo_pawnGoals_72 oS_men oS_side oS_passed square k0_12 1 else f_Mo_pawnGoals_72 oS_men oS_side oS_passed square k0_12 6) else f_Mo_pawnGoals_93 oS_men oS_side oS_passed square k0_12 0))
theorem f_Mo_pawnGoals_12_eq (oS_men : Nat → Int32) (oS_side : Int32) (oS_passed : Int32) (square : Int32) (k0_12 : Int32) : f_Mo_pawnGoals_12 oS_men oS_side oS_passed square k0_12 =
  (if (f_Mo_step square 0 k0_12) < 0 then f_Mo_pawnGoals_93 oS_men oS_side oS_passed square k0_12 0 else (if (oS_men (f_Mo_step square 0 k0_12).toNatClampNeg) = 0 then (if oS_side = 0 then f_Mo_pawnGoals_72 oS_men oS_side oS_passed square k0_12 1 else f_Mo_pawnGoals_72 oS_men oS_side oS_passed square k0_12 6) else f_Mo_pawnGoals_93 oS_men oS_side oS_passed square k0_12 0)) := rfl

def f_Mo_pawnGoals (oS_men : Nat → Int32) (oS_side : Int32) (oS_passed : Int32) (square : Int32) : Int64 :=
  (if oS_side = 0 then f_Mo_pawnGoals_12 oS_men oS_side oS_passed square 1 else f_Mo_pawnGoals_12 oS_men oS_side oS_passed square (-1))
theorem f_Mo_pawnGoals_eq (oS_men : Nat → Int32) (oS_side : Int32) (oS_passed : Int32) (square : Int32) : f_Mo_pawnGoals oS_men oS_side oS_passed square =
  (if oS_side = 0 then f_Mo_pawnGoals_12 oS_men oS_side oS_passed square 1 else f_Mo_pawnGoals_12 oS_men oS_side oS_passed square (-1)) := rfl

set_option maxHeartbeats 4000000 in
set_option maxRecDepth 100000 in
theorem c_Mo_pawnGoals (l : Launch) (dC : Nat → ClassId) (dI : Nat → Nat → Nat) (cI cJ cC : ClassId) (ad : Nat → Nat) (o o_text o_out o_men o_pastMen o_pastSide o_pastRights o_pastPassed o_pastClock o_pastNumber o_pastTakes o_playedMoves o_keptMen o_keptRest o_lists o_counts : Nat) (oS_thrown : Int32) (oS_typed : Int32) (oS_text : Nat → Int32) (oS_told : Int32) (oS_out : Nat → Int32) (oS_men : Nat → Int32) (oS_side : Int32) (oS_rights : Int32) (oS_passed : Int32) (oS_clock : Int32) (oS_number : Int32) (oS_plies : Int32) (oS_pastMen : Nat → Int32) (oS_pastSide : Nat → Int32) (oS_pastRights : Nat → Int32) (oS_pastPassed : Nat → Int32) (oS_pastClock : Nat → Int32) (oS_pastNumber : Nat → Int32) (oS_pastTakes : Nat → Int64) (oS_playedMoves : Nat → Int32) (oS_keptMen : Nat → Int32) (oS_keptRest : Nat → Int32) (oS_lists : Nat → Int32) (oS_counts : Nat → Int32) (square : Int32) (hq : 0 ≤ square.toInt ∧ square.toInt < 64) : Met l yMo_pawnGoals wsMo_pawnGoals { frames := 4, cells := 0, slots := 0, locals := 99 } (roP dC dI (TYS cI cJ cC) [.ref o, .int square] [(o, .inr (6, [.int oS_thrown, .int oS_typed, .ref o_text, .int oS_told, .ref o_out, .ref o_men, .int oS_side, .int oS_rights, .int oS_passed, .int oS_clock, .int oS_number, .int oS_plies, .ref o_pastMen, .ref o_pastSide, .ref o_pastRights, .ref o_pastPassed, .ref o_pastClock, .ref o_pastNumber, .ref o_pastTakes, .ref o_playedMoves, .ref o_keptMen, .ref o_keptRest, .ref o_lists, .ref o_counts])), (o_text, .inl (cC, 100, .inl oS_text)), (o_out, .inl (cC, 100, .inl oS_out)), (o_men, .inl (cI, 64, .inl oS_men)), (o_pastMen, .inl (cI, 25664, .inl oS_pastMen)), (o_pastSide, .inl (cI, 401, .inl oS_pastSide)), (o_pastRights, .inl (cI, 401, .inl oS_pastRights)), (o_pastPassed, .inl (cI, 401, .inl oS_pastPassed)), (o_pastClock, .inl (cI, 401, .inl oS_pastClock)), (o_pastNumber, .inl (cI, 401, .inl oS_pastNumber)), (o_pastTakes, .inl (cJ, 401, .inr (.inl oS_pastTakes))), (o_playedMoves, .inl (cI, 400, .inl oS_playedMoves)), (o_keptMen, .inl (cI, 384, .inl oS_keptMen)), (o_keptRest, .inl (cI, 30, .inl oS_keptRest)), (o_lists, .inl (cI, 8192, .inl oS_lists)), (o_counts, .inl (cI, 4, .inl oS_counts))] (GS ad)) (vp_Sl (fun r => r = f_Mo_pawnGoals oS_men oS_side oS_passed square)) 0 0 (fun _ => False) := by
  refine Met.ofW (cc := cMo_pawnGoals) (maxL := 9) (ret := (some .long)) (by decide) rfl ?_
  intro p e s m args below meth c s₁ B hml hv
  obtain ⟨rfl, hP, hK, hG⟩ := hv
  have hx := B.exec
  have hb := B.bytes
  have hr := B.returns
  have hB : ∀ w9 ∈ BIG, w9.before ([.ref o, .int square]).toArray s = true := fun w9 h => atoms_spec (ws := wsMo_pawnGoals) B.pre w9 (List.mem_cons_of_mem _ h)
  have hown : s.vm.findClass "ChessRulesModel" = some m.cls := findClass_of_methodNamed B.named
  have hlocks := B.notSynchronized
  have hS : va_S (fun _ => False) s.heap s.heap [] := va_S.rf
  have hP : va_P (dC, dI) vwCl [(o, .inr (6, [.int oS_thrown, .int oS_typed, .ref o_text, .int oS_told, .ref o_out, .ref o_men, .int oS_side, .int oS_rights, .int oS_passed, .int oS_clock, .int oS_number, .int oS_plies, .ref o_pastMen, .ref o_pastSide, .ref o_pastRights, .ref o_pastPassed, .ref o_pastClock, .ref o_pastNumber, .ref o_pastTakes, .ref o_playedMoves, .ref o_keptMen, .ref o_keptRest, .ref o_lists, .ref o_counts])), (o_text, .inl (cC, 100, .inl oS_text)), (o_out, .inl (cC, 100, .inl oS_out)), (o_men, .inl (cI, 64, .inl oS_men)), (o_pastMen, .inl (cI, 25664, .inl oS_pastMen)), (o_pastSide, .inl (cI, 401, .inl oS_pastSide)), (o_pastRights, .inl (cI, 401, .inl oS_pastRights)), (o_pastPassed, .inl (cI, 401, .inl oS_pastPassed)), (o_pastClock, .inl (cI, 401, .inl oS_pastClock)), (o_pastNumber, .inl (cI, 401, .inl oS_pastNumber)), (o_pastTakes, .inl (cJ, 401, .inr (.inl oS_pastTakes))), (o_playedMoves, .inl (cI, 400, .inl oS_playedMoves)), (o_keptMen, .inl (cI, 384, .inl oS_keptMen)), (o_keptRest, .inl (cI, 30, .inl oS_keptRest)), (o_lists, .inl (cI, 8192, .inl oS_lists)), (o_counts, .inl (cI, 4, .inl oS_counts))] s.heap := hP
  have hl := lv_entry ([.ref o, .int square]) (n := 9) (Nat.le_of_ble_eq_true rfl)
  rw [lg_entry_eq]
  generalize (lg_sl ([.ref o, .int square]) ++ List.replicate (9 - (lg_sl ([.ref o, .int square])).length) Slot.unset).toArray = ls at hl ⊢
  have hl : lv_has ls 9 [(0, .ref o), (1, .int square)] := hl
  refine lv_aload_n hx hb dMo_pawnGoals_0 rfl (lv_at hl 0 rfl) ?_
  refine va_get (D := (dC, dI)) (ci := 6) (v := .int oS_side) (C := RMo) (T := TMo) (N := 24) hx hb hB inMo hown hK hP 0 rfl rfl 6 (by decide) (hB _ q5_17) (fun _ h9 => h9) rfl dMo_pawnGoals_1 ?_
  have J_12 : ∀ (k0_12 : Int32), f_Mo_pawnGoals oS_men oS_side oS_passed square = f_Mo_pawnGoals_12 oS_men oS_side oS_passed square k0_12 → ((oS_side = 0 ∧ k0_12 = 1) ∨ (¬ oS_side = 0 ∧ k0_12 = (-1))) → ∀ ls : Array Slot, lv_has ls 9 [(0, .ref o), (1, .int square)] → W p l e (headSpec wsMo_pawnGoals { frames := 4, cells := 0, slots := 0, locals := 99 }).room s m ([.ref o, .int square]).toArray below meth c s.heap [] 0 0 (MQ below (vp_Sl (fun r => r = f_Mo_pawnGoals oS_men oS_side oS_passed square)) ([.ref o, .int square]).toArray s 0 0 (fun _ => False)) (F0 m 12 ls [.int k0_12]) := by
    intro k0_12 he_12 hi_12 ls hl
    refine lv_istore_n (lv' := [(2, .int k0_12), (0, .ref o), (1, .int square)]) hx hb dMo_pawnGoals_12 rfl hl (by decide) rfl (fun ls hl => ?_)
    refine lv_lconst (v := 0) hx hb dMo_pawnGoals_13 (by decide) ?_
    refine lv_lstore_n (lv' := [(3, .long 0), (2, .int k0_12), (0, .ref o), (1, .int square)]) hx hb dMo_pawnGoals_14 rfl hl (by decide) rfl (fun ls hl => ?_)
    refine lv_iload_n hx hb dMo_pawnGoals_15 rfl (lv_at hl 3 rfl) ?_
    refine lv_iconst (v := 0) hx hb dMo_pawnGoals_16 (by decide) ?_
    refine lv_iload_n hx hb dMo_pawnGoals_17 rfl (lv_at hl 1 rfl) ?_
    refine ro_goi (va_runS (As := [.int square, .int 0, .int k0_12]) (rest := []) ⟨hx, hb, hml, hown, hB⟩ (c_Mo_step l dC dI cI cJ cC ad square 0 k0_12) ⟨callB_of 3 hB (big_self q4_205) rfl rfl rfl (hB _ q1_15) (hB _ q4_203) (by decide +kernel) ⟨Nat.le_of_ble_eq_true rfl, Nat.le_of_ble_eq_true rfl⟩, (hB _ q4_204)⟩ (ro_preS (GS_ok ad) hK hP hG hS [] rfl) rfl rfl hl.1 rfl (lv_room (Nat.le_of_ble_eq_true rfl)) dMo_pawnGoals_18 ⟨Nat.le_of_ble_eq_true rfl, Nat.le_of_ble_eq_true rfl⟩) ?_
    refine lv_istore (lv' := [(5, .int (f_Mo_step square 0 k0_12)), (3, .long 0), (2, .int k0_12), (0, .ref o), (1, .int square)]) hx hb dMo_pawnGoals_21 hl (by decide) rfl (fun ls hl => ?_)
    refine lv_iload hx hb dMo_pawnGoals_23 (lv_at hl 0 rfl) ?_
    have J_93 : ∀ (v3_93 : Int64), f_Mo_pawnGoals oS_men oS_side oS_passed square = f_Mo_pawnGoals_93 oS_men oS_side oS_passed square k0_12 v3_93 → ∀ ls : Array Slot, lv_has ls 9 [(0, .ref o), (1, .int square), (3, .long v3_93)] → W p l e (headSpec wsMo_pawnGoals { frames := 4, cells := 0, slots := 0, locals := 99 }).room s m ([.ref o, .int square]).toArray below meth c s.heap [] 0 0 (MQ below (vp_Sl (fun r => r = f_Mo_pawnGoals oS_men oS_side oS_passed square)) ([.ref o, .int square]).toArray s 0 0 (fun _ => False)) (F0 m 93 ls []) := by
      intro v3_93 he_93 ls hl
      refine lv_aload_n hx hb dMo_pawnGoals_93 rfl (lv_at hl 0 rfl) ?_
      refine lv_iload_n hx hb dMo_pawnGoals_94 rfl (lv_at hl 1 rfl) ?_
      refine ro_gol (va_runV (C := "ChessRulesModel") (As := [.int square]) (rest := []) ⟨hx, hb, hml, hown, hB⟩ (c_Mo_attacked l dC dI cI cJ cC ad o o_text o_out o_men o_pastMen o_pastSide o_pastRights o_pastPassed o_pastClock o_pastNumber o_pastTakes o_playedMoves o_keptMen o_keptRest o_lists o_counts oS_thrown oS_typed oS_text oS_told oS_out oS_men oS_side oS_rights oS_passed oS_clock oS_number oS_plies oS_pastMen oS_pastSide oS_pastRights oS_pastPassed oS_pastClock oS_pastNumber oS_pastTakes oS_playedMoves oS_keptMen oS_keptRest oS_lists oS_counts square hq) ⟨callB_of 1 hB (big_self q4_199) rfl rfl rfl (hB _ q1_15) (hB _ q4_196) (by decide +kernel) ⟨Nat.le_of_ble_eq_true rfl, Nat.le_of_ble_eq_true rfl⟩, (hB _ q4_198), (hB _ qs5_1)⟩ (ro_preV (GS_ok ad) hK hP hG hS [0, 1, 2, 3, 4, 5, 6, 7, 8, 9, 10, 11, 12, 13, 14, 15] rfl (va_recv hK hP (ci := 6) (q0 := 0) rfl rfl)) rfl rfl hl.1 rfl (lv_room (Nat.le_of_ble_eq_true rfl)) dMo_pawnGoals_95 ⟨Nat.le_of_ble_eq_true rfl, Nat.le_of_ble_eq_true rfl⟩) ?_
      refine lv_lstore (lv' := [(6, .long (f_Mo_attacked oS_men square)), (0, .ref o), (1, .int square), (3, .long v3_93)]) hx hb dMo_pawnGoals_98 hl (by decide) rfl (fun ls hl => ?_)
      refine lv_iconst (v := 0) hx hb dMo_pawnGoals_100 (by decide) ?_
      refine lv_istore (lv' := [(8, .int 0), (6, .long (f_Mo_attacked oS_men square)), (0, .ref o), (1, .int square), (3, .long v3_93)]) hx hb dMo_pawnGoals_101 hl (by decide) rfl (fun ls hl => ?_)
      have J_103 : ∀ (n_103 : Nat) (v3_103 : Int64) (v8_103 : Int32), f_Mo_pawnGoals oS_men oS_side oS_passed square = f_Mo_pawnGoals_103 oS_men oS_side oS_passed square k0_12 v3_93 n_103 v3_103 v8_103 → ((0 : Int) ≤ v8_103.toInt ∧ (64 : Int32).toInt - v8_103.toInt + 1 ≤ (n_103 : Int) ∧ (1 : Int) ≤ (n_103 : Int)) → ∀ ls : Array Slot, lv_has ls 9 [(0, .ref o), (3, .long v3_103), (6, .long (f_Mo_attacked oS_men square)), (8, .int v8_103)] → W p l e (headSpec wsMo_pawnGoals { frames := 4, cells := 0, slots := 0, locals := 99 }).room s m ([.ref o, .int square]).toArray below meth c s.heap [] 0 0 (MQ below (vp_Sl (fun r => r = f_Mo_pawnGoals oS_men oS_side oS_passed square)) ([.ref o, .int square]).toArray s 0 0 (fun _ => False)) (F0 m 103 ls []) := by
        intro n_103
        induction n_103 with
        | zero => intro v3_103 v8_103 _ hm_103; exact absurd hm_103 (by omega)
        | succ n_103 ih_103 =>
          intro v3_103 v8_103 he_103 hm_103 ls hl
          refine lv_iload hx hb dMo_pawnGoals_103 (lv_at hl 3 rfl) ?_
          refine lv_bipush (v := 64) hx hb dMo_pawnGoals_105 (by decide) ?_
          refine lv_icmp_ge (tgt := 160) hx hb dMo_pawnGoals_107 (by decide) (fun c_1 => ?_) (fun c_1 => ?_)
          · refine lv_lload_n hx hb dMo_pawnGoals_160 rfl (lv_at hl 1 rfl) ?_
            exact ro_retl hx hb hr hlocks dMo_pawnGoals_161 (Eq.symm (he_103.trans (by rw [f_Mo_pawnGoals_103_eq, if_pos c_1] <;> rfl)))
          · refine lv_lload hx hb dMo_pawnGoals_110 (lv_at hl 2 rfl) ?_
            refine lv_iload hx hb dMo_pawnGoals_112 (lv_at hl 3 rfl) ?_
            refine lv_lshr (v := shr64 (f_Mo_attacked oS_men square) v8_103) hx hb dMo_pawnGoals_114 rfl ?_
            refine lv_lconst (v := 1) hx hb dMo_pawnGoals_115 (by decide) ?_
            refine lv_land hx hb dMo_pawnGoals_116 ?_
            refine lv_lconst (v := 1) hx hb dMo_pawnGoals_117 (by decide) ?_
            refine W.lcmp hx hb dMo_pawnGoals_118 ?_
            refine lv_if_ne (tgt := 154) hx hb dMo_pawnGoals_119 (by decide) (fun q => let_c (h := ¬ ((shr64 (f_Mo_attacked oS_men square) v8_103) &&& 1) = 1) (lgc_ne.1 q) (fun c_2 => ?_)) (fun q => let_c (h := ((shr64 (f_Mo_attacked oS_men square) v8_103) &&& 1) = 1) (lgc_ne.2 q) (fun c_2 => ?_))
            · refine lv_iinc (v := v8_103 + 1) (lv' := [(8, .int (v8_103 + 1)), (0, .ref o), (3, .long v3_103), (6, .long (f_Mo_attacked oS_men square))]) hx hb dMo_pawnGoals_154 hl (k := 3) rfl rfl (by decide) rfl (fun ls hl => ?_)
              refine lv_goto (tgt := 103) hx hb dMo_pawnGoals_157 (by decide) ?_
              exact ih_103 v3_103 (v8_103 + 1) (he_103.trans (by rw [f_Mo_pawnGoals_103_eq, if_neg c_1, if_neg c_2] <;> rfl)) (by have z1 := tnle c_1; have y64 : (64 : Int32).toInt = 64 := rfl; have zr := i_rng (64 : Int32); have zs := i_succ9 v8_103 (by omega); omega) ls (lv_sub hl [1, 2, 3, 0] rfl)
            · refine lv_aload_n hx hb dMo_pawnGoals_122 rfl (lv_at hl 0 rfl) ?_
              refine lv_iload hx hb dMo_pawnGoals_123 (lv_at hl 3 rfl) ?_
              refine lv_iconst (v := 1) hx hb dMo_pawnGoals_125 (by decide) ?_
              refine lv_aload_n hx hb dMo_pawnGoals_126 rfl (lv_at hl 0 rfl) ?_
              refine va_get (D := (dC, dI)) (ci := 6) (v := .int oS_side) (C := RMo) (T := TMo) (N := 24) hx hb hB inMo hown hK hP 0 rfl rfl 6 (by decide) (hB _ q5_17) (fun _ h9 => h9) rfl dMo_pawnGoals_127 ?_
              refine lv_isub hx hb dMo_pawnGoals_130 ?_
              refine ro_goi (va_runV (C := "ChessRulesModel") (As := [.int v8_103, .int (1 - oS_side)]) (rest := []) ⟨hx, hb, hml, hown, hB⟩ (c_Mo_isOf l dC dI cI cJ cC ad o o_text o_out o_men o_pastMen o_pastSide o_pastRights o_pastPassed o_pastClock o_pastNumber o_pastTakes o_playedMoves o_keptMen o_keptRest o_lists o_counts oS_thrown oS_typed oS_text oS_told oS_out oS_men oS_side oS_rights oS_passed oS_clock oS_number oS_plies oS_pastMen oS_pastSide oS_pastRights oS_pastPassed oS_pastClock oS_pastNumber oS_pastTakes oS_playedMoves oS_keptMen oS_keptRest oS_lists oS_counts v8_103 (1 - oS_side) (by have z1 := tnle c_1; have y64 : (64 : Int32).toInt = 64 := rfl; omega)) ⟨callB_of 2 hB (big_self q5_6) rfl rfl rfl (hB _ q1_15) (hB _ q5_3) (by decide +kernel) ⟨Nat.le_of_ble_eq_true rfl, Nat.le_of_ble_eq_true rfl⟩, (hB _ q5_5), (hB _ qs5_9)⟩ (ro_preV (GS_ok ad) hK hP hG hS [0, 1, 2, 3, 4, 5, 6, 7, 8, 9, 10, 11, 12, 13, 14, 15] rfl (va_recv hK hP (ci := 6) (q0 := 0) rfl rfl)) rfl rfl hl.1 rfl (lv_room (Nat.le_of_ble_eq_true rfl)) dMo_pawnGoals_131 ⟨Nat.le_of_ble_eq_true rfl, Nat.le_of_ble_eq_true rfl⟩) ?_
              have J_146 : f_Mo_pawnGoals oS_men oS_side oS_passed square = f_Mo_pawnGoals_146 (f_Mo_pawnGoals_103 oS_men oS_side oS_passed square k0_12 v3_93 n_103) oS_men oS_side oS_passed square k0_12 v3_93 v3_103 v8_103 → ∀ ls : Array Slot, lv_has ls 9 [(0, .ref o), (3, .long v3_103), (6, .long (f_Mo_attacked oS_men square)), (8, .int v8_103)] → W p l e (headSpec wsMo_pawnGoals { frames := 4, cells := 0, slots := 0, locals := 99 }).room s m ([.ref o, .int square]).toArray below meth c s.heap [] 0 0 (MQ below (vp_Sl (fun r => r = f_Mo_pawnGoals oS_men oS_side oS_passed square)) ([.ref o, .int square]).toArray s 0 0 (fun _ => False)) (F0 m 146 ls []) := by
                intro he_146 ls hl
                refine lv_lload_n hx hb dMo_pawnGoals_146 rfl (lv_at hl 1 rfl) ?_
                refine lv_iload hx hb dMo_pawnGoals_147 (lv_at hl 3 rfl) ?_
                refine ro_gol (va_runS (As := [.int v8_103]) (rest := [.long v3_103]) ⟨hx, hb, hml, hown, hB⟩ (c_Mo_bit l dC dI cI cJ cC ad v8_103) ⟨callB_of 1 hB (big_self q4_211) rfl rfl rfl (hB _ q1_15) (hB _ q4_209) (by decide +kernel) ⟨Nat.le_of_ble_eq_true rfl, Nat.le_of_ble_eq_true rfl⟩, (hB _ q4_210)⟩ (ro_preS (GS_ok ad) hK hP hG hS [] rfl) rfl rfl hl.1 rfl (lv_room (Nat.le_of_ble_eq_true rfl)) dMo_pawnGoals_149 ⟨Nat.le_of_ble_eq_true rfl, Nat.le_of_ble_eq_true rfl⟩) ?_
                refine lv_lor hx hb dMo_pawnGoals_152 ?_
                refine lv_lstore_n (lv' := [(3, .long (v3_103 ||| (f_Mo_bit v8_103))), (0, .ref o), (6, .long (f_Mo_attacked oS_men square)), (8, .int v8_103)]) hx hb dMo_pawnGoals_153 rfl hl (by decide) rfl (fun ls hl => ?_)
                refine lv_iinc (v := v8_103 + 1) (lv' := [(8, .int (v8_103 + 1)), (3, .long (v3_103 ||| (f_Mo_bit v8_103))), (0, .ref o), (6, .long (f_Mo_attacked oS_men square))]) hx hb dMo_pawnGoals_154 hl (k := 3) rfl rfl (by decide) rfl (fun ls hl => ?_)
                refine lv_goto (tgt := 103) hx hb dMo_pawnGoals_157 (by decide) ?_
                exact ih_103 (v3_103 ||| (f_Mo_bit v8_103)) (v8_103 + 1) (he_146.trans (by rw [f_Mo_pawnGoals_146_eq] <;> rfl)) (by have z1 := tnle c_1; have y64 : (64 : Int32).toInt = 64 := rfl; have zr := i_rng (64 : Int32); have zs := i_succ9 v8_103 (by omega); omega) ls (lv_sub hl [2, 1, 3, 0] rfl)
              refine lv_if_ne (tgt := 146) hx hb dMo_pawnGoals_134 (by decide) (fun c_3 => ?_) (fun c_3 => ?_)
              · exact J_146 (he_103.trans (by rw [f_Mo_pawnGoals_103_eq, if_neg c_1, if_pos c_2, if_neg c_3] <;> rfl)) ls (lv_sub hl [0, 1, 2, 3] rfl)
              · refine lv_iload hx hb dMo_pawnGoals_137 (lv_at hl 3 rfl) ?_
                refine lv_aload_n hx hb dMo_pawnGoals_139 rfl (lv_at hl 0 rfl) ?_
                refine va_get (D := (dC, dI)) (ci := 6) (v := .int oS_passed) (C := RMo) (T := TMo) (N := 24) hx hb hB inMo hown hK hP 0 rfl rfl 8 (by decide) (hB _ q5_19) (fun _ h9 => h9) rfl dMo_pawnGoals_140 ?_
                refine lv_icmp_ne (tgt := 154) hx hb dMo_pawnGoals_143 (by decide) (fun c_4 => ?_) (fun c_4 => ?_)
                · refine lv_iinc (v := v8_103 + 1) (lv' := [(8, .int (v8_103 + 1)), (0, .ref o), (3, .long v3_103), (6, .long (f_Mo_attacked oS_men square))]) hx hb dMo_pawnGoals_154 hl (k := 3) rfl rfl (by decide) rfl (fun ls hl => ?_)
                  refine lv_goto (tgt := 103) hx hb dMo_pawnGoals_157 (by decide) ?_
                  exact ih_103 v3_103 (v8_103 + 1) (he_103.trans (by rw [f_Mo_pawnGoals_103_eq, if_neg c_1, if_pos c_2, if_pos c_3, if_neg c_4] <;> rfl)) (by have z1 := tnle c_1; have z3 := teq c_3; have z4 := tne c_4; have y0 : (0 : Int32).toInt = 0 := rfl; have y1 : (1 : Int32).toInt = 1 := rfl; have y64 : (64 : Int32).toInt = 64 := rfl; have zr := i_rng (64 : Int32); have zs := i_succ9 v8_103 (by omega); omega) ls (lv_sub hl [1, 2, 3, 0] rfl)
                · exact J_146 (he_103.trans (by rw [f_Mo_pawnGoals_103_eq, if_neg c_1, if_pos c_2, if_pos c_3, if_pos c_4] <;> rfl)) ls (lv_sub hl [0, 1, 2, 3] rfl)
      exact J_103 (65) v3_93 0 (he_93.trans (by rw [f_Mo_pawnGoals_93_eq] <;> rfl)) (by decide) ls (lv_sub hl [2, 4, 1, 0] rfl)
    refine lv_if_lt (tgt := 93) hx hb dMo_pawnGoals_25 (by decide) (fun c_5 => ?_) (fun c_5 => ?_)
    · exact J_93 0 (he_12.trans (by rw [f_Mo_pawnGoals_12_eq, if_pos c_5] <;> rfl)) ls (lv_sub hl [3, 4, 1] rfl)
    · refine lv_aload_n hx hb dMo_pawnGoals_28 rfl (lv_at hl 3 rfl) ?_
      refine va_get (D := (dC, dI)) (ci := 6) (v := .ref o_men) (C := RMo) (T := TMo) (N := 24) hx hb hB inMo hown hK hP 0 rfl rfl 5 (by decide) (hB _ q5_16) (fun _ h9 => h9) rfl dMo_pawnGoals_29 ?_
      refine lv_iload hx hb dMo_pawnGoals_32 (lv_at hl 0 rfl) ?_
      refine va_iald hx hb hK hP 3 0 rfl rfl (vp_in_iff.mpr (step_ge c_5)) dMo_pawnGoals_34 ?_
      refine lv_if_ne (tgt := 93) hx hb dMo_pawnGoals_35 (by decide) (fun c_6 => ?_) (fun c_6 => ?_)
      · exact J_93 0 (he_12.trans (by rw [f_Mo_pawnGoals_12_eq, if_neg c_5, if_neg c_6] <;> rfl)) ls (lv_sub hl [3, 4, 1] rfl)
      · refine lv_lload_n hx hb dMo_pawnGoals_38 rfl (lv_at hl 1 rfl) ?_
        refine lv_iload hx hb dMo_pawnGoals_39 (lv_at hl 0 rfl) ?_
        refine ro_gol (va_runS (As := [.int (f_Mo_step square 0 k0_12)]) (rest := [.long 0]) ⟨hx, hb, hml, hown, hB⟩ (c_Mo_bit l dC dI cI cJ cC ad (f_Mo_step square 0 k0_12)) ⟨callB_of 1 hB (big_self q4_211) rfl rfl rfl (hB _ q1_15) (hB _ q4_209) (by decide +kernel) ⟨Nat.le_of_ble_eq_true rfl, Nat.le_of_ble_eq_true rfl⟩, (hB _ q4_210)⟩ (ro_preS (GS_ok ad) hK hP hG hS [] rfl) rfl rfl hl.1 rfl (lv_room (Nat.le_of_ble_eq_true rfl)) dMo_pawnGoals_41 ⟨Nat.le_of_ble_eq_true rfl, Nat.le_of_ble_eq_true rfl⟩) ?_
        refine lv_lor hx hb dMo_pawnGoals_44 ?_
        refine lv_lstore_n (lv' := [(3, .long (0 ||| (f_Mo_bit (f_Mo_step square 0 k0_12)))), (5, .int (f_Mo_step square 0 k0_12)), (2, .int k0_12), (0, .ref o), (1, .int square)]) hx hb dMo_pawnGoals_45 rfl hl (by decide) rfl (fun ls hl => ?_)
        refine lv_iload hx hb dMo_pawnGoals_46 (lv_at hl 1 rfl) ?_
        refine lv_iconst (v := 0) hx hb dMo_pawnGoals_48 (by decide) ?_
        refine lv_iload_n hx hb dMo_pawnGoals_49 rfl (lv_at hl 2 rfl) ?_
        refine ro_goi (va_runS (As := [.int (f_Mo_step square 0 k0_12), .int 0, .int k0_12]) (rest := []) ⟨hx, hb, hml, hown, hB⟩ (c_Mo_step l dC dI cI cJ cC ad (f_Mo_step square 0 k0_12) 0 k0_12) ⟨callB_of 3 hB (big_self q4_205) rfl rfl rfl (hB _ q1_15) (hB _ q4_203) (by decide +kernel) ⟨Nat.le_of_ble_eq_true rfl, Nat.le_of_ble_eq_true rfl⟩, (hB _ q4_204)⟩ (ro_preS (GS_ok ad) hK hP hG hS [] rfl) rfl rfl hl.1 rfl (lv_room (Nat.le_of_ble_eq_true rfl)) dMo_pawnGoals_50 ⟨Nat.le_of_ble_eq_true rfl, Nat.le_of_ble_eq_true rfl⟩) ?_
        refine lv_istore (lv' := [(6, .int (f_Mo_step (f_Mo_step square 0 k0_12) 0 k0_12)), (3, .long (0 ||| (f_Mo_bit (f_Mo_step square 0 k0_12)))), (5, .int (f_Mo_step square 0 k0_12)), (2, .int k0_12), (0, .ref o), (1, .int square)]) hx hb dMo_pawnGoals_53 hl (by decide) rfl (fun ls hl => ?_)
        refine lv_iload_n hx hb dMo_pawnGoals_55 rfl (lv_at hl 5 rfl) ?_
        refine lv_bipush (v := 8) hx hb dMo_pawnGoals_56 (by decide) ?_
        refine lv_idiv hx hb dMo_pawnGoals_58 (by decide) ?_
        refine lv_aload_n hx hb dMo_pawnGoals_59 rfl (lv_at hl 4 rfl) ?_
        refine va_get (D := (dC, dI)) (ci := 6) (v := .int oS_side) (C := RMo) (T := TMo) (N := 24) hx hb hB inMo hown hK hP 0 rfl rfl 6 (by decide) (hB _ q5_17) (fun _ h9 => h9) rfl dMo_pawnGoals_60 ?_
        have J_72 : ∀ (k0_72 : Int32), f_Mo_pawnGoals oS_men oS_side oS_passed square = f_Mo_pawnGoals_72 oS_men oS_side oS_passed square k0_12 k0_72 → ((oS_side = 0 ∧ k0_72 = 1) ∨ (¬ oS_side = 0 ∧ k0_72 = 6)) → ∀ ls : Array Slot, lv_has ls 9 [(0, .ref o), (1, .int square), (3, .long (0 ||| (f_Mo_bit (f_Mo_step square 0 k0_12)))), (6, .int (f_Mo_step (f_Mo_step square 0 k0_12) 0 k0_12))] → W p l e (headSpec wsMo_pawnGoals { frames := 4, cells := 0, slots := 0, locals := 99 }).room s m ([.ref o, .int square]).toArray below meth c s.heap [] 0 0 (MQ below (vp_Sl (fun r => r = f_Mo_pawnGoals oS_men oS_side oS_passed square)) ([.ref o, .int square]).toArray s 0 0 (fun _ => False)) (F0 m 72 ls [.int k0_72, .int (square / 8)]) := by
          intro k0_72 he_72 hi_72 ls hl
          refine lv_icmp_ne (tgt := 93) hx hb dMo_pawnGoals_72 (by decide) (fun c_7 => ?_) (fun c_7 => ?_)
          · exact J_93 (0 ||| (f_Mo_bit (f_Mo_step square 0 k0_12))) (he_72.trans (by rw [f_Mo_pawnGoals_72_eq, if_neg c_7] <;> rfl)) ls (lv_sub hl [0, 1, 2] rfl)
          · refine lv_aload_n hx hb dMo_pawnGoals_75 rfl (lv_at hl 0 rfl) ?_
            refine va_get (D := (dC, dI)) (ci := 6) (v := .ref o_men) (C := RMo) (T := TMo) (N := 24) hx hb hB inMo hown hK hP 0 rfl rfl 5 (by decide) (hB _ q5_16) (fun _ h9 => h9) rfl dMo_pawnGoals_76 ?_
            refine lv_iload hx hb dMo_pawnGoals_79 (lv_at hl 3 rfl) ?_
            refine va_iald hx hb hK hP 3 0 rfl rfl (pawn_two hq hi_12 hi_72 c_7) dMo_pawnGoals_81 ?_
            refine lv_if_ne (tgt := 93) hx hb dMo_pawnGoals_82 (by decide) (fun c_8 => ?_) (fun c_8 => ?_)
            · exact J_93 (0 ||| (f_Mo_bit (f_Mo_step square 0 k0_12))) (he_72.trans (by rw [f_Mo_pawnGoals_72_eq, if_pos c_7, if_neg c_8] <;> rfl)) ls (lv_sub hl [0, 1, 2] rfl)
            · refine lv_lload_n hx hb dMo_pawnGoals_85 rfl (lv_at hl 2 rfl) ?_
              refine lv_iload hx hb dMo_pawnGoals_86 (lv_at hl 3 rfl) ?_
              refine ro_gol (va_runS (As := [.int (f_Mo_step (f_Mo_step square 0 k0_12) 0 k0_12)]) (rest := [.long (0 ||| (f_Mo_bit (f_Mo_step square 0 k0_12)))]) ⟨hx, hb, hml, hown, hB⟩ (c_Mo_bit l dC dI cI cJ cC ad (f_Mo_step (f_Mo_step square 0 k0_12) 0 k0_12)) ⟨callB_of 1 hB (big_self q4_211) rfl rfl rfl (hB _ q1_15) (hB _ q4_209) (by decide +kernel) ⟨Nat.le_of_ble_eq_true rfl, Nat.le_of_ble_eq_true rfl⟩, (hB _ q4_210)⟩ (ro_preS (GS_ok ad) hK hP hG hS [] rfl) rfl rfl hl.1 rfl (lv_room (Nat.le_of_ble_eq_true rfl)) dMo_pawnGoals_88 ⟨Nat.le_of_ble_eq_true rfl, Nat.le_of_ble_eq_true rfl⟩) ?_
              refine lv_lor hx hb dMo_pawnGoals_91 ?_
              refine lv_lstore_n (lv' := [(3, .long ((0 ||| (f_Mo_bit (f_Mo_step square 0 k0_12))) ||| (f_Mo_bit (f_Mo_step (f_Mo_step square 0 k0_12) 0 k0_12)))), (0, .ref o), (1, .int square), (6, .int (f_Mo_step (f_Mo_step square 0 k0_12) 0 k0_12))]) hx hb dMo_pawnGoals_92 rfl hl (by decide) rfl (fun ls hl => ?_)
              exact J_93 ((0 ||| (f_Mo_bit (f_Mo_step square 0 k0_12))) ||| (f_Mo_bit (f_Mo_step (f_Mo_step square 0 k0_12) 0 k0_12))) (he_72.trans (by rw [f_Mo_pawnGoals_72_eq, if_pos c_7, if_pos c_8] <;> rfl)) ls (lv_sub hl [1, 2, 0] rfl)
        refine lv_if_ne (tgt := 70) hx hb dMo_pawnGoals_63 (by decide) (fun c_9 => ?_) (fun c_9 => ?_)
        · refine lv_bipush (v := 6) hx hb dMo_pawnGoals_70 (by decide) ?_
          exact J_72 6 (he_12.trans (by rw [f_Mo_pawnGoals_12_eq, if_neg c_5, if_pos c_6, if_neg c_9] <;> rfl)) (by first | exact Or.inl ⟨by assumption, rfl⟩ | exact Or.inr ⟨by assumption, rfl⟩) ls (lv_sub hl [4, 5, 1, 0] rfl)
        · refine lv_iconst (v := 1) hx hb dMo_pawnGoals_66 (by decide) ?_
          refine lv_goto (tgt := 72) hx hb dMo_pawnGoals_67 (by decide) ?_
          exact J_72 1 (he_12.trans (by rw [f_Mo_pawnGoals_12_eq, if_neg c_5, if_pos c_6, if_pos c_9] <;> rfl)) (by first | exact Or.inl ⟨by assumption, rfl⟩ | exact Or.inr ⟨by assumption, rfl⟩) ls (lv_sub hl [4, 5, 1, 0] rfl)
  refine lv_if_ne (tgt := 11) hx hb dMo_pawnGoals_4 (by decide) (fun c_10 => ?_) (fun c_10 => ?_)
  · refine lv_iconst (v := (-1)) hx hb dMo_pawnGoals_11 (by decide) ?_
    exact J_12 (-1) (by rw [f_Mo_pawnGoals_eq, if_neg c_10] <;> rfl) (by first | exact Or.inl ⟨by assumption, rfl⟩ | exact Or.inr ⟨by assumption, rfl⟩) ls (lv_sub hl [0, 1] rfl)
  · refine lv_iconst (v := 1) hx hb dMo_pawnGoals_7 (by decide) ?_
    refine lv_goto (tgt := 12) hx hb dMo_pawnGoals_8 (by decide) ?_
    exact J_12 1 (by rw [f_Mo_pawnGoals_eq, if_pos c_10] <;> rfl) (by first | exact Or.inl ⟨by assumption, rfl⟩ | exact Or.inr ⟨by assumption, rfl⟩) ls (lv_sub hl [0, 1] rfl)

abbrev cMo_goals : ByteArray := prog_11_method_16_code
def yMo_goals : MethodName := ⟨"ChessRulesModel", "goals", "(I)J"⟩
def wsMo_goals : List Cond := Cond.code yMo_goals cMo_goals 5 (some .long) :: BIG
theorem dMo_goals_0 : decode cMo_goals 0 = .ok (.aload_n 0, 1) := by decide +kernel
theorem dMo_goals_1 : decode cMo_goals 1 = .ok (.getfield 16, 3) := by decide +kernel
theorem dMo_goals_4 : decode cMo_goals 4 = .ok (.iload_n 1, 1) := by decide +kernel
theorem dMo_goals_5 : decode cMo_goals 5 = .ok (.iaload, 1) := by decide +kernel
theorem dMo_goals_6 : decode cMo_goals 6 = .ok (.invokestatic 85, 3) := by decide +kernel
theorem dMo_goals_9 : decode cMo_goals 9 = .ok (.iconst 1, 1) := by decide +kernel
theorem dMo_goals_10 : decode cMo_goals 10 = .ok (.if_icmp .ne 9, 3) := by decide +kernel
theorem dMo_goals_13 : decode cMo_goals 13 = .ok (.aload_n 0, 1) := by decide +kernel
theorem dMo_goals_14 : decode cMo_goals 14 = .ok (.iload_n 1, 1) := by decide +kernel
theorem dMo_goals_15 : decode cMo_goals 15 = .ok (.invokevirtual 116, 3) := by decide +kernel
theorem dMo_goals_18 : decode cMo_goals 18 = .ok (.lreturn, 1) := by decide +kernel
theorem dMo_goals_19 : decode cMo_goals 19 = .ok (.aload_n 0, 1) := by decide +kernel
theorem dMo_goals_20 : decode cMo_goals 20 = .ok (.iload_n 1, 1) := by decide +kernel
theorem dMo_goals_21 : decode cMo_goals 21 = .ok (.invokevirtual 96, 3) := by decide +kernel
theorem dMo_goals_24 : decode cMo_goals 24 = .ok (.lstore_n 2, 1) := by decide +kernel
theorem dMo_goals_25 : decode cMo_goals 25 = .ok (.iconst 0, 1) := by decide +kernel
theorem dMo_goals_26 : decode cMo_goals 26 = .ok (.istore 4, 2) := by decide +kernel
theorem dMo_goals_28 : decode cMo_goals 28 = .ok (.iload 4, 2) := by decide +kernel
theorem dMo_goals_30 : decode cMo_goals 30 = .ok (.bipush 64, 2) := by decide +kernel
theorem dMo_goals_32 : decode cMo_goals 32 = .ok (.if_icmp .ge 34, 3) := by decide +kernel
theorem dMo_goals_35 : decode cMo_goals 35 = .ok (.aload_n 0, 1) := by decide +kernel
theorem dMo_goals_36 : decode cMo_goals 36 = .ok (.iload 4, 2) := by decide +kernel
theorem dMo_goals_38 : decode cMo_goals 38 = .ok (.aload_n 0, 1) := by decide +kernel
theorem dMo_goals_39 : decode cMo_goals 39 = .ok (.getfield 106, 3) := by decide +kernel
theorem dMo_goals_42 : decode cMo_goals 42 = .ok (.invokevirtual 93, 3) := by decide +kernel
theorem dMo_goals_45 : decode cMo_goals 45 = .ok (.ifCond .eq 15, 3) := by decide +kernel
theorem dMo_goals_48 : decode cMo_goals 48 = .ok (.lload_n 2, 1) := by decide +kernel
theorem dMo_goals_49 : decode cMo_goals 49 = .ok (.iload 4, 2) := by decide +kernel
theorem dMo_goals_51 : decode cMo_goals 51 = .ok (.invokestatic 81, 3) := by decide +kernel
theorem dMo_goals_54 : decode cMo_goals 54 = .ok (.ldc2_w 119, 3) := by decide +kernel
theorem dMo_goals_57 : decode cMo_goals 57 = .ok (.lxor, 1) := by decide +kernel
theorem dMo_goals_58 : decode cMo_goals 58 = .ok (.land, 1) := by decide +kernel
theorem dMo_goals_59 : decode cMo_goals 59 = .ok (.lstore_n 2, 1) := by decide +kernel
theorem dMo_goals_60 : decode cMo_goals 60 = .ok (.iinc 4 1, 3) := by decide +kernel
theorem dMo_goals_63 : decode cMo_goals 63 = .ok (.goto (-35), 3) := by decide +kernel
theorem dMo_goals_66 : decode cMo_goals 66 = .ok (.aload_n 0, 1) := by decide +kernel
theorem dMo_goals_67 : decode cMo_goals 67 = .ok (.getfield 16, 3) := by decide +kernel
theorem dMo_goals_70 : decode cMo_goals 70 = .ok (.iload_n 1, 1) := by decide +kernel
theorem dMo_goals_71 : decode cMo_goals 71 = .ok (.iaload, 1) := by decide +kernel
theorem dMo_goals_72 : decode cMo_goals 72 = .ok (.invokestatic 85, 3) := by decide +kernel
theorem dMo_goals_75 : decode cMo_goals 75 = .ok (.bipush 6, 2) := by decide +kernel
theorem dMo_goals_77 : decode cMo_goals 77 = .ok (.if_icmp .ne 56, 3) := by decide +kernel
theorem dMo_goals_80 : decode cMo_goals 80 = .ok (.iload_n 1, 1) := by decide +kernel
theorem dMo_goals_81 : decode cMo_goals 81 = .ok (.bipush 56, 2) := by decide +kernel
theorem dMo_goals_83 : decode cMo_goals 83 = .ok (.aload_n 0, 1) := by decide +kernel
theorem dMo_goals_84 : decode cMo_goals 84 = .ok (.getfield 106, 3) := by decide +kernel
theorem dMo_goals_87 : decode cMo_goals 87 = .ok (.imul, 1) := by decide +kernel
theorem dMo_goals_88 : decode cMo_goals 88 = .ok (.iconst 4, 1) := by decide +kernel
theorem dMo_goals_89 : decode cMo_goals 89 = .ok (.iadd, 1) := by decide +kernel
theorem dMo_goals_90 : decode cMo_goals 90 = .ok (.if_icmp .ne 43, 3) := by decide +kernel
theorem dMo_goals_93 : decode cMo_goals 93 = .ok (.lload_n 2, 1) := by decide +kernel
theorem dMo_goals_94 : decode cMo_goals 94 = .ok (.aload_n 0, 1) := by decide +kernel
theorem dMo_goals_95 : decode cMo_goals 95 = .ok (.iconst 1, 1) := by decide +kernel
theorem dMo_goals_96 : decode cMo_goals 96 = .ok (.invokevirtual 121, 3) := by decide +kernel
theorem dMo_goals_99 : decode cMo_goals 99 = .ok (.ifCond .eq 12, 3) := by decide +kernel
theorem dMo_goals_102 : decode cMo_goals 102 = .ok (.iload_n 1, 1) := by decide +kernel
theorem dMo_goals_103 : decode cMo_goals 103 = .ok (.iconst 2, 1) := by decide +kernel
theorem dMo_goals_104 : decode cMo_goals 104 = .ok (.iadd, 1) := by decide +kernel
theorem dMo_goals_105 : decode cMo_goals 105 = .ok (.invokestatic 81, 3) := by decide +kernel
theorem dMo_goals_108 : decode cMo_goals 108 = .ok (.goto 4, 3) := by decide +kernel
theorem dMo_goals_111 : decode cMo_goals 111 = .ok (.lconst 0, 1) := by decide +kernel
theorem dMo_goals_112 : decode cMo_goals 112 = .ok (.lor, 1) := by decide +kernel
theorem dMo_goals_113 : decode cMo_goals 113 = .ok (.aload_n 0, 1) := by decide +kernel
theorem dMo_goals_114 : decode cMo_goals 114 = .ok (.iconst 0, 1) := by decide +kernel
theorem dMo_goals_115 : decode cMo_goals 115 = .ok (.invokevirtual 121, 3) := by decide +kernel
theorem dMo_goals_118 : decode cMo_goals 118 = .ok (.ifCond .eq 12, 3) := by decide +kernel
theorem dMo_goals_121 : decode cMo_goals 121 = .ok (.iload_n 1, 1) := by decide +kernel
theorem dMo_goals_122 : decode cMo_goals 122 = .ok (.iconst 2, 1) := by decide +kernel
theorem dMo_goals_123 : decode cMo_goals 123 = .ok (.isub, 1) := by decide +kernel
theorem dMo_goals_124 : decode cMo_goals 124 = .ok (.invokestatic 81, 3) := by decide +kernel
theorem dMo_goals_127 : decode cMo_goals 127 = .ok (.goto 4, 3) := by decide +kernel
theorem dMo_goals_130 : decode cMo_goals 130 = .ok (.lconst 0, 1) := by decide +kernel
theorem dMo_goals_131 : decode cMo_goals 131 = .ok (.lor, 1) := by decide +kernel
theorem dMo_goals_132 : decode cMo_goals 132 = .ok (.lstore_n 2, 1) := by decide +kernel
theorem dMo_goals_133 : decode cMo_goals 133 = .ok (.lload_n 2, 1) := by decide +kernel
theorem dMo_goals_134 : decode cMo_goals 134 = .ok (.lreturn, 1) := by decide +kernel

def f_Mo_goals_112 (oS_men : Nat → Int32) (oS_side : Int32) (oS_rights : Int32) (oS_passed : Int32) (square : Int32) (v2_28 : Int64) (v4_28 : Int32) (k0_112 : Int64) : Int64 :=
  (if (f_Mo_mayCastle oS_men oS_side oS_rights 0) = 0 then (v2_28 ||| k0_112) ||| 0 else (v2_28 ||| k0_112) ||| (f_Mo_bit (square - 2)))
theorem f_Mo_goals_112_eq (oS_men : Nat → Int32) (oS_side : Int32) (oS_rights : Int32) (oS_passed : Int32) (square : Int32) (v2_28 : Int64) (v4_28 : Int32) (k0_112 : Int64) : f_Mo_goals_112 oS_men oS_side oS_rights oS_passed square v2_28 v4_28 k0_112 =
  (if (f_Mo_mayCastle oS_men oS_side oS_rights 0) = 0 then (v2_28 ||| k0_112) ||| 0 else (v2_28 ||| k0_112) ||| (f_Mo_bit (square - 2))) := rfl

def f_Mo_goals_28 (oS_men : Nat → Int32) (oS_side : Int32) (oS_rights : Int32) (oS_passed : Int32) (square : Int32) : Nat → Int64 → Int32 → Int64
  | 0 => fun _ _ => 0
  | n_28 + 1 => fun v2_28 v4_28 => (if 64 ≤ v4_28 then (if (f_Mo_kind (oS_men square.toNatClampNeg)) = 6 then (if square = ((56 * oS_side) + 4) then (if (f_Mo_mayCastle oS_men oS_side oS_rights 1) = 0 then f_Mo_goals_112 oS_men oS_side oS_rights oS_passed square v2_28 v4_28 0 else f_Mo_goals_112 oS_men oS_side oS_rights oS_passed square v2_28 v4_28 (f_Mo_bit (square + 2))) else v2_28) else v2_28) else (if (f_Mo_isOf oS_men v4_28 oS_side) = 0 then (f_Mo_goals_28 oS_men oS_side oS_rights oS_passed square n_28) v2_28 (v4_28 + 1) else (f_Mo_goals_28 oS_men oS_side oS_rights oS_passed square n_28) (v2_28 &&& ((f_Mo_bit v4_28) ^^^ (-1))) (v4_28 + 1)))
theorem f_Mo_goals_28_eq (oS_men : Nat → Int32) (oS_side : Int32) (oS_rights : Int32) (oS_passed : Int32) (square : Int32) (n_28 : Nat) (v2_28 : Int64) (v4_28 : Int32) : f_Mo_goals_28 oS_men oS_side oS_rights oS_passed square (n_28 + 1) v2_28 v4_28 =
  (if 64 ≤ v4_28 then (if (f_Mo_kind (oS_men square.toNatClampNeg)) = 6 then (if square = ((56 * oS_side) + 4) then (if (f_Mo_mayCastle oS_men oS_side oS_rights 1) = 0 then f_Mo_goals_112 oS_men oS_side oS_rights oS_passed square v2_28 v4_28 0 else f_Mo_goals_112 oS_men oS_side oS_rights oS_passed square v2_28 v4_28 (f_Mo_bit (square + 2))) else v2_28) else v2_28) else (if (f_Mo_isOf oS_men v4_28 oS_side) = 0 then (f_Mo_goals_28 oS_men oS_side oS_rights oS_passed square n_28) v2_28 (v4_28 + 1) else (f_Mo_goals_28 oS_men oS_side oS_rights oS_passed square n_28) (v2_28 &&& ((f_Mo_bit v4_28) ^^^ (-1))) (v4_28 + 1))) := rfl

def f_Mo_goals (oS_men : Nat → Int32) (oS_side : Int32) (oS_rights : Int32) (oS_passed : Int32) (square : Int32) : Int64 :=
  (if (f_Mo_kind (oS_men square.toNatClampNeg)) = 1 then f_Mo_pawnGoals oS_men oS_side oS_passed square else f_Mo_goals_28 oS_men oS_side oS_rights oS_passed square (65) (f_Mo_attacked oS_men square) 0)
theorem f_Mo_goals_eq (oS_men : Nat → Int32) (oS_side : Int32) (oS_rights : Int32) (oS_passed : Int32) (square : Int32) : f_Mo_goals oS_men oS_side oS_rights oS_passed square =
  (if (f_Mo_kind (oS_men square.toNatClampNeg)) = 1 then f_Mo_pawnGoals oS_men oS_side oS_passed square else f_Mo_goals_28 oS_men oS_side oS_rights oS_passed square (65) (f_Mo_attacked oS_men square) 0) := rfl

set_option maxHeartbeats 4000000 in
set_option maxRecDepth 100000 in
theorem c_Mo_goals (l : Launch) (dC : Nat → ClassId) (dI : Nat → Nat → Nat) (cI cJ cC : ClassId) (ad : Nat → Nat) (o o_text o_out o_men o_pastMen o_pastSide o_pastRights o_pastPassed o_pastClock o_pastNumber o_pastTakes o_playedMoves o_keptMen o_keptRest o_lists o_counts : Nat) (oS_thrown : Int32) (oS_typed : Int32) (oS_text : Nat → Int32) (oS_told : Int32) (oS_out : Nat → Int32) (oS_men : Nat → Int32) (oS_side : Int32) (oS_rights : Int32) (oS_passed : Int32) (oS_clock : Int32) (oS_number : Int32) (oS_plies : Int32) (oS_pastMen : Nat → Int32) (oS_pastSide : Nat → Int32) (oS_pastRights : Nat → Int32) (oS_pastPassed : Nat → Int32) (oS_pastClock : Nat → Int32) (oS_pastNumber : Nat → Int32) (oS_pastTakes : Nat → Int64) (oS_playedMoves : Nat → Int32) (oS_keptMen : Nat → Int32) (oS_keptRest : Nat → Int32) (oS_lists : Nat → Int32) (oS_counts : Nat → Int32) (square : Int32) (hq : 0 ≤ square.toInt ∧ square.toInt < 64) (hs : oS_side = 0 ∨ oS_side = 1) : Met l yMo_goals wsMo_goals { frames := 7, cells := 0, slots := 0, locals := 169 } (roP dC dI (TYS cI cJ cC) [.ref o, .int square] [(o, .inr (6, [.int oS_thrown, .int oS_typed, .ref o_text, .int oS_told, .ref o_out, .ref o_men, .int oS_side, .int oS_rights, .int oS_passed, .int oS_clock, .int oS_number, .int oS_plies, .ref o_pastMen, .ref o_pastSide, .ref o_pastRights, .ref o_pastPassed, .ref o_pastClock, .ref o_pastNumber, .ref o_pastTakes, .ref o_playedMoves, .ref o_keptMen, .ref o_keptRest, .ref o_lists, .ref o_counts])), (o_text, .inl (cC, 100, .inl oS_text)), (o_out, .inl (cC, 100, .inl oS_out)), (o_men, .inl (cI, 64, .inl oS_men)), (o_pastMen, .inl (cI, 25664, .inl oS_pastMen)), (o_pastSide, .inl (cI, 401, .inl oS_pastSide)), (o_pastRights, .inl (cI, 401, .inl oS_pastRights)), (o_pastPassed, .inl (cI, 401, .inl oS_pastPassed)), (o_pastClock, .inl (cI, 401, .inl oS_pastClock)), (o_pastNumber, .inl (cI, 401, .inl oS_pastNumber)), (o_pastTakes, .inl (cJ, 401, .inr (.inl oS_pastTakes))), (o_playedMoves, .inl (cI, 400, .inl oS_playedMoves)), (o_keptMen, .inl (cI, 384, .inl oS_keptMen)), (o_keptRest, .inl (cI, 30, .inl oS_keptRest)), (o_lists, .inl (cI, 8192, .inl oS_lists)), (o_counts, .inl (cI, 4, .inl oS_counts))] (GS ad)) (vp_Sl (fun r => r = f_Mo_goals oS_men oS_side oS_rights oS_passed square)) 0 0 (fun _ => False) := by
  refine Met.ofW (cc := cMo_goals) (maxL := 5) (ret := (some .long)) (by decide) rfl ?_
  intro p e s m args below meth c s₁ B hml hv
  obtain ⟨rfl, hP, hK, hG⟩ := hv
  have hx := B.exec
  have hb := B.bytes
  have hr := B.returns
  have hB : ∀ w9 ∈ BIG, w9.before ([.ref o, .int square]).toArray s = true := fun w9 h => atoms_spec (ws := wsMo_goals) B.pre w9 (List.mem_cons_of_mem _ h)
  have hown : s.vm.findClass "ChessRulesModel" = some m.cls := findClass_of_methodNamed B.named
  have hlocks := B.notSynchronized
  have hS : va_S (fun _ => False) s.heap s.heap [] := va_S.rf
  have hP : va_P (dC, dI) vwCl [(o, .inr (6, [.int oS_thrown, .int oS_typed, .ref o_text, .int oS_told, .ref o_out, .ref o_men, .int oS_side, .int oS_rights, .int oS_passed, .int oS_clock, .int oS_number, .int oS_plies, .ref o_pastMen, .ref o_pastSide, .ref o_pastRights, .ref o_pastPassed, .ref o_pastClock, .ref o_pastNumber, .ref o_pastTakes, .ref o_playedMoves, .ref o_keptMen, .ref o_keptRest, .ref o_lists, .ref o_counts])), (o_text, .inl (cC, 100, .inl oS_text)), (o_out, .inl (cC, 100, .inl oS_out)), (o_men, .inl (cI, 64, .inl oS_men)), (o_pastMen, .inl (cI, 25664, .inl oS_pastMen)), (o_pastSide, .inl (cI, 401, .inl oS_pastSide)), (o_pastRights, .inl (cI, 401, .inl oS_pastRights)), (o_pastPassed, .inl (cI, 401, .inl oS_pastPassed)), (o_pastClock, .inl (cI, 401, .inl oS_pastClock)), (o_pastNumber, .inl (cI, 401, .inl oS_pastNumber)), (o_pastTakes, .inl (cJ, 401, .inr (.inl oS_pastTakes))), (o_playedMoves, .inl (cI, 400, .inl oS_playedMoves)), (o_keptMen, .inl (cI, 384, .inl oS_keptMen)), (o_keptRest, .inl (cI, 30, .inl oS_keptRest)), (o_lists, .inl (cI, 8192, .inl oS_lists)), (o_counts, .inl (cI, 4, .inl oS_counts))] s.heap := hP
  have hl := lv_entry ([.ref o, .int square]) (n := 5) (Nat.le_of_ble_eq_true rfl)
  rw [lg_entry_eq]
  generalize (lg_sl ([.ref o, .int square]) ++ List.replicate (5 - (lg_sl ([.ref o, .int square])).length) Slot.unset).toArray = ls at hl ⊢
  have hl : lv_has ls 5 [(0, .ref o), (1, .int square)] := hl
  refine lv_aload_n hx hb dMo_goals_0 rfl (lv_at hl 0 rfl) ?_
  refine va_get (D := (dC, dI)) (ci := 6) (v := .ref o_men) (C := RMo) (T := TMo) (N := 24) hx hb hB inMo hown hK hP 0 rfl rfl 5 (by decide) (hB _ q5_16) (fun _ h9 => h9) rfl dMo_goals_1 ?_
  refine lv_iload_n hx hb dMo_goals_4 rfl (lv_at hl 1 rfl) ?_
  refine va_iald hx hb hK hP 3 0 rfl rfl (vp_in_iff.mpr hq) dMo_goals_5 ?_
  refine ro_goi (va_runS (As := [.int (oS_men square.toNatClampNeg)]) (rest := []) ⟨hx, hb, hml, hown, hB⟩ (c_Mo_kind l dC dI cI cJ cC ad (oS_men square.toNatClampNeg)) ⟨callB_of 1 hB (big_self q4_202) rfl rfl rfl (hB _ q1_15) (hB _ q4_200) (by decide +kernel) ⟨Nat.le_of_ble_eq_true rfl, Nat.le_of_ble_eq_true rfl⟩, (hB _ q4_201)⟩ (ro_preS (GS_ok ad) hK hP hG hS [] rfl) rfl rfl hl.1 rfl (lv_room (Nat.le_of_ble_eq_true rfl)) dMo_goals_6 ⟨Nat.le_of_ble_eq_true rfl, Nat.le_of_ble_eq_true rfl⟩) ?_
  refine lv_iconst (v := 1) hx hb dMo_goals_9 (by decide) ?_
  refine lv_icmp_ne (tgt := 19) hx hb dMo_goals_10 (by decide) (fun c_1 => ?_) (fun c_1 => ?_)
  · refine lv_aload_n hx hb dMo_goals_19 rfl (lv_at hl 0 rfl) ?_
    refine lv_iload_n hx hb dMo_goals_20 rfl (lv_at hl 1 rfl) ?_
    refine ro_gol (va_runV (C := "ChessRulesModel") (As := [.int square]) (rest := []) ⟨hx, hb, hml, hown, hB⟩ (c_Mo_attacked l dC dI cI cJ cC ad o o_text o_out o_men o_pastMen o_pastSide o_pastRights o_pastPassed o_pastClock o_pastNumber o_pastTakes o_playedMoves o_keptMen o_keptRest o_lists o_counts oS_thrown oS_typed oS_text oS_told oS_out oS_men oS_side oS_rights oS_passed oS_clock oS_number oS_plies oS_pastMen oS_pastSide oS_pastRights oS_pastPassed oS_pastClock oS_pastNumber oS_pastTakes oS_playedMoves oS_keptMen oS_keptRest oS_lists oS_counts square hq) ⟨callB_of 1 hB (big_self q4_199) rfl rfl rfl (hB _ q1_15) (hB _ q4_196) (by decide +kernel) ⟨Nat.le_of_ble_eq_true rfl, Nat.le_of_ble_eq_true rfl⟩, (hB _ q4_198), (hB _ qs5_1)⟩ (ro_preV (GS_ok ad) hK hP hG hS [0, 1, 2, 3, 4, 5, 6, 7, 8, 9, 10, 11, 12, 13, 14, 15] rfl (va_recv hK hP (ci := 6) (q0 := 0) rfl rfl)) rfl rfl hl.1 rfl (lv_room (Nat.le_of_ble_eq_true rfl)) dMo_goals_21 ⟨Nat.le_of_ble_eq_true rfl, Nat.le_of_ble_eq_true rfl⟩) ?_
    refine lv_lstore_n (lv' := [(2, .long (f_Mo_attacked oS_men square)), (0, .ref o), (1, .int square)]) hx hb dMo_goals_24 rfl hl (by decide) rfl (fun ls hl => ?_)
    refine lv_iconst (v := 0) hx hb dMo_goals_25 (by decide) ?_
    refine lv_istore (lv' := [(4, .int 0), (2, .long (f_Mo_attacked oS_men square)), (0, .ref o), (1, .int square)]) hx hb dMo_goals_26 hl (by decide) rfl (fun ls hl => ?_)
    have J_28 : ∀ (n_28 : Nat) (v2_28 : Int64) (v4_28 : Int32), f_Mo_goals oS_men oS_side oS_rights oS_passed square = f_Mo_goals_28 oS_men oS_side oS_rights oS_passed square n_28 v2_28 v4_28 → ((0 : Int) ≤ v4_28.toInt ∧ (64 : Int32).toInt - v4_28.toInt + 1 ≤ (n_28 : Int) ∧ (1 : Int) ≤ (n_28 : Int)) → ∀ ls : Array Slot, lv_has ls 5 [(0, .ref o), (1, .int square), (2, .long v2_28), (4, .int v4_28)] → W p l e (headSpec wsMo_goals { frames := 7, cells := 0, slots := 0, locals := 169 }).room s m ([.ref o, .int square]).toArray below meth c s.heap [] 0 0 (MQ below (vp_Sl (fun r => r = f_Mo_goals oS_men oS_side oS_rights oS_passed square)) ([.ref o, .int square]).toArray s 0 0 (fun _ => False)) (F0 m 28 ls []) := by
      intro n_28
      induction n_28 with
      | zero => intro v2_28 v4_28 _ hm_28; exact absurd hm_28 (by omega)
      | succ n_28 ih_28 =>
        intro v2_28 v4_28 he_28 hm_28 ls hl
        refine lv_iload hx hb dMo_goals_28 (lv_at hl 3 rfl) ?_
        refine lv_bipush (v := 64) hx hb dMo_goals_30 (by decide) ?_
        refine lv_icmp_ge (tgt := 66) hx hb dMo_goals_32 (by decide) (fun c_2 => ?_) (fun c_2 => ?_)
        · refine lv_aload_n hx hb dMo_goals_66 rfl (lv_at hl 0 rfl) ?_
          refine va_get (D := (dC, dI)) (ci := 6) (v := .ref o_men) (C := RMo) (T := TMo) (N := 24) hx hb hB inMo hown hK hP 0 rfl rfl 5 (by decide) (hB _ q5_16) (fun _ h9 => h9) rfl dMo_goals_67 ?_
          refine lv_iload_n hx hb dMo_goals_70 rfl (lv_at hl 1 rfl) ?_
          refine va_iald hx hb hK hP 3 0 rfl rfl (vp_in_iff.mpr hq) dMo_goals_71 ?_
          refine ro_goi (va_runS (As := [.int (oS_men square.toNatClampNeg)]) (rest := []) ⟨hx, hb, hml, hown, hB⟩ (c_Mo_kind l dC dI cI cJ cC ad (oS_men square.toNatClampNeg)) ⟨callB_of 1 hB (big_self q4_202) rfl rfl rfl (hB _ q1_15) (hB _ q4_200) (by decide +kernel) ⟨Nat.le_of_ble_eq_true rfl, Nat.le_of_ble_eq_true rfl⟩, (hB _ q4_201)⟩ (ro_preS (GS_ok ad) hK hP hG hS [] rfl) rfl rfl hl.1 rfl (lv_room (Nat.le_of_ble_eq_true rfl)) dMo_goals_72 ⟨Nat.le_of_ble_eq_true rfl, Nat.le_of_ble_eq_true rfl⟩) ?_
          refine lv_bipush (v := 6) hx hb dMo_goals_75 (by decide) ?_
          refine lv_icmp_ne (tgt := 133) hx hb dMo_goals_77 (by decide) (fun c_3 => ?_) (fun c_3 => ?_)
          · refine lv_lload_n hx hb dMo_goals_133 rfl (lv_at hl 2 rfl) ?_
            exact ro_retl hx hb hr hlocks dMo_goals_134 (Eq.symm (he_28.trans (by rw [f_Mo_goals_28_eq, if_pos c_2, if_neg c_3] <;> rfl)))
          · refine lv_iload_n hx hb dMo_goals_80 rfl (lv_at hl 1 rfl) ?_
            refine lv_bipush (v := 56) hx hb dMo_goals_81 (by decide) ?_
            refine lv_aload_n hx hb dMo_goals_83 rfl (lv_at hl 0 rfl) ?_
            refine va_get (D := (dC, dI)) (ci := 6) (v := .int oS_side) (C := RMo) (T := TMo) (N := 24) hx hb hB inMo hown hK hP 0 rfl rfl 6 (by decide) (hB _ q5_17) (fun _ h9 => h9) rfl dMo_goals_84 ?_
            refine lv_imul hx hb dMo_goals_87 ?_
            refine lv_iconst (v := 4) hx hb dMo_goals_88 (by decide) ?_
            refine lv_iadd hx hb dMo_goals_89 ?_
            refine lv_icmp_ne (tgt := 133) hx hb dMo_goals_90 (by decide) (fun c_4 => ?_) (fun c_4 => ?_)
            · refine lv_lload_n hx hb dMo_goals_133 rfl (lv_at hl 2 rfl) ?_
              exact ro_retl hx hb hr hlocks dMo_goals_134 (Eq.symm (he_28.trans (by rw [f_Mo_goals_28_eq, if_pos c_2, if_pos c_3, if_neg c_4] <;> rfl)))
            · refine lv_lload_n hx hb dMo_goals_93 rfl (lv_at hl 2 rfl) ?_
              refine lv_aload_n hx hb dMo_goals_94 rfl (lv_at hl 0 rfl) ?_
              refine lv_iconst (v := 1) hx hb dMo_goals_95 (by decide) ?_
              refine ro_goi (va_runV (C := "ChessRulesModel") (As := [.int 1]) (rest := [.long v2_28]) ⟨hx, hb, hml, hown, hB⟩ (c_Mo_mayCastle l dC dI cI cJ cC ad o o_text o_out o_men o_pastMen o_pastSide o_pastRights o_pastPassed o_pastClock o_pastNumber o_pastTakes o_playedMoves o_keptMen o_keptRest o_lists o_counts oS_thrown oS_typed oS_text oS_told oS_out oS_men oS_side oS_rights oS_passed oS_clock oS_number oS_plies oS_pastMen oS_pastSide oS_pastRights oS_pastPassed oS_pastClock oS_pastNumber oS_pastTakes oS_playedMoves oS_keptMen oS_keptRest oS_lists oS_counts 1 hs) ⟨callB_of 1 hB (big_self q5_108) rfl rfl rfl (hB _ q1_15) (hB _ q5_105) (by decide +kernel) ⟨Nat.le_of_ble_eq_true rfl, Nat.le_of_ble_eq_true rfl⟩, (hB _ q5_107), (hB _ qs5_14)⟩ (ro_preV (GS_ok ad) hK hP hG hS [0, 1, 2, 3, 4, 5, 6, 7, 8, 9, 10, 11, 12, 13, 14, 15] rfl (va_recv hK hP (ci := 6) (q0 := 0) rfl rfl)) rfl rfl hl.1 rfl (lv_room (Nat.le_of_ble_eq_true rfl)) dMo_goals_96 ⟨Nat.le_of_ble_eq_true rfl, Nat.le_of_ble_eq_true rfl⟩) ?_
              have J_112 : ∀ (k0_112 : Int64), f_Mo_goals oS_men oS_side oS_rights oS_passed square = f_Mo_goals_112 oS_men oS_side oS_rights oS_passed square v2_28 v4_28 k0_112 → ∀ ls : Array Slot, lv_has ls 5 [(0, .ref o), (1, .int square)] → W p l e (headSpec wsMo_goals { frames := 7, cells := 0, slots := 0, locals := 169 }).room s m ([.ref o, .int square]).toArray below meth c s.heap [] 0 0 (MQ below (vp_Sl (fun r => r = f_Mo_goals oS_men oS_side oS_rights oS_passed square)) ([.ref o, .int square]).toArray s 0 0 (fun _ => False)) (F0 m 112 ls [.long k0_112, .long v2_28]) := by
                intro k0_112 he_112 ls hl
                refine lv_lor hx hb dMo_goals_112 ?_
                refine lv_aload_n hx hb dMo_goals_113 rfl (lv_at hl 0 rfl) ?_
                refine lv_iconst (v := 0) hx hb dMo_goals_114 (by decide) ?_
                refine ro_goi (va_runV (C := "ChessRulesModel") (As := [.int 0]) (rest := [.long (v2_28 ||| k0_112)]) ⟨hx, hb, hml, hown, hB⟩ (c_Mo_mayCastle l dC dI cI cJ cC ad o o_text o_out o_men o_pastMen o_pastSide o_pastRights o_pastPassed o_pastClock o_pastNumber o_pastTakes o_playedMoves o_keptMen o_keptRest o_lists o_counts oS_thrown oS_typed oS_text oS_told oS_out oS_men oS_side oS_rights oS_passed oS_clock oS_number oS_plies oS_pastMen oS_pastSide oS_pastRights oS_pastPassed oS_pastClock oS_pastNumber oS_pastTakes oS_playedMoves oS_keptMen oS_keptRest oS_lists oS_counts 0 hs) ⟨callB_of 1 hB (big_self q5_108) rfl rfl rfl (hB _ q1_15) (hB _ q5_105) (by decide +kernel) ⟨Nat.le_of_ble_eq_true rfl, Nat.le_of_ble_eq_true rfl⟩, (hB _ q5_107), (hB _ qs5_14)⟩ (ro_preV (GS_ok ad) hK hP hG hS [0, 1, 2, 3, 4, 5, 6, 7, 8, 9, 10, 11, 12, 13, 14, 15] rfl (va_recv hK hP (ci := 6) (q0 := 0) rfl rfl)) rfl rfl hl.1 rfl (lv_room (Nat.le_of_ble_eq_true rfl)) dMo_goals_115 ⟨Nat.le_of_ble_eq_true rfl, Nat.le_of_ble_eq_true rfl⟩) ?_
                refine lv_if_eq (tgt := 130) hx hb dMo_goals_118 (by decide) (fun c_5 => ?_) (fun c_5 => ?_)
                · refine lv_lconst (v := 0) hx hb dMo_goals_130 (by decide) ?_
                  refine lv_lor hx hb dMo_goals_131 ?_
                  refine lv_lstore_n (lv' := [(2, .long ((v2_28 ||| k0_112) ||| 0)), (0, .ref o), (1, .int square)]) hx hb dMo_goals_132 rfl hl (by decide) rfl (fun ls hl => ?_)
                  refine lv_lload_n hx hb dMo_goals_133 rfl (lv_at hl 0 rfl) ?_
                  exact ro_retl hx hb hr hlocks dMo_goals_134 (Eq.symm (he_112.trans (by rw [f_Mo_goals_112_eq, if_pos c_5] <;> rfl)))
                · refine lv_iload_n hx hb dMo_goals_121 rfl (lv_at hl 1 rfl) ?_
                  refine lv_iconst (v := 2) hx hb dMo_goals_122 (by decide) ?_
                  refine lv_isub hx hb dMo_goals_123 ?_
                  refine ro_gol (va_runS (As := [.int (square - 2)]) (rest := [.long (v2_28 ||| k0_112)]) ⟨hx, hb, hml, hown, hB⟩ (c_Mo_bit l dC dI cI cJ cC ad (square - 2)) ⟨callB_of 1 hB (big_self q4_211) rfl rfl rfl (hB _ q1_15) (hB _ q4_209) (by decide +kernel) ⟨Nat.le_of_ble_eq_true rfl, Nat.le_of_ble_eq_true rfl⟩, (hB _ q4_210)⟩ (ro_preS (GS_ok ad) hK hP hG hS [] rfl) rfl rfl hl.1 rfl (lv_room (Nat.le_of_ble_eq_true rfl)) dMo_goals_124 ⟨Nat.le_of_ble_eq_true rfl, Nat.le_of_ble_eq_true rfl⟩) ?_
                  refine lv_goto (tgt := 131) hx hb dMo_goals_127 (by decide) ?_
                  refine lv_lor hx hb dMo_goals_131 ?_
                  refine lv_lstore_n (lv' := [(2, .long ((v2_28 ||| k0_112) ||| (f_Mo_bit (square - 2)))), (0, .ref o), (1, .int square)]) hx hb dMo_goals_132 rfl hl (by decide) rfl (fun ls hl => ?_)
                  refine lv_lload_n hx hb dMo_goals_133 rfl (lv_at hl 0 rfl) ?_
                  exact ro_retl hx hb hr hlocks dMo_goals_134 (Eq.symm (he_112.trans (by rw [f_Mo_goals_112_eq, if_neg c_5] <;> rfl)))
              refine lv_if_eq (tgt := 111) hx hb dMo_goals_99 (by decide) (fun c_6 => ?_) (fun c_6 => ?_)
              · refine lv_lconst (v := 0) hx hb dMo_goals_111 (by decide) ?_
                exact J_112 0 (he_28.trans (by rw [f_Mo_goals_28_eq, if_pos c_2, if_pos c_3, if_pos c_4, if_pos c_6] <;> rfl)) ls (lv_sub hl [0, 1] rfl)
              · refine lv_iload_n hx hb dMo_goals_102 rfl (lv_at hl 1 rfl) ?_
                refine lv_iconst (v := 2) hx hb dMo_goals_103 (by decide) ?_
                refine lv_iadd hx hb dMo_goals_104 ?_
                refine ro_gol (va_runS (As := [.int (square + 2)]) (rest := [.long v2_28]) ⟨hx, hb, hml, hown, hB⟩ (c_Mo_bit l dC dI cI cJ cC ad (square + 2)) ⟨callB_of 1 hB (big_self q4_211) rfl rfl rfl (hB _ q1_15) (hB _ q4_209) (by decide +kernel) ⟨Nat.le_of_ble_eq_true rfl, Nat.le_of_ble_eq_true rfl⟩, (hB _ q4_210)⟩ (ro_preS (GS_ok ad) hK hP hG hS [] rfl) rfl rfl hl.1 rfl (lv_room (Nat.le_of_ble_eq_true rfl)) dMo_goals_105 ⟨Nat.le_of_ble_eq_true rfl, Nat.le_of_ble_eq_true rfl⟩) ?_
                refine lv_goto (tgt := 112) hx hb dMo_goals_108 (by decide) ?_
                exact J_112 (f_Mo_bit (square + 2)) (he_28.trans (by rw [f_Mo_goals_28_eq, if_pos c_2, if_pos c_3, if_pos c_4, if_neg c_6] <;> rfl)) ls (lv_sub hl [0, 1] rfl)
        · refine lv_aload_n hx hb dMo_goals_35 rfl (lv_at hl 0 rfl) ?_
          refine lv_iload hx hb dMo_goals_36 (lv_at hl 3 rfl) ?_
          refine lv_aload_n hx hb dMo_goals_38 rfl (lv_at hl 0 rfl) ?_
          refine va_get (D := (dC, dI)) (ci := 6) (v := .int oS_side) (C := RMo) (T := TMo) (N := 24) hx hb hB inMo hown hK hP 0 rfl rfl 6 (by decide) (hB _ q5_17) (fun _ h9 => h9) rfl dMo_goals_39 ?_
          refine ro_goi (va_runV (C := "ChessRulesModel") (As := [.int v4_28, .int oS_side]) (rest := []) ⟨hx, hb, hml, hown, hB⟩ (c_Mo_isOf l dC dI cI cJ cC ad o o_text o_out o_men o_pastMen o_pastSide o_pastRights o_pastPassed o_pastClock o_pastNumber o_pastTakes o_playedMoves o_keptMen o_keptRest o_lists o_counts oS_thrown oS_typed oS_text oS_told oS_out oS_men oS_side oS_rights oS_passed oS_clock oS_number oS_plies oS_pastMen oS_pastSide oS_pastRights oS_pastPassed oS_pastClock oS_pastNumber oS_pastTakes oS_playedMoves oS_keptMen oS_keptRest oS_lists oS_counts v4_28 oS_side (by have z0 := tne c_1; have z2 := tnle c_2; have y1 : (1 : Int32).toInt = 1 := rfl; have y64 : (64 : Int32).toInt = 64 := rfl; omega)) ⟨callB_of 2 hB (big_self q5_6) rfl rfl rfl (hB _ q1_15) (hB _ q5_3) (by decide +kernel) ⟨Nat.le_of_ble_eq_true rfl, Nat.le_of_ble_eq_true rfl⟩, (hB _ q5_5), (hB _ qs5_9)⟩ (ro_preV (GS_ok ad) hK hP hG hS [0, 1, 2, 3, 4, 5, 6, 7, 8, 9, 10, 11, 12, 13, 14, 15] rfl (va_recv hK hP (ci := 6) (q0 := 0) rfl rfl)) rfl rfl hl.1 rfl (lv_room (Nat.le_of_ble_eq_true rfl)) dMo_goals_42 ⟨Nat.le_of_ble_eq_true rfl, Nat.le_of_ble_eq_true rfl⟩) ?_
          refine lv_if_eq (tgt := 60) hx hb dMo_goals_45 (by decide) (fun c_7 => ?_) (fun c_7 => ?_)
          · refine lv_iinc (v := v4_28 + 1) (lv' := [(4, .int (v4_28 + 1)), (0, .ref o), (1, .int square), (2, .long v2_28)]) hx hb dMo_goals_60 hl (k := 3) rfl rfl (by decide) rfl (fun ls hl => ?_)
            refine lv_goto (tgt := 28) hx hb dMo_goals_63 (by decide) ?_
            exact ih_28 v2_28 (v4_28 + 1) (he_28.trans (by rw [f_Mo_goals_28_eq, if_neg c_2, if_pos c_7] <;> rfl)) (by have z0 := tne c_1; have z2 := tnle c_2; have z3 := teq c_7; have y0 : (0 : Int32).toInt = 0 := rfl; have y1 : (1 : Int32).toInt = 1 := rfl; have y64 : (64 : Int32).toInt = 64 := rfl; have zr := i_rng (64 : Int32); have zs := i_succ9 v4_28 (by omega); omega) ls (lv_sub hl [1, 2, 3, 0] rfl)
          · refine lv_lload_n hx hb dMo_goals_48 rfl (lv_at hl 2 rfl) ?_
            refine lv_iload hx hb dMo_goals_49 (lv_at hl 3 rfl) ?_
            refine ro_gol (va_runS (As := [.int v4_28]) (rest := [.long v2_28]) ⟨hx, hb, hml, hown, hB⟩ (c_Mo_bit l dC dI cI cJ cC ad v4_28) ⟨callB_of 1 hB (big_self q4_211) rfl rfl rfl (hB _ q1_15) (hB _ q4_209) (by decide +kernel) ⟨Nat.le_of_ble_eq_true rfl, Nat.le_of_ble_eq_true rfl⟩, (hB _ q4_210)⟩ (ro_preS (GS_ok ad) hK hP hG hS [] rfl) rfl rfl hl.1 rfl (lv_room (Nat.le_of_ble_eq_true rfl)) dMo_goals_51 ⟨Nat.le_of_ble_eq_true rfl, Nat.le_of_ble_eq_true rfl⟩) ?_
            refine lv_ldc2 (v := (-1)) hx hb hown (hB _ q5_104) dMo_goals_54 ?_
            refine lv_lxor hx hb dMo_goals_57 ?_
            refine lv_land hx hb dMo_goals_58 ?_
            refine lv_lstore_n (lv' := [(2, .long (v2_28 &&& ((f_Mo_bit v4_28) ^^^ (-1)))), (0, .ref o), (1, .int square), (4, .int v4_28)]) hx hb dMo_goals_59 rfl hl (by decide) rfl (fun ls hl => ?_)
            refine lv_iinc (v := v4_28 + 1) (lv' := [(4, .int (v4_28 + 1)), (2, .long (v2_28 &&& ((f_Mo_bit v4_28) ^^^ (-1)))), (0, .ref o), (1, .int square)]) hx hb dMo_goals_60 hl (k := 3) rfl rfl (by decide) rfl (fun ls hl => ?_)
            refine lv_goto (tgt := 28) hx hb dMo_goals_63 (by decide) ?_
            exact ih_28 (v2_28 &&& ((f_Mo_bit v4_28) ^^^ (-1))) (v4_28 + 1) (he_28.trans (by rw [f_Mo_goals_28_eq, if_neg c_2, if_neg c_7] <;> rfl)) (by have z0 := tne c_1; have z2 := tnle c_2; have z3 := tne c_7; have y0 : (0 : Int32).toInt = 0 := rfl; have y1 : (1 : Int32).toInt = 1 := rfl; have y64 : (64 : Int32).toInt = 64 := rfl; have zr := i_rng (64 : Int32); have zs := i_succ9 v4_28 (by omega); omega) ls (lv_sub hl [2, 3, 1, 0] rfl)
    exact J_28 (65) (f_Mo_attacked oS_men square) 0 (by rw [f_Mo_goals_eq, if_neg c_1] <;> rfl) (by decide) ls (lv_sub hl [2, 3, 1, 0] rfl)
  · refine lv_aload_n hx hb dMo_goals_13 rfl (lv_at hl 0 rfl) ?_
    refine lv_iload_n hx hb dMo_goals_14 rfl (lv_at hl 1 rfl) ?_
    refine ro_gol (va_runV (C := "ChessRulesModel") (As := [.int square]) (rest := []) ⟨hx, hb, hml, hown, hB⟩ (c_Mo_pawnGoals l dC dI cI cJ cC ad o o_text o_out o_men o_pastMen o_pastSide o_pastRights o_pastPassed o_pastClock o_pastNumber o_pastTakes o_playedMoves o_keptMen o_keptRest o_lists o_counts oS_thrown oS_typed oS_text oS_told oS_out oS_men oS_side oS_rights oS_passed oS_clock oS_number oS_plies oS_pastMen oS_pastSide oS_pastRights oS_pastPassed oS_pastClock oS_pastNumber oS_pastTakes oS_playedMoves oS_keptMen oS_keptRest oS_lists oS_counts square hq) ⟨callB_of 1 hB (big_self q5_103) rfl rfl rfl (hB _ q1_15) (hB _ q5_100) (by decide +kernel) ⟨Nat.le_of_ble_eq_true rfl, Nat.le_of_ble_eq_true rfl⟩, (hB _ q5_102), (hB _ qs5_13)⟩ (ro_preV (GS_ok ad) hK hP hG hS [0, 1, 2, 3, 4, 5, 6, 7, 8, 9, 10, 11, 12, 13, 14, 15] rfl (va_recv hK hP (ci := 6) (q0 := 0) rfl rfl)) rfl rfl hl.1 rfl (lv_room (Nat.le_of_ble_eq_true rfl)) dMo_goals_15 ⟨Nat.le_of_ble_eq_true rfl, Nat.le_of_ble_eq_true rfl⟩) ?_
    exact ro_retl hx hb hr hlocks dMo_goals_18 (Eq.symm (by rw [f_Mo_goals_eq, if_pos c_1] <;> rfl))

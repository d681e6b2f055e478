theorem lgc_lt {x y : Int64} : (lg_cmp x y < 0 → x < y) ∧ (¬ lg_cmp x y < 0 → ¬ x < y) := ⟨(lg_cmp_lt x y).mp, fun a b => a ((lg_cmp_lt x y).mpr b)⟩
theorem lgc_le {x y : Int64} : (lg_cmp x y ≤ 0 → x ≤ y) ∧ (¬ lg_cmp x y ≤ 0 → ¬ x ≤ y) := ⟨(lg_cmp_le x y).mp, fun a b => a ((lg_cmp_le x y).mpr b)⟩

abbrev cMo_bringBack : ByteArray := prog_11_method_18_code
def yMo_bringBack : MethodName := ⟨"ChessRulesModel", "bringBack", "(I)V"⟩
def wsMo_bringBack : List Cond := Cond.code yMo_bringBack cMo_bringBack 3 none :: BIG
theorem dMo_bringBack_0 : decode cMo_bringBack 0 = .ok (.iconst 0, 1) := by decide +kernel
theorem dMo_bringBack_1 : decode cMo_bringBack 1 = .ok (.istore_n 2, 1) := by decide +kernel
theorem dMo_bringBack_2 : decode cMo_bringBack 2 = .ok (.iload_n 2, 1) := by decide +kernel
theorem dMo_bringBack_3 : decode cMo_bringBack 3 = .ok (.bipush 64, 2) := by decide +kernel
theorem dMo_bringBack_5 : decode cMo_bringBack 5 = .ok (.if_icmp .ge 26, 3) := by decide +kernel
theorem dMo_bringBack_8 : decode cMo_bringBack 8 = .ok (.aload_n 0, 1) := by decide +kernel
theorem dMo_bringBack_9 : decode cMo_bringBack 9 = .ok (.getfield 16, 3) := by decide +kernel
theorem dMo_bringBack_12 : decode cMo_bringBack 12 = .ok (.iload_n 2, 1) := by decide +kernel
theorem dMo_bringBack_13 : decode cMo_bringBack 13 = .ok (.aload_n 0, 1) := by decide +kernel
theorem dMo_bringBack_14 : decode cMo_bringBack 14 = .ok (.getfield 55, 3) := by decide +kernel
theorem dMo_bringBack_17 : decode cMo_bringBack 17 = .ok (.bipush 64, 2) := by decide +kernel
theorem dMo_bringBack_19 : decode cMo_bringBack 19 = .ok (.iload_n 1, 1) := by decide +kernel
theorem dMo_bringBack_20 : decode cMo_bringBack 20 = .ok (.imul, 1) := by decide +kernel
theorem dMo_bringBack_21 : decode cMo_bringBack 21 = .ok (.iload_n 2, 1) := by decide +kernel
theorem dMo_bringBack_22 : decode cMo_bringBack 22 = .ok (.iadd, 1) := by decide +kernel
theorem dMo_bringBack_23 : decode cMo_bringBack 23 = .ok (.iaload, 1) := by decide +kernel
theorem dMo_bringBack_24 : decode cMo_bringBack 24 = .ok (.iastore, 1) := by decide +kernel
theorem dMo_bringBack_25 : decode cMo_bringBack 25 = .ok (.iinc 2 1, 3) := by decide +kernel
theorem dMo_bringBack_28 : decode cMo_bringBack 28 = .ok (.goto (-26), 3) := by decide +kernel
theorem dMo_bringBack_31 : decode cMo_bringBack 31 = .ok (.aload_n 0, 1) := by decide +kernel
theorem dMo_bringBack_32 : decode cMo_bringBack 32 = .ok (.aload_n 0, 1) := by decide +kernel
theorem dMo_bringBack_33 : decode cMo_bringBack 33 = .ok (.getfield 58, 3) := by decide +kernel
theorem dMo_bringBack_36 : decode cMo_bringBack 36 = .ok (.iconst 5, 1) := by decide +kernel
theorem dMo_bringBack_37 : decode cMo_bringBack 37 = .ok (.iload_n 1, 1) := by decide +kernel
theorem dMo_bringBack_38 : decode cMo_bringBack 38 = .ok (.imul, 1) := by decide +kernel
theorem dMo_bringBack_39 : decode cMo_bringBack 39 = .ok (.iaload, 1) := by decide +kernel
theorem dMo_bringBack_40 : decode cMo_bringBack 40 = .ok (.putfield 106, 3) := by decide +kernel
theorem dMo_bringBack_43 : decode cMo_bringBack 43 = .ok (.aload_n 0, 1) := by decide +kernel
theorem dMo_bringBack_44 : decode cMo_bringBack 44 = .ok (.aload_n 0, 1) := by decide +kernel
theorem dMo_bringBack_45 : decode cMo_bringBack 45 = .ok (.getfield 58, 3) := by decide +kernel
theorem dMo_bringBack_48 : decode cMo_bringBack 48 = .ok (.iconst 5, 1) := by decide +kernel
theorem dMo_bringBack_49 : decode cMo_bringBack 49 = .ok (.iload_n 1, 1) := by decide +kernel
theorem dMo_bringBack_50 : decode cMo_bringBack 50 = .ok (.imul, 1) := by decide +kernel
theorem dMo_bringBack_51 : decode cMo_bringBack 51 = .ok (.iconst 1, 1) := by decide +kernel
theorem dMo_bringBack_52 : decode cMo_bringBack 52 = .ok (.iadd, 1) := by decide +kernel
theorem dMo_bringBack_53 : decode cMo_bringBack 53 = .ok (.iaload, 1) := by decide +kernel
theorem dMo_bringBack_54 : decode cMo_bringBack 54 = .ok (.putfield 20, 3) := by decide +kernel
theorem dMo_bringBack_57 : decode cMo_bringBack 57 = .ok (.aload_n 0, 1) := by decide +kernel
theorem dMo_bringBack_58 : decode cMo_bringBack 58 = .ok (.aload_n 0, 1) := by decide +kernel
theorem dMo_bringBack_59 : decode cMo_bringBack 59 = .ok (.getfield 58, 3) := by decide +kernel
theorem dMo_bringBack_62 : decode cMo_bringBack 62 = .ok (.iconst 5, 1) := by decide +kernel
theorem dMo_bringBack_63 : decode cMo_bringBack 63 = .ok (.iload_n 1, 1) := by decide +kernel
theorem dMo_bringBack_64 : decode cMo_bringBack 64 = .ok (.imul, 1) := by decide +kernel
theorem dMo_bringBack_65 : decode cMo_bringBack 65 = .ok (.iconst 2, 1) := by decide +kernel
theorem dMo_bringBack_66 : decode cMo_bringBack 66 = .ok (.iadd, 1) := by decide +kernel
theorem dMo_bringBack_67 : decode cMo_bringBack 67 = .ok (.iaload, 1) := by decide +kernel
theorem dMo_bringBack_68 : decode cMo_bringBack 68 = .ok (.putfield 24, 3) := by decide +kernel
theorem dMo_bringBack_71 : decode cMo_bringBack 71 = .ok (.aload_n 0, 1) := by decide +kernel
theorem dMo_bringBack_72 : decode cMo_bringBack 72 = .ok (.aload_n 0, 1) := by decide +kernel
theorem dMo_bringBack_73 : decode cMo_bringBack 73 = .ok (.getfield 58, 3) := by decide +kernel
theorem dMo_bringBack_76 : decode cMo_bringBack 76 = .ok (.iconst 5, 1) := by decide +kernel
theorem dMo_bringBack_77 : decode cMo_bringBack 77 = .ok (.iload_n 1, 1) := by decide +kernel
theorem dMo_bringBack_78 : decode cMo_bringBack 78 = .ok (.imul, 1) := by decide +kernel
theorem dMo_bringBack_79 : decode cMo_bringBack 79 = .ok (.iconst 3, 1) := by decide +kernel
theorem dMo_bringBack_80 : decode cMo_bringBack 80 = .ok (.iadd, 1) := by decide +kernel
theorem dMo_bringBack_81 : decode cMo_bringBack 81 = .ok (.iaload, 1) := by decide +kernel
theorem dMo_bringBack_82 : decode cMo_bringBack 82 = .ok (.putfield 125, 3) := by decide +kernel
theorem dMo_bringBack_85 : decode cMo_bringBack 85 = .ok (.aload_n 0, 1) := by decide +kernel
theorem dMo_bringBack_86 : decode cMo_bringBack 86 = .ok (.aload_n 0, 1) := by decide +kernel
theorem dMo_bringBack_87 : decode cMo_bringBack 87 = .ok (.getfield 58, 3) := by decide +kernel
theorem dMo_bringBack_90 : decode cMo_bringBack 90 = .ok (.iconst 5, 1) := by decide +kernel
theorem dMo_bringBack_91 : decode cMo_bringBack 91 = .ok (.iload_n 1, 1) := by decide +kernel
theorem dMo_bringBack_92 : decode cMo_bringBack 92 = .ok (.imul, 1) := by decide +kernel
theorem dMo_bringBack_93 : decode cMo_bringBack 93 = .ok (.iconst 4, 1) := by decide +kernel
theorem dMo_bringBack_94 : decode cMo_bringBack 94 = .ok (.iadd, 1) := by decide +kernel
theorem dMo_bringBack_95 : decode cMo_bringBack 95 = .ok (.iaload, 1) := by decide +kernel
theorem dMo_bringBack_96 : decode cMo_bringBack 96 = .ok (.putfield 27, 3) := by decide +kernel
theorem dMo_bringBack_99 : decode cMo_bringBack 99 = .ok (.return_, 1) := by decide +kernel

def f_Mo_bringBack_2 (oS_men : Nat → Int32) (oS_side : Int32) (oS_rights : Int32) (oS_passed : Int32) (oS_clock : Int32) (oS_number : Int32) (oS_keptMen : Nat → Int32) (oS_keptRest : Nat → Int32) (level : Int32) : Nat → Int32 → (Nat → Int32) → ((Nat → Int32) × Int32 × Int32 × Int32 × Int32 × Int32)
  | 0 => fun _ _ => (oS_men, oS_side, oS_rights, oS_passed, oS_clock, oS_number)
  | n_2 + 1 => fun v2_2 W_o_men_2 => (if 64 ≤ v2_2 then (W_o_men_2, oS_keptRest (5 * level).toNatClampNeg, oS_keptRest ((5 * level) + 1).toNatClampNeg, oS_keptRest ((5 * level) + 2).toNatClampNeg, oS_keptRest ((5 * level) + 3).toNatClampNeg, oS_keptRest ((5 * level) + 4).toNatClampNeg) else (f_Mo_bringBack_2 oS_men oS_side oS_rights oS_passed oS_clock oS_number oS_keptMen oS_keptRest level n_2) (v2_2 + 1) (upd W_o_men_2 v2_2.toNatClampNeg (oS_keptMen ((64 * level) + v2_2).toNatClampNeg)))
theorem f_Mo_bringBack_2_eq (oS_men : Nat → Int32) (oS_side : Int32) (oS_rights : Int32) (oS_passed : Int32) (oS_clock : Int32) (oS_number : Int32) (oS_keptMen : Nat → Int32) (oS_keptRest : Nat → Int32) (level : Int32) (n_2 : Nat) (v2_2 : Int32) (W_o_men_2 : (Nat → Int32)) : f_Mo_bringBack_2 oS_men oS_side oS_rights oS_passed oS_clock oS_number oS_keptMen oS_keptRest level (n_2 + 1) v2_2 W_o_men_2 =
  (if 64 ≤ v2_2 then (W_o_men_2, oS_keptRest (5 * level).toNatClampNeg, oS_keptRest ((5 * level) + 1).toNatClampNeg, oS_keptRest ((5 * level) + 2).toNatClampNeg, oS_keptRest ((5 * level) + 3).toNatClampNeg, oS_keptRest ((5 * level) + 4).toNatClampNeg) else (f_Mo_bringBack_2 oS_men oS_side oS_rights oS_passed oS_clock oS_number oS_keptMen oS_keptRest level n_2) (v2_2 + 1) (upd W_o_men_2 v2_2.toNatClampNeg (oS_keptMen ((64 * level) + v2_2).toNatClampNeg))) := rfl

def f_Mo_bringBack (oS_men : Nat → Int32) (oS_side : Int32) (oS_rights : Int32) (oS_passed : Int32) (oS_clock : Int32) (oS_number : Int32) (oS_keptMen : Nat → Int32) (oS_keptRest : Nat → Int32) (level : Int32) : (Nat → Int32) × Int32 × Int32 × Int32 × Int32 × Int32 :=
  f_Mo_bringBack_2 oS_men oS_side oS_rights oS_passed oS_clock oS_number oS_keptMen oS_keptRest level (65) 0 oS_men
theorem f_Mo_bringBack_eq (oS_men : Nat → Int32) (oS_side : Int32) (oS_rights : Int32) (oS_passed : Int32) (oS_clock : Int32) (oS_number : Int32) (oS_keptMen : Nat → Int32) (oS_keptRest : Nat → Int32) (level : Int32) : f_Mo_bringBack oS_men oS_side oS_rights oS_passed oS_clock oS_number oS_keptMen oS_keptRest level =
  f_Mo_bringBack_2 oS_men oS_side oS_rights oS_passed oS_clock oS_number oS_keptMen oS_keptRest level (65) 0 oS_men := rfl

set_option maxHeartbeats 4000000 in
set_option maxRecDepth 100000 in
theorem c_Mo_bringBack (l : Launch) (dC : Nat → ClassId) (dI : Nat → Nat → Nat) (cI cJ cC : ClassId) (ad : Nat → Nat) (o o_text o_out o_men o_pastMen o_pastSide o_pastRights o_pastPassed o_pastClock o_pastNumber o_pastTakes o_playedMoves o_keptMen o_keptRest o_lists o_counts : Nat) (sz : Nat) (oS_thrown : Int32) (oS_typed : Int32) (oS_text : Nat → Int32) (oS_told : Int32) (oS_out : Nat → Int32) (oS_men : Nat → Int32) (oS_side : Int32) (oS_rights : Int32) (oS_passed : Int32) (oS_clock : Int32) (oS_number : Int32) (oS_plies : Int32) (oS_pastMen : Nat → Int32) (oS_pastSide : Nat → Int32) (oS_pastRights : Nat → Int32) (oS_pastPassed : Nat → Int32) (oS_pastClock : Nat → Int32) (oS_pastNumber : Nat → Int32) (oS_pastTakes : Nat → Int64) (oS_playedMoves : Nat → Int32) (oS_keptMen : Nat → Int32) (oS_keptRest : Nat → Int32) (oS_lists : Nat → Int32) (oS_counts : Nat → Int32) (level : Int32) (hv9 : 0 ≤ level.toInt ∧ level.toInt ≤ 5) : Met l yMo_bringBack wsMo_bringBack { frames := 0, cells := 0, slots := 0, locals := 0 } (rwP dC dI (TYS cI cJ cC) [.ref o, .int level] [(o, .inr (6, [.int oS_thrown, .int oS_typed, .ref o_text, .int oS_told, .ref o_out, .ref o_men, .int oS_side, .int oS_rights, .int oS_passed, .int oS_clock, .int oS_number, .int oS_plies, .ref o_pastMen, .ref o_pastSide, .ref o_pastRights, .ref o_pastPassed, .ref o_pastClock, .ref o_pastNumber, .ref o_pastTakes, .ref o_playedMoves, .ref o_keptMen, .ref o_keptRest, .ref o_lists, .ref o_counts])), (o_text, .inl (cC, 100, .inl oS_text)), (o_out, .inl (cC, 100, .inl oS_out)), (o_men, .inl (cI, 64, .inl oS_men)), (o_pastMen, .inl (cI, 25664, .inl oS_pastMen)), (o_pastSide, .inl (cI, 401, .inl oS_pastSide)), (o_pastRights, .inl (cI, 401, .inl oS_pastRights)), (o_pastPassed, .inl (cI, 401, .inl oS_pastPassed)), (o_pastClock, .inl (cI, 401, .inl oS_pastClock)), (o_pastNumber, .inl (cI, 401, .inl oS_pastNumber)), (o_pastTakes, .inl (cJ, 401, .inr (.inl oS_pastTakes))), (o_playedMoves, .inl (cI, 400, .inl oS_playedMoves)), (o_keptMen, .inl (cI, 384, .inl oS_keptMen)), (o_keptRest, .inl (cI, 30, .inl oS_keptRest)), (o_lists, .inl (cI, 8192, .inl oS_lists)), (o_counts, .inl (cI, 4, .inl oS_counts))] sz (GS ad)) (va_Qv (fun _ : Unit => True) (rwB dC dI (TYS cI cJ cC) [(o, .inr (6, [.int oS_thrown, .int oS_typed, .ref o_text, .int oS_told, .ref o_out, .ref o_men, .int ((f_Mo_bringBack oS_men oS_side oS_rights oS_passed oS_clock oS_number oS_keptMen oS_keptRest level).2.1), .int ((f_Mo_bringBack oS_men oS_side oS_rights oS_passed oS_clock oS_number oS_keptMen oS_keptRest level).2.2.1), .int ((f_Mo_bringBack oS_men oS_side oS_rights oS_passed oS_clock oS_number oS_keptMen oS_keptRest level).2.2.2.1), .int ((f_Mo_bringBack oS_men oS_side oS_rights oS_passed oS_clock oS_number oS_keptMen oS_keptRest level).2.2.2.2.1), .int ((f_Mo_bringBack oS_men oS_side oS_rights oS_passed oS_clock oS_number oS_keptMen oS_keptRest level).2.2.2.2.2), .int oS_plies, .ref o_pastMen, .ref o_pastSide, .ref o_pastRights, .ref o_pastPassed, .ref o_pastClock, .ref o_pastNumber, .ref o_pastTakes, .ref o_playedMoves, .ref o_keptMen, .ref o_keptRest, .ref o_lists, .ref o_counts])), (o_text, .inl (cC, 100, .inl oS_text)), (o_out, .inl (cC, 100, .inl oS_out)), (o_men, .inl (cI, 64, .inl ((f_Mo_bringBack oS_men oS_side oS_rights oS_passed oS_clock oS_number oS_keptMen oS_keptRest level).1))), (o_pastMen, .inl (cI, 25664, .inl oS_pastMen)), (o_pastSide, .inl (cI, 401, .inl oS_pastSide)), (o_pastRights, .inl (cI, 401, .inl oS_pastRights)), (o_pastPassed, .inl (cI, 401, .inl oS_pastPassed)), (o_pastClock, .inl (cI, 401, .inl oS_pastClock)), (o_pastNumber, .inl (cI, 401, .inl oS_pastNumber)), (o_pastTakes, .inl (cJ, 401, .inr (.inl oS_pastTakes))), (o_playedMoves, .inl (cI, 400, .inl oS_playedMoves)), (o_keptMen, .inl (cI, 384, .inl oS_keptMen)), (o_keptRest, .inl (cI, 30, .inl oS_keptRest)), (o_lists, .inl (cI, 8192, .inl oS_lists)), (o_counts, .inl (cI, 4, .inl oS_counts))] (va_A [(o, .inr (6, [.int oS_thrown, .int oS_typed, .ref o_text, .int oS_told, .ref o_out, .ref o_men, .int oS_side, .int oS_rights, .int oS_passed, .int oS_clock, .int oS_number, .int oS_plies, .ref o_pastMen, .ref o_pastSide, .ref o_pastRights, .ref o_pastPassed, .ref o_pastClock, .ref o_pastNumber, .ref o_pastTakes, .ref o_playedMoves, .ref o_keptMen, .ref o_keptRest, .ref o_lists, .ref o_counts])), (o_text, .inl (cC, 100, .inl oS_text)), (o_out, .inl (cC, 100, .inl oS_out)), (o_men, .inl (cI, 64, .inl oS_men)), (o_pastMen, .inl (cI, 25664, .inl oS_pastMen)), (o_pastSide, .inl (cI, 401, .inl oS_pastSide)), (o_pastRights, .inl (cI, 401, .inl oS_pastRights)), (o_pastPassed, .inl (cI, 401, .inl oS_pastPassed)), (o_pastClock, .inl (cI, 401, .inl oS_pastClock)), (o_pastNumber, .inl (cI, 401, .inl oS_pastNumber)), (o_pastTakes, .inl (cJ, 401, .inr (.inl oS_pastTakes))), (o_playedMoves, .inl (cI, 400, .inl oS_playedMoves)), (o_keptMen, .inl (cI, 384, .inl oS_keptMen)), (o_keptRest, .inl (cI, 30, .inl oS_keptRest)), (o_lists, .inl (cI, 8192, .inl oS_lists)), (o_counts, .inl (cI, 4, .inl oS_counts))] sz)) (va_A [(o, .inr (6, [.int oS_thrown, .int oS_typed, .ref o_text, .int oS_told, .ref o_out, .ref o_men, .int oS_side, .int oS_rights, .int oS_passed, .int oS_clock, .int oS_number, .int oS_plies, .ref o_pastMen, .ref o_pastSide, .ref o_pastRights, .ref o_pastPassed, .ref o_pastClock, .ref o_pastNumber, .ref o_pastTakes, .ref o_playedMoves, .ref o_keptMen, .ref o_keptRest, .ref o_lists, .ref o_counts])), (o_text, .inl (cC, 100, .inl oS_text)), (o_out, .inl (cC, 100, .inl oS_out)), (o_men, .inl (cI, 64, .inl oS_men)), (o_pastMen, .inl (cI, 25664, .inl oS_pastMen)), (o_pastSide, .inl (cI, 401, .inl oS_pastSide)), (o_pastRights, .inl (cI, 401, .inl oS_pastRights)), (o_pastPassed, .inl (cI, 401, .inl oS_pastPassed)), (o_pastClock, .inl (cI, 401, .inl oS_pastClock)), (o_pastNumber, .inl (cI, 401, .inl oS_pastNumber)), (o_pastTakes, .inl (cJ, 401, .inr (.inl oS_pastTakes))), (o_playedMoves, .inl (cI, 400, .inl oS_playedMoves)), (o_keptMen, .inl (cI, 384, .inl oS_keptMen)), (o_keptRest, .inl (cI, 30, .inl oS_keptRest)), (o_lists, .inl (cI, 8192, .inl oS_lists)), (o_counts, .inl (cI, 4, .inl oS_counts))] sz)) 0 0 (va_A [(o, .inr (6, [.int oS_thrown, .int oS_typed, .ref o_text, .int oS_told, .ref o_out, .ref o_men, .int oS_side, .int oS_rights, .int oS_passed, .int oS_clock, .int oS_number, .int oS_plies, .ref o_pastMen, .ref o_pastSide, .ref o_pastRights, .ref o_pastPassed, .ref o_pastClock, .ref o_pastNumber, .ref o_pastTakes, .ref o_playedMoves, .ref o_keptMen, .ref o_keptRest, .ref o_lists, .ref o_counts])), (o_text, .inl (cC, 100, .inl oS_text)), (o_out, .inl (cC, 100, .inl oS_out)), (o_men, .inl (cI, 64, .inl oS_men)), (o_pastMen, .inl (cI, 25664, .inl oS_pastMen)), (o_pastSide, .inl (cI, 401, .inl oS_pastSide)), (o_pastRights, .inl (cI, 401, .inl oS_pastRights)), (o_pastPassed, .inl (cI, 401, .inl oS_pastPassed)), (o_pastClock, .inl (cI, 401, .inl oS_pastClock)), (o_pastNumber, .inl (cI, 401, .inl oS_pastNumber)), (o_pastTakes, .inl (cJ, 401, .inr (.inl oS_pastTakes))), (o_playedMoves, .inl (cI, 400, .inl oS_playedMoves)), (o_keptMen, .inl (cI, 384, .inl oS_keptMen)), (o_keptRest, .inl (cI, 30, .inl oS_keptRest)), (o_lists, .inl (cI, 8192, .inl oS_lists)), (o_counts, .inl (cI, 4, .inl oS_counts))] sz) := by
  refine Met.ofW (cc := cMo_bringBack) (maxL := 3) (ret := none) (by decide) rfl ?_
  intro p e s m args below meth c s₁ B hml hv
  obtain ⟨rfl, hsz, hP, hK, hD0, hG⟩ := hv
  have hx := B.exec
  have hb := B.bytes
  have hr := B.returns
  have hB : ∀ w9 ∈ BIG, w9.before ([.ref o, .int level]).toArray s = true := fun w9 h => atoms_spec (ws := wsMo_bringBack) B.pre w9 (List.mem_cons_of_mem _ h)
  have hown : s.vm.findClass "ChessRulesModel" = some m.cls := findClass_of_methodNamed B.named
  have hlocks := B.notSynchronized
  subst hsz
  have hD := hD0.self (sz := s.heap.size)
  generalize hAe : va_A [(o, .inr (6, [.int oS_thrown, .int oS_typed, .ref o_text, .int oS_told, .ref o_out, .ref o_men, .int oS_side, .int oS_rights, .int oS_passed, .int oS_clock, .int oS_number, .int oS_plies, .ref o_pastMen, .ref o_pastSide, .ref o_pastRights, .ref o_pastPassed, .ref o_pastClock, .ref o_pastNumber, .ref o_pastTakes, .ref o_playedMoves, .ref o_keptMen, .ref o_keptRest, .ref o_lists, .ref o_counts])), (o_text, .inl (cC, 100, .inl oS_text)), (o_out, .inl (cC, 100, .inl oS_out)), (o_men, .inl (cI, 64, .inl oS_men)), (o_pastMen, .inl (cI, 25664, .inl oS_pastMen)), (o_pastSide, .inl (cI, 401, .inl oS_pastSide)), (o_pastRights, .inl (cI, 401, .inl oS_pastRights)), (o_pastPassed, .inl (cI, 401, .inl oS_pastPassed)), (o_pastClock, .inl (cI, 401, .inl oS_pastClock)), (o_pastNumber, .inl (cI, 401, .inl oS_pastNumber)), (o_pastTakes, .inl (cJ, 401, .inr (.inl oS_pastTakes))), (o_playedMoves, .inl (cI, 400, .inl oS_playedMoves)), (o_keptMen, .inl (cI, 384, .inl oS_keptMen)), (o_keptRest, .inl (cI, 30, .inl oS_keptRest)), (o_lists, .inl (cI, 8192, .inl oS_lists)), (o_counts, .inl (cI, 4, .inl oS_counts))] s.heap.size = A at hD hG ⊢
  have hA : ∀ q : Nat, s.heap.size ≤ q → A q := fun q h => by rw [← hAe]; exact Or.inr h
  have hS : va_S A s.heap s.heap [] := va_S.rf
  have hP : va_P (dC, dI) vwCl [(o, .inr (6, [.int oS_thrown, .int oS_typed, .ref o_text, .int oS_told, .ref o_out, .ref o_men, .int oS_side, .int oS_rights, .int oS_passed, .int oS_clock, .int oS_number, .int oS_plies, .ref o_pastMen, .ref o_pastSide, .ref o_pastRights, .ref o_pastPassed, .ref o_pastClock, .ref o_pastNumber, .ref o_pastTakes, .ref o_playedMoves, .ref o_keptMen, .ref o_keptRest, .ref o_lists, .ref o_counts])), (o_text, .inl (cC, 100, .inl oS_text)), (o_out, .inl (cC, 100, .inl oS_out)), (o_men, .inl (cI, 64, .inl oS_men)), (o_pastMen, .inl (cI, 25664, .inl oS_pastMen)), (o_pastSide, .inl (cI, 401, .inl oS_pastSide)), (o_pastRights, .inl (cI, 401, .inl oS_pastRights)), (o_pastPassed, .inl (cI, 401, .inl oS_pastPassed)), (o_pastClock, .inl (cI, 401, .inl oS_pastClock)), (o_pastNumber, .inl (cI, 401, .inl oS_pastNumber)), (o_pastTakes, .inl (cJ, 401, .inr (.inl oS_pastTakes))), (o_playedMoves, .inl (cI, 400, .inl oS_playedMoves)), (o_keptMen, .inl (cI, 384, .inl oS_keptMen)), (o_keptRest, .inl (cI, 30, .inl oS_keptRest)), (o_lists, .inl (cI, 8192, .inl oS_lists)), (o_counts, .inl (cI, 4, .inl oS_counts))] s.heap := hP
  have hl := lv_entry ([.ref o, .int level]) (n := 3) (Nat.le_of_ble_eq_true rfl)
  rw [lg_entry_eq]
  generalize (lg_sl ([.ref o, .int level]) ++ List.replicate (3 - (lg_sl ([.ref o, .int level])).length) Slot.unset).toArray = ls at hl ⊢
  have hl : lv_has ls 3 [(0, .ref o), (1, .int level)] := hl
  refine lv_iconst (v := 0) hx hb dMo_bringBack_0 (by decide) ?_
  refine lv_istore_n (lv' := [(2, .int 0), (0, .ref o), (1, .int level)]) hx hb dMo_bringBack_1 rfl hl (by decide) rfl (fun ls hl => ?_)
  have J_2 : ∀ (n_2 : Nat) (v2_2 : Int32) (W_o_men_2 : (Nat → Int32)), f_Mo_bringBack oS_men oS_side oS_rights oS_passed oS_clock oS_number oS_keptMen oS_keptRest level = f_Mo_bringBack_2 oS_men oS_side oS_rights oS_passed oS_clock oS_number oS_keptMen oS_keptRest level n_2 v2_2 W_o_men_2 → ((0 : Int) ≤ v2_2.toInt ∧ (64 : Int32).toInt - v2_2.toInt + 1 ≤ (n_2 : Int) ∧ (1 : Int) ≤ (n_2 : Int)) → ∀ (H : Heap) (locs : List Loc), va_P (dC, dI) vwCl [(o, .inr (6, [.int oS_thrown, .int oS_typed, .ref o_text, .int oS_told, .ref o_out, .ref o_men, .int oS_side, .int oS_rights, .int oS_passed, .int oS_clock, .int oS_number, .int oS_plies, .ref o_pastMen, .ref o_pastSide, .ref o_pastRights, .ref o_pastPassed, .ref o_pastClock, .ref o_pastNumber, .ref o_pastTakes, .ref o_playedMoves, .ref o_keptMen, .ref o_keptRest, .ref o_lists, .ref o_counts])), (o_text, .inl (cC, 100, .inl oS_text)), (o_out, .inl (cC, 100, .inl oS_out)), (o_men, .inl (cI, 64, .inl W_o_men_2)), (o_pastMen, .inl (cI, 25664, .inl oS_pastMen)), (o_pastSide, .inl (cI, 401, .inl oS_pastSide)), (o_pastRights, .inl (cI, 401, .inl oS_pastRights)), (o_pastPassed, .inl (cI, 401, .inl oS_pastPassed)), (o_pastClock, .inl (cI, 401, .inl oS_pastClock)), (o_pastNumber, .inl (cI, 401, .inl oS_pastNumber)), (o_pastTakes, .inl (cJ, 401, .inr (.inl oS_pastTakes))), (o_playedMoves, .inl (cI, 400, .inl oS_playedMoves)), (o_keptMen, .inl (cI, 384, .inl oS_keptMen)), (o_keptRest, .inl (cI, 30, .inl oS_keptRest)), (o_lists, .inl (cI, 8192, .inl oS_lists)), (o_counts, .inl (cI, 4, .inl oS_counts))] H → va_D A [(o, .inr (6, [.int oS_thrown, .int oS_typed, .ref o_text, .int oS_told, .ref o_out, .ref o_men, .int oS_side, .int oS_rights, .int oS_passed, .int oS_clock, .int oS_number, .int oS_plies, .ref o_pastMen, .ref o_pastSide, .ref o_pastRights, .ref o_pastPassed, .ref o_pastClock, .ref o_pastNumber, .ref o_pastTakes, .ref o_playedMoves, .ref o_keptMen, .ref o_keptRest, .ref o_lists, .ref o_counts])), (o_text, .inl (cC, 100, .inl oS_text)), (o_out, .inl (cC, 100, .inl oS_out)), (o_men, .inl (cI, 64, .inl W_o_men_2)), (o_pastMen, .inl (cI, 25664, .inl oS_pastMen)), (o_pastSide, .inl (cI, 401, .inl oS_pastSide)), (o_pastRights, .inl (cI, 401, .inl oS_pastRights)), (o_pastPassed, .inl (cI, 401, .inl oS_pastPassed)), (o_pastClock, .inl (cI, 401, .inl oS_pastClock)), (o_pastNumber, .inl (cI, 401, .inl oS_pastNumber)), (o_pastTakes, .inl (cJ, 401, .inr (.inl oS_pastTakes))), (o_playedMoves, .inl (cI, 400, .inl oS_playedMoves)), (o_keptMen, .inl (cI, 384, .inl oS_keptMen)), (o_keptRest, .inl (cI, 30, .inl oS_keptRest)), (o_lists, .inl (cI, 8192, .inl oS_lists)), (o_counts, .inl (cI, 4, .inl oS_counts))] → va_S A s.heap H locs → ∀ ls : Array Slot, lv_has ls 3 [(0, .ref o), (1, .int level), (2, .int v2_2)] → W p l e (headSpec wsMo_bringBack { frames := 0, cells := 0, slots := 0, locals := 0 }).room s m ([.ref o, .int level]).toArray below meth c H locs 0 0 (MQ below (va_Qv (fun _ : Unit => True) (rwB dC dI (TYS cI cJ cC) [(o, .inr (6, [.int oS_thrown, .int oS_typed, .ref o_text, .int oS_told, .ref o_out, .ref o_men, .int ((f_Mo_bringBack oS_men oS_side oS_rights oS_passed oS_clock oS_number oS_keptMen oS_keptRest level).2.1), .int ((f_Mo_bringBack oS_men oS_side oS_rights oS_passed oS_clock oS_number oS_keptMen oS_keptRest level).2.2.1), .int ((f_Mo_bringBack oS_men oS_side oS_rights oS_passed oS_clock oS_number oS_keptMen oS_keptRest level).2.2.2.1), .int ((f_Mo_bringBack oS_men oS_side oS_rights oS_passed oS_clock oS_number oS_keptMen oS_keptRest level).2.2.2.2.1), .int ((f_Mo_bringBack oS_men oS_side oS_rights oS_passed oS_clock oS_number oS_keptMen oS_keptRest level).2.2.2.2.2), .int oS_plies, .ref o_pastMen, .ref o_pastSide, .ref o_pastRights, .ref o_pastPassed, .ref o_pastClock, .ref o_pastNumber, .ref o_pastTakes, .ref o_playedMoves, .ref o_keptMen, .ref o_keptRest, .ref o_lists, .ref o_counts])), (o_text, .inl (cC, 100, .inl oS_text)), (o_out, .inl (cC, 100, .inl oS_out)), (o_men, .inl (cI, 64, .inl ((f_Mo_bringBack oS_men oS_side oS_rights oS_passed oS_clock oS_number oS_keptMen oS_keptRest level).1))), (o_pastMen, .inl (cI, 25664, .inl oS_pastMen)), (o_pastSide, .inl (cI, 401, .inl oS_pastSide)), (o_pastRights, .inl (cI, 401, .inl oS_pastRights)), (o_pastPassed, .inl (cI, 401, .inl oS_pastPassed)), (o_pastClock, .inl (cI, 401, .inl oS_pastClock)), (o_pastNumber, .inl (cI, 401, .inl oS_pastNumber)), (o_pastTakes, .inl (cJ, 401, .inr (.inl oS_pastTakes))), (o_playedMoves, .inl (cI, 400, .inl oS_playedMoves)), (o_keptMen, .inl (cI, 384, .inl oS_keptMen)), (o_keptRest, .inl (cI, 30, .inl oS_keptRest)), (o_lists, .inl (cI, 8192, .inl oS_lists)), (o_counts, .inl (cI, 4, .inl oS_counts))] A) A) ([.ref o, .int level]).toArray s 0 0 A) (F0 m 2 ls []) := by
    intro n_2
    induction n_2 with
    | zero => intro v2_2 W_o_men_2 _ hm_2; exact absurd hm_2 (by omega)
    | succ n_2 ih_2 =>
      intro v2_2 W_o_men_2 he_2 hm_2 H locs hP hD hS ls hl
      refine lv_iload_n hx hb dMo_bringBack_2 rfl (lv_at hl 2 rfl) ?_
      refine lv_bipush (v := 64) hx hb dMo_bringBack_3 (by decide) ?_
      refine lv_icmp_ge (tgt := 31) hx hb dMo_bringBack_5 (by decide) (fun c_1 => ?_) (fun c_1 => ?_)
      · refine lv_aload_n hx hb dMo_bringBack_31 rfl (lv_at hl 0 rfl) ?_
        refine lv_aload_n hx hb dMo_bringBack_32 rfl (lv_at hl 0 rfl) ?_
        refine va_get (D := (dC, dI)) (ci := 6) (v := .ref o_keptRest) (C := RMo) (T := TMo) (N := 24) hx hb hB inMo hown hK hP 0 rfl rfl 21 (by decide) (hB _ q5_32) (fun _ h9 => h9) rfl dMo_bringBack_33 ?_
        refine lv_iconst (v := 5) hx hb dMo_bringBack_36 (by decide) ?_
        refine lv_iload_n hx hb dMo_bringBack_37 rfl (lv_at hl 1 rfl) ?_
        refine lv_imul hx hb dMo_bringBack_38 ?_
        refine va_iald hx hb hK hP 13 0 rfl rfl (mul_5_30 hv9.1 hv9.2) dMo_bringBack_39 ?_
        refine va_put (D := (dC, dI)) (ci := 6) (v := .int (oS_keptRest (5 * level).toNatClampNeg)) (ty := .int) (C := RMo) (T := TMo) (N := 24) hx hb hB inMo tyMo tyMo_ok nmMo hown hK hP hD hS 0 rfl rfl 6 (by decide) (hB _ q5_17) (fun _ h9 => h9) rfl (by decide +kernel) rfl rfl (Nat.le_of_ble_eq_true rfl) dMo_bringBack_40 (fun H locs hP hD hS => ?_)
        have hP : va_P (dC, dI) vwCl [(o, .inr (6, [.int oS_thrown, .int oS_typed, .ref o_text, .int oS_told, .ref o_out, .ref o_men, .int (oS_keptRest (5 * level).toNatClampNeg), .int oS_rights, .int oS_passed, .int oS_clock, .int oS_number, .int oS_plies, .ref o_pastMen, .ref o_pastSide, .ref o_pastRights, .ref o_pastPassed, .ref o_pastClock, .ref o_pastNumber, .ref o_pastTakes, .ref o_playedMoves, .ref o_keptMen, .ref o_keptRest, .ref o_lists, .ref o_counts])), (o_text, .inl (cC, 100, .inl oS_text)), (o_out, .inl (cC, 100, .inl oS_out)), (o_men, .inl (cI, 64, .inl W_o_men_2)), (o_pastMen, .inl (cI, 25664, .inl oS_pastMen)), (o_pastSide, .inl (cI, 401, .inl oS_pastSide)), (o_pastRights, .inl (cI, 401, .inl oS_pastRights)), (o_pastPassed, .inl (cI, 401, .inl oS_pastPassed)), (o_pastClock, .inl (cI, 401, .inl oS_pastClock)), (o_pastNumber, .inl (cI, 401, .inl oS_pastNumber)), (o_pastTakes, .inl (cJ, 401, .inr (.inl oS_pastTakes))), (o_playedMoves, .inl (cI, 400, .inl oS_playedMoves)), (o_keptMen, .inl (cI, 384, .inl oS_keptMen)), (o_keptRest, .inl (cI, 30, .inl oS_keptRest)), (o_lists, .inl (cI, 8192, .inl oS_lists)), (o_counts, .inl (cI, 4, .inl oS_counts))] H := hP
        have hD : va_D A [(o, .inr (6, [.int oS_thrown, .int oS_typed, .ref o_text, .int oS_told, .ref o_out, .ref o_men, .int (oS_keptRest (5 * level).toNatClampNeg), .int oS_rights, .int oS_passed, .int oS_clock, .int oS_number, .int oS_plies, .ref o_pastMen, .ref o_pastSide, .ref o_pastRights, .ref o_pastPassed, .ref o_pastClock, .ref o_pastNumber, .ref o_pastTakes, .ref o_playedMoves, .ref o_keptMen, .ref o_keptRest, .ref o_lists, .ref o_counts])), (o_text, .inl (cC, 100, .inl oS_text)), (o_out, .inl (cC, 100, .inl oS_out)), (o_men, .inl (cI, 64, .inl W_o_men_2)), (o_pastMen, .inl (cI, 25664, .inl oS_pastMen)), (o_pastSide, .inl (cI, 401, .inl oS_pastSide)), (o_pastRights, .inl (cI, 401, .inl oS_pastRights)), (o_pastPassed, .inl (cI, 401, .inl oS_pastPassed)), (o_pastClock, .inl (cI, 401, .inl oS_pastClock)), (o_pastNumber, .inl (cI, 401, .inl oS_pastNumber)), (o_pastTakes, .inl (cJ, 401, .inr (.inl oS_pastTakes))), (o_playedMoves, .inl (cI, 400, .inl oS_playedMoves)), (o_keptMen, .inl (cI, 384, .inl oS_keptMen)), (o_keptRest, .inl (cI, 30, .inl oS_keptRest)), (o_lists, .inl (cI, 8192, .inl oS_lists)), (o_counts, .inl (cI, 4, .inl oS_counts))] := hD
        refine lv_aload_n hx hb dMo_bringBack_43 rfl (lv_at hl 0 rfl) ?_
        refine lv_aload_n hx hb dMo_bringBack_44 rfl (lv_at hl 0 rfl) ?_
        refine va_get (D := (dC, dI)) (ci := 6) (v := .ref o_keptRest) (C := RMo) (T := TMo) (N := 24) hx hb hB inMo hown hK hP 0 rfl rfl 21 (by decide) (hB _ q5_32) (fun _ h9 => h9) rfl dMo_bringBack_45 ?_
        refine lv_iconst (v := 5) hx hb dMo_bringBack_48 (by decide) ?_
        refine lv_iload_n hx hb dMo_bringBack_49 rfl (lv_at hl 1 rfl) ?_
        refine lv_imul hx hb dMo_bringBack_50 ?_
        refine lv_iconst (v := 1) hx hb dMo_bringBack_51 (by decide) ?_
        refine lv_iadd hx hb dMo_bringBack_52 ?_
        refine va_iald hx hb hK hP 13 0 rfl rfl (lin_5_30 hv9.1 hv9.2 (by decide) (by have y1 : (1 : Int32).toInt = 1 := rfl; have y2 : (2 : Int32).toInt = 2 := rfl; have y3 : (3 : Int32).toInt = 3 := rfl; have y4 : (4 : Int32).toInt = 4 := rfl; omega)) dMo_bringBack_53 ?_
        refine va_put (D := (dC, dI)) (ci := 6) (v := .int (oS_keptRest ((5 * level) + 1).toNatClampNeg)) (ty := .int) (C := RMo) (T := TMo) (N := 24) hx hb hB inMo tyMo tyMo_ok nmMo hown hK hP hD hS 0 rfl rfl 7 (by decide) (hB _ q5_18) (fun _ h9 => h9) rfl (by decide +kernel) rfl rfl (Nat.le_of_ble_eq_true rfl) dMo_bringBack_54 (fun H locs hP hD hS => ?_)
        have hP : va_P (dC, dI) vwCl [(o, .inr (6, [.int oS_thrown, .int oS_typed, .ref o_text, .int oS_told, .ref o_out, .ref o_men, .int (oS_keptRest (5 * level).toNatClampNeg), .int (oS_keptRest ((5 * level) + 1).toNatClampNeg), .int oS_passed, .int oS_clock, .int oS_number, .int oS_plies, .ref o_pastMen, .ref o_pastSide, .ref o_pastRights, .ref o_pastPassed, .ref o_pastClock, .ref o_pastNumber, .ref o_pastTakes, .ref o_playedMoves, .ref o_keptMen, .ref o_keptRest, .ref o_lists, .ref o_counts])), (o_text, .inl (cC, 100, .inl oS_text)), (o_out, .inl (cC, 100, .inl oS_out)), (o_men, .inl (cI, 64, .inl W_o_men_2)), (o_pastMen, .inl (cI, 25664, .inl oS_pastMen)), (o_pastSide, .inl (cI, 401, .inl oS_pastSide)), (o_pastRights, .inl (cI, 401, .inl oS_pastRights)), (o_pastPassed, .inl (cI, 401, .inl oS_pastPassed)), (o_pastClock, .inl (cI, 401, .inl oS_pastClock)), (o_pastNumber, .inl (cI, 401, .inl oS_pastNumber)), (o_pastTakes, .inl (cJ, 401, .inr (.inl oS_pastTakes))), (o_playedMoves, .inl (cI, 400, .inl oS_playedMoves)), (o_keptMen, .inl (cI, 384, .inl oS_keptMen)), (o_keptRest, .inl (cI, 30, .inl oS_keptRest)), (o_lists, .inl (cI, 8192, .inl oS_lists)), (o_counts, .inl (cI, 4, .inl oS_counts))] H := hP
        have hD : va_D A [(o, .inr (6, [.int oS_thrown, .int oS_typed, .ref o_text, .int oS_told, .ref o_out, .ref o_men, .int (oS_keptRest (5 * level).toNatClampNeg), .int (oS_keptRest ((5 * level) + 1).toNatClampNeg), .int oS_passed, .int oS_clock, .int oS_number, .int oS_plies, .ref o_pastMen, .ref o_pastSide, .ref o_pastRights, .ref o_pastPassed, .ref o_pastClock, .ref o_pastNumber, .ref o_pastTakes, .ref o_playedMoves, .ref o_keptMen, .ref o_keptRest, .ref o_lists, .ref o_counts])), (o_text, .inl (cC, 100, .inl oS_text)), (o_out, .inl (cC, 100, .inl oS_out)), (o_men, .inl (cI, 64, .inl W_o_men_2)), (o_pastMen, .inl (cI, 25664, .inl oS_pastMen)), (o_pastSide, .inl (cI, 401, .inl oS_pastSide)), (o_pastRights, .inl (cI, 401, .inl oS_pastRights)), (o_pastPassed, .inl (cI, 401, .inl oS_pastPassed)), (o_pastClock, .inl (cI, 401, .inl oS_pastClock)), (o_pastNumber, .inl (cI, 401, .inl oS_pastNumber)), (o_pastTakes, .inl (cJ, 401, .inr (.inl oS_pastTakes))), (o_playedMoves, .inl (cI, 400, .inl oS_playedMoves)), (o_keptMen, .inl (cI, 384, .inl oS_keptMen)), (o_keptRest, .inl (cI, 30, .inl oS_keptRest)), (o_lists, .inl (cI, 8192, .inl oS_lists)), (o_counts, .inl (cI, 4, .inl oS_counts))] := hD
        refine lv_aload_n hx hb dMo_bringBack_57 rfl (lv_at hl 0 rfl) ?_
        refine lv_aload_n hx hb dMo_bringBack_58 rfl (lv_at hl 0 rfl) ?_
        refine va_get (D := (dC, dI)) (ci := 6) (v := .ref o_keptRest) (C := RMo) (T := TMo) (N := 24) hx hb hB inMo hown hK hP 0 rfl rfl 21 (by decide) (hB _ q5_32) (fun _ h9 => h9) rfl dMo_bringBack_59 ?_
        refine lv_iconst (v := 5) hx hb dMo_bringBack_62 (by decide) ?_
        refine lv_iload_n hx hb dMo_bringBack_63 rfl (lv_at hl 1 rfl) ?_
        refine lv_imul hx hb dMo_bringBack_64 ?_
        refine lv_iconst (v := 2) hx hb dMo_bringBack_65 (by decide) ?_
        refine lv_iadd hx hb dMo_bringBack_66 ?_
        refine va_iald hx hb hK hP 13 0 rfl rfl (lin_5_30 hv9.1 hv9.2 (by decide) (by have y1 : (1 : Int32).toInt = 1 := rfl; have y2 : (2 : Int32).toInt = 2 := rfl; have y3 : (3 : Int32).toInt = 3 := rfl; have y4 : (4 : Int32).toInt = 4 := rfl; omega)) dMo_bringBack_67 ?_
        refine va_put (D := (dC, dI)) (ci := 6) (v := .int (oS_keptRest ((5 * level) + 2).toNatClampNeg)) (ty := .int) (C := RMo) (T := TMo) (N := 24) hx hb hB inMo tyMo tyMo_ok nmMo hown hK hP hD hS 0 rfl rfl 8 (by decide) (hB _ q5_19) (fun _ h9 => h9) rfl (by decide +kernel) rfl rfl (Nat.le_of_ble_eq_true rfl) dMo_bringBack_68 (fun H locs hP hD hS => ?_)
        have hP : va_P (dC, dI) vwCl [(o, .inr (6, [.int oS_thrown, .int oS_typed, .ref o_text, .int oS_told, .ref o_out, .ref o_men, .int (oS_keptRest (5 * level).toNatClampNeg), .int (oS_keptRest ((5 * level) + 1).toNatClampNeg), .int (oS_keptRest ((5 * level) + 2).toNatClampNeg), .int oS_clock, .int oS_number, .int oS_plies, .ref o_pastMen, .ref o_pastSide, .ref o_pastRights, .ref o_pastPassed, .ref o_pastClock, .ref o_pastNumber, .ref o_pastTakes, .ref o_playedMoves, .ref o_keptMen, .ref o_keptRest, .ref o_lists, .ref o_counts])), (o_text, .inl (cC, 100, .inl oS_text)), (o_out, .inl (cC, 100, .inl oS_out)), (o_men, .inl (cI, 64, .inl W_o_men_2)), (o_pastMen, .inl (cI, 25664, .inl oS_pastMen)), (o_pastSide, .inl (cI, 401, .inl oS_pastSide)), (o_pastRights, .inl (cI, 401, .inl oS_pastRights)), (o_pastPassed, .inl (cI, 401, .inl oS_pastPassed)), (o_pastClock, .inl (cI, 401, .inl oS_pastClock)), (o_pastNumber, .inl (cI, 401, .inl oS_pastNumber)), (o_pastTakes, .inl (cJ, 401, .inr (.inl oS_pastTakes))), (o_playedMoves, .inl (cI, 400, .inl oS_playedMoves)), (o_keptMen, .inl (cI, 384, .inl oS_keptMen)), (o_keptRest, .inl (cI, 30, .inl oS_keptRest)), (o_lists, .inl (cI, 8192, .inl oS_lists)), (o_counts, .inl (cI, 4, .inl oS_counts))] H := hP
        have hD : va_D A [(o, .inr (6, [.int oS_thrown, .int oS_typed, .ref o_text, .int oS_told, .ref o_out, .ref o_men, .int (oS_keptRest (5 * level).toNatClampNeg), .int (oS_keptRest ((5 * level) + 1).toNatClampNeg), .int (oS_keptRest ((5 * level) + 2).toNatClampNeg), .int oS_clock, .int oS_number, .int oS_plies, .ref o_pastMen, .ref o_pastSide, .ref o_pastRights, .ref o_pastPassed, .ref o_pastClock, .ref o_pastNumber, .ref o_pastTakes, .ref o_playedMoves, .ref o_keptMen, .ref o_keptRest, .ref o_lists, .ref o_counts])), (o_text, .inl (cC, 100, .inl oS_text)), (o_out, .inl (cC, 100, .inl oS_out)), (o_men, .inl (cI, 64, .inl W_o_men_2)), (o_pastMen, .inl (cI, 25664, .inl oS_pastMen)), (o_pastSide, .inl (cI, 401, .inl oS_pastSide)), (o_pastRights, .inl (cI, 401, .inl oS_pastRights)), (o_pastPassed, .inl (cI, 401, .inl oS_pastPassed)), (o_pastClock, .inl (cI, 401, .inl oS_pastClock)), (o_pastNumber, .inl (cI, 401, .inl oS_pastNumber)), (o_pastTakes, .inl (cJ, 401, .inr (.inl oS_pastTakes))), (o_playedMoves, .inl (cI, 400, .inl oS_playedMoves)), (o_keptMen, .inl (cI, 384, .inl oS_keptMen)), (o_keptRest, .inl (cI, 30, .inl oS_keptRest)), (o_lists, .inl (cI, 8192, .inl oS_lists)), (o_counts, .inl (cI, 4, .inl oS_counts))] := hD
        refine lv_aload_n hx hb dMo_bringBack_71 rfl (lv_at hl 0 rfl) ?_
        refine lv_aload_n hx hb dMo_bringBack_72 rfl (lv_at hl 0 rfl) ?_
        refine va_get (D := (dC, dI)) (ci := 6) (v := .ref o_keptRest) (C := RMo) (T := TMo) (N := 24) hx hb hB inMo hown hK hP 0 rfl rfl 21 (by decide) (hB _ q5_32) (fun _ h9 => h9) rfl dMo_bringBack_73 ?_
        refine lv_iconst (v := 5) hx hb dMo_bringBack_76 (by decide) ?_
        refine lv_iload_n hx hb dMo_bringBack_77 rfl (lv_at hl 1 rfl) ?_
        refine lv_imul hx hb dMo_bringBack_78 ?_
        refine lv_iconst (v := 3) hx hb dMo_bringBack_79 (by decide) ?_
        refine lv_iadd hx hb dMo_bringBack_80 ?_
        refine va_iald hx hb hK hP 13 0 rfl rfl (lin_5_30 hv9.1 hv9.2 (by decide) (by have y1 : (1 : Int32).toInt = 1 := rfl; have y2 : (2 : Int32).toInt = 2 := rfl; have y3 : (3 : Int32).toInt = 3 := rfl; have y4 : (4 : Int32).toInt = 4 := rfl; omega)) dMo_bringBack_81 ?_
        refine va_put (D := (dC, dI)) (ci := 6) (v := .int (oS_keptRest ((5 * level) + 3).toNatClampNeg)) (ty := .int) (C := RMo) (T := TMo) (N := 24) hx hb hB inMo tyMo tyMo_ok nmMo hown hK hP hD hS 0 rfl rfl 9 (by decide) (hB _ q5_20) (fun _ h9 => h9) rfl (by decide +kernel) rfl rfl (Nat.le_of_ble_eq_true rfl) dMo_bringBack_82 (fun H locs hP hD hS => ?_)
        have hP : va_P (dC, dI) vwCl [(o, .inr (6, [.int oS_thrown, .int oS_typed, .ref o_text, .int oS_told, .ref o_out, .ref o_men, .int (oS_keptRest (5 * level).toNatClampNeg), .int (oS_keptRest ((5 * level) + 1).toNatClampNeg), .int (oS_keptRest ((5 * level) + 2).toNatClampNeg), .int (oS_keptRest ((5 * level) + 3).toNatClampNeg), .int oS_number, .int oS_plies, .ref o_pastMen, .ref o_pastSide, .ref o_pastRights, .ref o_pastPassed, .ref o_pastClock, .ref o_pastNumber, .ref o_pastTakes, .ref o_playedMoves, .ref o_keptMen, .ref o_keptRest, .ref o_lists, .ref o_counts])), (o_text, .inl (cC, 100, .inl oS_text)), (o_out, .inl (cC, 100, .inl oS_out)), (o_men, .inl (cI, 64, .inl W_o_men_2)), (o_pastMen, .inl (cI, 25664, .inl oS_pastMen)), (o_pastSide, .inl (cI, 401, .inl oS_pastSide)), (o_pastRights, .inl (cI, 401, .inl oS_pastRights)), (o_pastPassed, .inl (cI, 401, .inl oS_pastPassed)), (o_pastClock, .inl (cI, 401, .inl oS_pastClock)), (o_pastNumber, .inl (cI, 401, .inl oS_pastNumber)), (o_pastTakes, .inl (cJ, 401, .inr (.inl oS_pastTakes))), (o_playedMoves, .inl (cI, 400, .inl oS_playedMoves)), (o_keptMen, .inl (cI, 384, .inl oS_keptMen)), (o_keptRest, .inl (cI, 30, .inl oS_keptRest)), (o_lists, .inl (cI, 8192, .inl oS_lists)), (o_counts, .inl (cI, 4, .inl oS_counts))] H := hP
        have hD : va_D A [(o, .inr (6, [.int oS_thrown, .int oS_typed, .ref o_text, .int oS_told, .ref o_out, .ref o_men, .int (oS_keptRest (5 * level).toNatClampNeg), .int (oS_keptRest ((5 * level) + 1).toNatClampNeg), .int (oS_keptRest ((5 * level) + 2).toNatClampNeg), .int (oS_keptRest ((5 * level) + 3).toNatClampNeg), .int oS_number, .int oS_plies, .ref o_pastMen, .ref o_pastSide, .ref o_pastRights, .ref o_pastPassed, .ref o_pastClock, .ref o_pastNumber, .ref o_pastTakes, .ref o_playedMoves, .ref o_keptMen, .ref o_keptRest, .ref o_lists, .ref o_counts])), (o_text, .inl (cC, 100, .inl oS_text)), (o_out, .inl (cC, 100, .inl oS_out)), (o_men, .inl (cI, 64, .inl W_o_men_2)), (o_pastMen, .inl (cI, 25664, .inl oS_pastMen)), (o_pastSide, .inl (cI, 401, .inl oS_pastSide)), (o_pastRights, .inl (cI, 401, .inl oS_pastRights)), (o_pastPassed, .inl (cI, 401, .inl oS_pastPassed)), (o_pastClock, .inl (cI, 401, .inl oS_pastClock)), (o_pastNumber, .inl (cI, 401, .inl oS_pastNumber)), (o_pastTakes, .inl (cJ, 401, .inr (.inl oS_pastTakes))), (o_playedMoves, .inl (cI, 400, .inl oS_playedMoves)), (o_keptMen, .inl (cI, 384, .inl oS_keptMen)), (o_keptRest, .inl (cI, 30, .inl oS_keptRest)), (o_lists, .inl (cI, 8192, .inl oS_lists)), (o_counts, .inl (cI, 4, .inl oS_counts))] := hD
        refine lv_aload_n hx hb dMo_bringBack_85 rfl (lv_at hl 0 rfl) ?_
        refine lv_aload_n hx hb dMo_bringBack_86 rfl (lv_at hl 0 rfl) ?_
        refine va_get (D := (dC, dI)) (ci := 6) (v := .ref o_keptRest) (C := RMo) (T := TMo) (N := 24) hx hb hB inMo hown hK hP 0 rfl rfl 21 (by decide) (hB _ q5_32) (fun _ h9 => h9) rfl dMo_bringBack_87 ?_
        refine lv_iconst (v := 5) hx hb dMo_bringBack_90 (by decide) ?_
        refine lv_iload_n hx hb dMo_bringBack_91 rfl (lv_at hl 1 rfl) ?_
        refine lv_imul hx hb dMo_bringBack_92 ?_
        refine lv_iconst (v := 4) hx hb dMo_bringBack_93 (by decide) ?_
        refine lv_iadd hx hb dMo_bringBack_94 ?_
        refine va_iald hx hb hK hP 13 0 rfl rfl (lin_5_30 hv9.1 hv9.2 (by decide) (by have y1 : (1 : Int32).toInt = 1 := rfl; have y2 : (2 : Int32).toInt = 2 := rfl; have y3 : (3 : Int32).toInt = 3 := rfl; have y4 : (4 : Int32).toInt = 4 := rfl; omega)) dMo_bringBack_95 ?_
        refine va_put (D := (dC, dI)) (ci := 6) (v := .int (oS_keptRest ((5 * level) + 4).toNatClampNeg)) (ty := .int) (C := RMo) (T := TMo) (N := 24) hx hb hB inMo tyMo tyMo_ok nmMo hown hK hP hD hS 0 rfl rfl 10 (by decide) (hB _ q5_21) (fun _ h9 => h9) rfl (by decide +kernel) rfl rfl (Nat.le_of_ble_eq_true rfl) dMo_bringBack_96 (fun H locs hP hD hS => ?_)
        have hP : va_P (dC, dI) vwCl [(o, .inr (6, [.int oS_thrown, .int oS_typed, .ref o_text, .int oS_told, .ref o_out, .ref o_men, .int (oS_keptRest (5 * level).toNatClampNeg), .int (oS_keptRest ((5 * level) + 1).toNatClampNeg), .int (oS_keptRest ((5 * level) + 2).toNatClampNeg), .int (oS_keptRest ((5 * level) + 3).toNatClampNeg), .int (oS_keptRest ((5 * level) + 4).toNatClampNeg), .int oS_plies, .ref o_pastMen, .ref o_pastSide, .ref o_pastRights, .ref o_pastPassed, .ref o_pastClock, .ref o_pastNumber, .ref o_pastTakes, .ref o_playedMoves, .ref o_keptMen, .ref o_keptRest, .ref o_lists, .ref o_counts])), (o_text, .inl (cC, 100, .inl oS_text)), (o_out, .inl (cC, 100, .inl oS_out)), (o_men, .inl (cI, 64, .inl W_o_men_2)), (o_pastMen, .inl (cI, 25664, .inl oS_pastMen)), (o_pastSide, .inl (cI, 401, .inl oS_pastSide)), (o_pastRights, .inl (cI, 401, .inl oS_pastRights)), (o_pastPassed, .inl (cI, 401, .inl oS_pastPassed)), (o_pastClock, .inl (cI, 401, .inl oS_pastClock)), (o_pastNumber, .inl (cI, 401, .inl oS_pastNumber)), (o_pastTakes, .inl (cJ, 401, .inr (.inl oS_pastTakes))), (o_playedMoves, .inl (cI, 400, .inl oS_playedMoves)), (o_keptMen, .inl (cI, 384, .inl oS_keptMen)), (o_keptRest, .inl (cI, 30, .inl oS_keptRest)), (o_lists, .inl (cI, 8192, .inl oS_lists)), (o_counts, .inl (cI, 4, .inl oS_counts))] H := hP
        have hD : va_D A [(o, .inr (6, [.int oS_thrown, .int oS_typed, .ref o_text, .int oS_told, .ref o_out, .ref o_men, .int (oS_keptRest (5 * level).toNatClampNeg), .int (oS_keptRest ((5 * level) + 1).toNatClampNeg), .int (oS_keptRest ((5 * level) + 2).toNatClampNeg), .int (oS_keptRest ((5 * level) + 3).toNatClampNeg), .int (oS_keptRest ((5 * level) + 4).toNatClampNeg), .int oS_plies, .ref o_pastMen, .ref o_pastSide, .ref o_pastRights, .ref o_pastPassed, .ref o_pastClock, .ref o_pastNumber, .ref o_pastTakes, .ref o_playedMoves, .ref o_keptMen, .ref o_keptRest, .ref o_lists, .ref o_counts])), (o_text, .inl (cC, 100, .inl oS_text)), (o_out, .inl (cC, 100, .inl oS_out)), (o_men, .inl (cI, 64, .inl W_o_men_2)), (o_pastMen, .inl (cI, 25664, .inl oS_pastMen)), (o_pastSide, .inl (cI, 401, .inl oS_pastSide)), (o_pastRights, .inl (cI, 401, .inl oS_pastRights)), (o_pastPassed, .inl (cI, 401, .inl oS_pastPassed)), (o_pastClock, .inl (cI, 401, .inl oS_pastClock)), (o_pastNumber, .inl (cI, 401, .inl oS_pastNumber)), (o_pastTakes, .inl (cJ, 401, .inr (.inl oS_pastTakes))), (o_playedMoves, .inl (cI, 400, .inl oS_playedMoves)), (o_keptMen, .inl (cI, 384, .inl oS_keptMen)), (o_keptRest, .inl (cI, 30, .inl oS_keptRest)), (o_lists, .inl (cI, 8192, .inl oS_lists)), (o_counts, .inl (cI, 4, .inl oS_counts))] := hD
        have hv : f_Mo_bringBack oS_men oS_side oS_rights oS_passed oS_clock oS_number oS_keptMen oS_keptRest level = (W_o_men_2, oS_keptRest (5 * level).toNatClampNeg, oS_keptRest ((5 * level) + 1).toNatClampNeg, oS_keptRest ((5 * level) + 2).toNatClampNeg, oS_keptRest ((5 * level) + 3).toNatClampNeg, oS_keptRest ((5 * level) + 4).toNatClampNeg) := (he_2.trans (by rw [f_Mo_bringBack_2_eq, if_pos c_1] <;> rfl))
        have hP9 : va_P (dC, dI) vwCl [(o, .inr (6, [.int oS_thrown, .int oS_typed, .ref o_text, .int oS_told, .ref o_out, .ref o_men, .int ((f_Mo_bringBack oS_men oS_side oS_rights oS_passed oS_clock oS_number oS_keptMen oS_keptRest level).2.1), .int ((f_Mo_bringBack oS_men oS_side oS_rights oS_passed oS_clock oS_number oS_keptMen oS_keptRest level).2.2.1), .int ((f_Mo_bringBack oS_men oS_side oS_rights oS_passed oS_clock oS_number oS_keptMen oS_keptRest level).2.2.2.1), .int ((f_Mo_bringBack oS_men oS_side oS_rights oS_passed oS_clock oS_number oS_keptMen oS_keptRest level).2.2.2.2.1), .int ((f_Mo_bringBack oS_men oS_side oS_rights oS_passed oS_clock oS_number oS_keptMen oS_keptRest level).2.2.2.2.2), .int oS_plies, .ref o_pastMen, .ref o_pastSide, .ref o_pastRights, .ref o_pastPassed, .ref o_pastClock, .ref o_pastNumber, .ref o_pastTakes, .ref o_playedMoves, .ref o_keptMen, .ref o_keptRest, .ref o_lists, .ref o_counts])), (o_text, .inl (cC, 100, .inl oS_text)), (o_out, .inl (cC, 100, .inl oS_out)), (o_men, .inl (cI, 64, .inl ((f_Mo_bringBack oS_men oS_side oS_rights oS_passed oS_clock oS_number oS_keptMen oS_keptRest level).1))), (o_pastMen, .inl (cI, 25664, .inl oS_pastMen)), (o_pastSide, .inl (cI, 401, .inl oS_pastSide)), (o_pastRights, .inl (cI, 401, .inl oS_pastRights)), (o_pastPassed, .inl (cI, 401, .inl oS_pastPassed)), (o_pastClock, .inl (cI, 401, .inl oS_pastClock)), (o_pastNumber, .inl (cI, 401, .inl oS_pastNumber)), (o_pastTakes, .inl (cJ, 401, .inr (.inl oS_pastTakes))), (o_playedMoves, .inl (cI, 400, .inl oS_playedMoves)), (o_keptMen, .inl (cI, 384, .inl oS_keptMen)), (o_keptRest, .inl (cI, 30, .inl oS_keptRest)), (o_lists, .inl (cI, 8192, .inl oS_lists)), (o_counts, .inl (cI, 4, .inl oS_counts))] H := by first | (rw [hv]; exact hP.sub [0, 1, 2, 3, 4, 5, 6, 7, 8, 9, 10, 11, 12, 13, 14, 15] rfl) | exact hP.sub [0, 1, 2, 3, 4, 5, 6, 7, 8, 9, 10, 11, 12, 13, 14, 15] rfl
        have hD9 : va_D A [(o, .inr (6, [.int oS_thrown, .int oS_typed, .ref o_text, .int oS_told, .ref o_out, .ref o_men, .int ((f_Mo_bringBack oS_men oS_side oS_rights oS_passed oS_clock oS_number oS_keptMen oS_keptRest level).2.1), .int ((f_Mo_bringBack oS_men oS_side oS_rights oS_passed oS_clock oS_number oS_keptMen oS_keptRest level).2.2.1), .int ((f_Mo_bringBack oS_men oS_side oS_rights oS_passed oS_clock oS_number oS_keptMen oS_keptRest level).2.2.2.1), .int ((f_Mo_bringBack oS_men oS_side oS_rights oS_passed oS_clock oS_number oS_keptMen oS_keptRest level).2.2.2.2.1), .int ((f_Mo_bringBack oS_men oS_side oS_rights oS_passed oS_clock oS_number oS_keptMen oS_keptRest level).2.2.2.2.2), .int oS_plies, .ref o_pastMen, .ref o_pastSide, .ref o_pastRights, .ref o_pastPassed, .ref o_pastClock, .ref o_pastNumber, .ref o_pastTakes, .ref o_playedMoves, .ref o_keptMen, .ref o_keptRest, .ref o_lists, .ref o_counts])), (o_text, .inl (cC, 100, .inl oS_text)), (o_out, .inl (cC, 100, .inl oS_out)), (o_men, .inl (cI, 64, .inl ((f_Mo_bringBack oS_men oS_side oS_rights oS_passed oS_clock oS_number oS_keptMen oS_keptRest level).1))), (o_pastMen, .inl (cI, 25664, .inl oS_pastMen)), (o_pastSide, .inl (cI, 401, .inl oS_pastSide)), (o_pastRights, .inl (cI, 401, .inl oS_pastRights)), (o_pastPassed, .inl (cI, 401, .inl oS_pastPassed)), (o_pastClock, .inl (cI, 401, .inl oS_pastClock)), (o_pastNumber, .inl (cI, 401, .inl oS_pastNumber)), (o_pastTakes, .inl (cJ, 401, .inr (.inl oS_pastTakes))), (o_playedMoves, .inl (cI, 400, .inl oS_playedMoves)), (o_keptMen, .inl (cI, 384, .inl oS_keptMen)), (o_keptRest, .inl (cI, 30, .inl oS_keptRest)), (o_lists, .inl (cI, 8192, .inl oS_lists)), (o_counts, .inl (cI, 4, .inl oS_counts))] := by first | (rw [hv]; exact hD.sub [0, 1, 2, 3, 4, 5, 6, 7, 8, 9, 10, 11, 12, 13, 14, 15] (by decide) rfl) | exact hD.sub [0, 1, 2, 3, 4, 5, 6, 7, 8, 9, 10, 11, 12, 13, 14, 15] (by decide) rfl
        exact rw_retv hx hb hr hlocks hK hP9 hD9 hS dMo_bringBack_99
      · refine lv_aload_n hx hb dMo_bringBack_8 rfl (lv_at hl 0 rfl) ?_
        refine va_get (D := (dC, dI)) (ci := 6) (v := .ref o_men) (C := RMo) (T := TMo) (N := 24) hx hb hB inMo hown hK hP 0 rfl rfl 5 (by decide) (hB _ q5_16) (fun _ h9 => h9) rfl dMo_bringBack_9 ?_
        refine lv_iload_n hx hb dMo_bringBack_12 rfl (lv_at hl 2 rfl) ?_
        refine lv_aload_n hx hb dMo_bringBack_13 rfl (lv_at hl 0 rfl) ?_
        refine va_get (D := (dC, dI)) (ci := 6) (v := .ref o_keptMen) (C := RMo) (T := TMo) (N := 24) hx hb hB inMo hown hK hP 0 rfl rfl 20 (by decide) (hB _ q5_31) (fun _ h9 => h9) rfl dMo_bringBack_14 ?_
        refine lv_bipush (v := 64) hx hb dMo_bringBack_17 (by decide) ?_
        refine lv_iload_n hx hb dMo_bringBack_19 rfl (lv_at hl 1 rfl) ?_
        refine lv_imul hx hb dMo_bringBack_20 ?_
        refine lv_iload_n hx hb dMo_bringBack_21 rfl (lv_at hl 2 rfl) ?_
        refine lv_iadd hx hb dMo_bringBack_22 ?_
        refine va_iald hx hb hK hP 12 0 rfl rfl (lin_64_384 hv9.1 hv9.2 (by have z1 := tnle c_1; have y64 : (64 : Int32).toInt = 64 := rfl; omega) (by have z1 := tnle c_1; have y64 : (64 : Int32).toInt = 64 := rfl; omega)) dMo_bringBack_23 ?_
        refine va_iast hx hb hK hP hD hS 3 0 rfl rfl (vp_in_iff.mpr (by have z1 := tnle c_1; have y64 : (64 : Int32).toInt = 64 := rfl; omega)) dMo_bringBack_24 (fun H locs hP hD hS => ?_)
        have hP : va_P (dC, dI) vwCl [(o, .inr (6, [.int oS_thrown, .int oS_typed, .ref o_text, .int oS_told, .ref o_out, .ref o_men, .int oS_side, .int oS_rights, .int oS_passed, .int oS_clock, .int oS_number, .int oS_plies, .ref o_pastMen, .ref o_pastSide, .ref o_pastRights, .ref o_pastPassed, .ref o_pastClock, .ref o_pastNumber, .ref o_pastTakes, .ref o_playedMoves, .ref o_keptMen, .ref o_keptRest, .ref o_lists, .ref o_counts])), (o_text, .inl (cC, 100, .inl oS_text)), (o_out, .inl (cC, 100, .inl oS_out)), (o_men, .inl (cI, 64, .inl (upd W_o_men_2 v2_2.toNatClampNeg (oS_keptMen ((64 * level) + v2_2).toNatClampNeg)))), (o_pastMen, .inl (cI, 25664, .inl oS_pastMen)), (o_pastSide, .inl (cI, 401, .inl oS_pastSide)), (o_pastRights, .inl (cI, 401, .inl oS_pastRights)), (o_pastPassed, .inl (cI, 401, .inl oS_pastPassed)), (o_pastClock, .inl (cI, 401, .inl oS_pastClock)), (o_pastNumber, .inl (cI, 401, .inl oS_pastNumber)), (o_pastTakes, .inl (cJ, 401, .inr (.inl oS_pastTakes))), (o_playedMoves, .inl (cI, 400, .inl oS_playedMoves)), (o_keptMen, .inl (cI, 384, .inl oS_keptMen)), (o_keptRest, .inl (cI, 30, .inl oS_keptRest)), (o_lists, .inl (cI, 8192, .inl oS_lists)), (o_counts, .inl (cI, 4, .inl oS_counts))] H := hP
        have hD : va_D A [(o, .inr (6, [.int oS_thrown, .int oS_typed, .ref o_text, .int oS_told, .ref o_out, .ref o_men, .int oS_side, .int oS_rights, .int oS_passed, .int oS_clock, .int oS_number, .int oS_plies, .ref o_pastMen, .ref o_pastSide, .ref o_pastRights, .ref o_pastPassed, .ref o_pastClock, .ref o_pastNumber, .ref o_pastTakes, .ref o_playedMoves, .ref o_keptMen, .ref o_keptRest, .ref o_lists, .ref o_counts])), (o_text, .inl (cC, 100, .inl oS_text)), (o_out, .inl (cC, 100, .inl oS_out)), (o_men, .inl (cI, 64, .inl (upd W_o_men_2 v2_2.toNatClampNeg (oS_keptMen ((64 * level) + v2_2).toNatClampNeg)))), (o_pastMen, .inl (cI, 25664, .inl oS_pastMen)), (o_pastSide, .inl (cI, 401, .inl oS_pastSide)), (o_pastRights, .inl (cI, 401, .inl oS_pastRights)), (o_pastPassed, .inl (cI, 401, .inl oS_pastPassed)), (o_pastClock, .inl (cI, 401, .inl oS_pastClock)), (o_pastNumber, .inl (cI, 401, .inl oS_pastNumber)), (o_pastTakes, .inl (cJ, 401, .inr (.inl oS_pastTakes))), (o_playedMoves, .inl (cI, 400, .inl oS_playedMoves)), (o_keptMen, .inl (cI, 384, .inl oS_keptMen)), (o_keptRest, .inl (cI, 30, .inl oS_keptRest)), (o_lists, .inl (cI, 8192, .inl oS_lists)), (o_counts, .inl (cI, 4, .inl oS_counts))] := hD
        refine lv_iinc (v := v2_2 + 1) (lv' := [(2, .int (v2_2 + 1)), (0, .ref o), (1, .int level)]) hx hb dMo_bringBack_25 hl (k := 2) rfl rfl (by decide) rfl (fun ls hl => ?_)
        refine lv_goto (tgt := 2) hx hb dMo_bringBack_28 (by decide) ?_
        exact ih_2 (v2_2 + 1) (upd W_o_men_2 v2_2.toNatClampNeg (oS_keptMen ((64 * level) + v2_2).toNatClampNeg)) (he_2.trans (by rw [f_Mo_bringBack_2_eq, if_neg c_1] <;> rfl)) (by have z1 := tnle c_1; have y64 : (64 : Int32).toInt = 64 := rfl; have zr := i_rng (64 : Int32); have zs := i_succ9 v2_2 (by omega); omega) _ _ (hP.sub [0, 1, 2, 3, 4, 5, 6, 7, 8, 9, 10, 11, 12, 13, 14, 15] rfl) (hD.sub [0, 1, 2, 3, 4, 5, 6, 7, 8, 9, 10, 11, 12, 13, 14, 15] (by decide) rfl) hS ls (lv_sub hl [1, 2, 0] rfl)
  exact J_2 (65) 0 oS_men (by rw [f_Mo_bringBack_eq] <;> rfl) (by decide) _ _ (hP.sub [0, 1, 2, 3, 4, 5, 6, 7, 8, 9, 10, 11, 12, 13, 14, 15] rfl) (hD.sub [0, 1, 2, 3, 4, 5, 6, 7, 8, 9, 10, 11, 12, 13, 14, 15] (by decide) rfl) hS ls (lv_sub hl [1, 2, 0] rfl)

abbrev cMo_goTo : ByteArray := prog_11_method_26_code
def yMo_goTo : MethodName := ⟨"ChessRulesModel", "goTo", "(I)V"⟩
def wsMo_goTo : List Cond := Cond.code yMo_goTo cMo_goTo 3 none :: BIG
theorem dMo_goTo_0 : decode cMo_goTo 0 = .ok (.aload_n 0, 1) := by decide +kernel
theorem dMo_goTo_1 : decode cMo_goTo 1 = .ok (.iload_n 1, 1) := by decide +kernel
theorem dMo_goTo_2 : decode cMo_goTo 2 = .ok (.putfield 153, 3) := by decide +kernel
theorem dMo_goTo_5 : decode cMo_goTo 5 = .ok (.iconst 0, 1) := by decide +kernel
theorem dMo_goTo_6 : decode cMo_goTo 6 = .ok (.istore_n 2, 1) := by decide +kernel
theorem dMo_goTo_7 : decode cMo_goTo 7 = .ok (.iload_n 2, 1) := by decide +kernel
theorem dMo_goTo_8 : decode cMo_goTo 8 = .ok (.bipush 64, 2) := by decide +kernel
theorem dMo_goTo_10 : decode cMo_goTo 10 = .ok (.if_icmp .ge 26, 3) := by decide +kernel
theorem dMo_goTo_13 : decode cMo_goTo 13 = .ok (.aload_n 0, 1) := by decide +kernel
theorem dMo_goTo_14 : decode cMo_goTo 14 = .ok (.getfield 16, 3) := by decide +kernel
theorem dMo_goTo_17 : decode cMo_goTo 17 = .ok (.iload_n 2, 1) := by decide +kernel
theorem dMo_goTo_18 : decode cMo_goTo 18 = .ok (.aload_n 0, 1) := by decide +kernel
theorem dMo_goTo_19 : decode cMo_goTo 19 = .ok (.getfield 30, 3) := by decide +kernel
theorem dMo_goTo_22 : decode cMo_goTo 22 = .ok (.bipush 64, 2) := by decide +kernel
theorem dMo_goTo_24 : decode cMo_goTo 24 = .ok (.iload_n 1, 1) := by decide +kernel
theorem dMo_goTo_25 : decode cMo_goTo 25 = .ok (.imul, 1) := by decide +kernel
theorem dMo_goTo_26 : decode cMo_goTo 26 = .ok (.iload_n 2, 1) := by decide +kernel
theorem dMo_goTo_27 : decode cMo_goTo 27 = .ok (.iadd, 1) := by decide +kernel
theorem dMo_goTo_28 : decode cMo_goTo 28 = .ok (.iaload, 1) := by decide +kernel
theorem dMo_goTo_29 : decode cMo_goTo 29 = .ok (.iastore, 1) := by decide +kernel
theorem dMo_goTo_30 : decode cMo_goTo 30 = .ok (.iinc 2 1, 3) := by decide +kernel
theorem dMo_goTo_33 : decode cMo_goTo 33 = .ok (.goto (-26), 3) := by decide +kernel
theorem dMo_goTo_36 : decode cMo_goTo 36 = .ok (.aload_n 0, 1) := by decide +kernel
theorem dMo_goTo_37 : decode cMo_goTo 37 = .ok (.aload_n 0, 1) := by decide +kernel
theorem dMo_goTo_38 : decode cMo_goTo 38 = .ok (.getfield 33, 3) := by decide +kernel
theorem dMo_goTo_41 : decode cMo_goTo 41 = .ok (.iload_n 1, 1) := by decide +kernel
theorem dMo_goTo_42 : decode cMo_goTo 42 = .ok (.iaload, 1) := by decide +kernel
theorem dMo_goTo_43 : decode cMo_goTo 43 = .ok (.putfield 106, 3) := by decide +kernel
theorem dMo_goTo_46 : decode cMo_goTo 46 = .ok (.aload_n 0, 1) := by decide +kernel
theorem dMo_goTo_47 : decode cMo_goTo 47 = .ok (.aload_n 0, 1) := by decide +kernel
theorem dMo_goTo_48 : decode cMo_goTo 48 = .ok (.getfield 36, 3) := by decide +kernel
theorem dMo_goTo_51 : decode cMo_goTo 51 = .ok (.iload_n 1, 1) := by decide +kernel
theorem dMo_goTo_52 : decode cMo_goTo 52 = .ok (.iaload, 1) := by decide +kernel
theorem dMo_goTo_53 : decode cMo_goTo 53 = .ok (.putfield 20, 3) := by decide +kernel
theorem dMo_goTo_56 : decode cMo_goTo 56 = .ok (.aload_n 0, 1) := by decide +kernel
theorem dMo_goTo_57 : decode cMo_goTo 57 = .ok (.aload_n 0, 1) := by decide +kernel
theorem dMo_goTo_58 : decode cMo_goTo 58 = .ok (.getfield 39, 3) := by decide +kernel
theorem dMo_goTo_61 : decode cMo_goTo 61 = .ok (.iload_n 1, 1) := by decide +kernel
theorem dMo_goTo_62 : decode cMo_goTo 62 = .ok (.iaload, 1) := by decide +kernel
theorem dMo_goTo_63 : decode cMo_goTo 63 = .ok (.putfield 24, 3) := by decide +kernel
theorem dMo_goTo_66 : decode cMo_goTo 66 = .ok (.aload_n 0, 1) := by decide +kernel
theorem dMo_goTo_67 : decode cMo_goTo 67 = .ok (.aload_n 0, 1) := by decide +kernel
theorem dMo_goTo_68 : decode cMo_goTo 68 = .ok (.getfield 42, 3) := by decide +kernel
theorem dMo_goTo_71 : decode cMo_goTo 71 = .ok (.iload_n 1, 1) := by decide +kernel
theorem dMo_goTo_72 : decode cMo_goTo 72 = .ok (.iaload, 1) := by decide +kernel
theorem dMo_goTo_73 : decode cMo_goTo 73 = .ok (.putfield 125, 3) := by decide +kernel
theorem dMo_goTo_76 : decode cMo_goTo 76 = .ok (.aload_n 0, 1) := by decide +kernel
theorem dMo_goTo_77 : decode cMo_goTo 77 = .ok (.aload_n 0, 1) := by decide +kernel
theorem dMo_goTo_78 : decode cMo_goTo 78 = .ok (.getfield 45, 3) := by decide +kernel
theorem dMo_goTo_81 : decode cMo_goTo 81 = .ok (.iload_n 1, 1) := by decide +kernel
theorem dMo_goTo_82 : decode cMo_goTo 82 = .ok (.iaload, 1) := by decide +kernel
theorem dMo_goTo_83 : decode cMo_goTo 83 = .ok (.putfield 27, 3) := by decide +kernel
theorem dMo_goTo_86 : decode cMo_goTo 86 = .ok (.return_, 1) := by decide +kernel

def f_Mo_goTo_7 (oS_men : Nat → Int32) (oS_side : Int32) (oS_rights : Int32) (oS_passed : Int32) (oS_clock : Int32) (oS_number : Int32) (oS_plies : Int32) (oS_pastMen : Nat → Int32) (oS_pastSide : Nat → Int32) (oS_pastRights : Nat → Int32) (oS_pastPassed : Nat → Int32) (oS_pastClock : Nat → Int32) (oS_pastNumber : Nat → Int32) (ply : Int32) : Nat → Int32 → (Nat → Int32) → ((Nat → Int32) × Int32 × Int32 × Int32 × Int32 × Int32 × Int32)
  | 0 => fun _ _ => (oS_men, oS_side, oS_rights, oS_passed, oS_clock, oS_number, oS_plies)
  | n_7 + 1 => fun v2_7 W_o_men_7 => (if 64 ≤ v2_7 then (W_o_men_7, oS_pastSide ply.toNatClampNeg, oS_pastRights ply.toNatClampNeg, oS_pastPassed ply.toNatClampNeg, oS_pastClock ply.toNatClampNeg, oS_pastNumber ply.toNatClampNeg, ply) else (f_Mo_goTo_7 oS_men oS_side oS_rights oS_passed oS_clock oS_number oS_plies oS_pastMen oS_pastSide oS_pastRights oS_pastPassed oS_pastClock oS_pastNumber ply n_7) (v2_7 + 1) (upd W_o_men_7 v2_7.toNatClampNeg (oS_pastMen ((64 * ply) + v2_7).toNatClampNeg)))
theorem f_Mo_goTo_7_eq (oS_men : Nat → Int32) (oS_side : Int32) (oS_rights : Int32) (oS_passed : Int32) (oS_clock : Int32) (oS_number : Int32) (oS_plies : Int32) (oS_pastMen : Nat → Int32) (oS_pastSide : Nat → Int32) (oS_pastRights : Nat → Int32) (oS_pastPassed : Nat → Int32) (oS_pastClock : Nat → Int32) (oS_pastNumber : Nat → Int32) (ply : Int32) (n_7 : Nat) (v2_7 : Int32) (W_o_men_7 : (Nat → Int32)) : f_Mo_goTo_7 oS_men oS_side oS_rights oS_passed oS_clock oS_number oS_plies oS_pastMen oS_pastSide oS_pastRights oS_pastPassed oS_pastClock oS_pastNumber ply (n_7 + 1) v2_7 W_o_men_7 =
  (if 64 ≤ v2_7 then (W_o_men_7, oS_pastSide ply.toNatClampNeg, oS_pastRights ply.toNatClampNeg, oS_pastPassed ply.toNatClampNeg, oS_pastClock ply.toNatClampNeg, oS_pastNumber ply.toNatClampNeg, ply) else (f_Mo_goTo_7 oS_men oS_side oS_rights oS_passed oS_clock oS_number oS_plies oS_pastMen oS_pastSide oS_pastRights oS_pastPassed oS_pastClock oS_pastNumber ply n_7) (v2_7 + 1) (upd W_o_men_7 v2_7.toNatClampNeg (oS_pastMen ((64 * ply) + v2_7).toNatClampNeg))) := rfl

def f_Mo_goTo (oS_men : Nat → Int32) (oS_side : Int32) (oS_rights : Int32) (oS_passed : Int32) (oS_clock : Int32) (oS_number : Int32) (oS_plies : Int32) (oS_pastMen : Nat → Int32) (oS_pastSide : Nat → Int32) (oS_pastRights : Nat → Int32) (oS_pastPassed : Nat → Int32) (oS_pastClock : Nat → Int32) (oS_pastNumber : Nat → Int32) (ply : Int32) : (Nat → Int32) × Int32 × Int32 × Int32 × Int32 × Int32 × Int32 :=
  f_Mo_goTo_7 oS_men oS_side oS_rights oS_passed oS_clock oS_number oS_plies oS_pastMen oS_pastSide oS_pastRights oS_pastPassed oS_pastClock oS_pastNumber ply (65) 0 oS_men
theorem f_Mo_goTo_eq (oS_men : Nat → Int32) (oS_side : Int32) (oS_rights : Int32) (oS_passed : Int32) (oS_clock : Int32) (oS_number : Int32) (oS_plies : Int32) (oS_pastMen : Nat → Int32) (oS_pastSide : Nat → Int32) (oS_pastRights : Nat → Int32) (oS_pastPassed : Nat → Int32) (oS_pastClock : Nat → Int32) (oS_pastNumber : Nat → Int32) (ply : Int32) : f_Mo_goTo oS_men oS_side oS_rights oS_passed oS_clock oS_number oS_plies oS_pastMen oS_pastSide oS_pastRights oS_pastPassed oS_pastClock oS_pastNumber ply =
  f_Mo_goTo_7 oS_men oS_side oS_rights oS_passed oS_clock oS_number oS_plies oS_pastMen oS_pastSide oS_pastRights oS_pastPassed oS_pastClock oS_pastNumber ply (65) 0 oS_men := rfl

set_option maxHeartbeats 4000000 in
set_option maxRecDepth 100000 in
theorem c_Mo_goTo (l : Launch) (dC : Nat → ClassId) (dI : Nat → Nat → Nat) (cI cJ cC : ClassId) (ad : Nat → Nat) (o o_text o_out o_men o_pastMen o_pastSide o_pastRights o_pastPassed o_pastClock o_pastNumber o_pastTakes o_playedMoves o_keptMen o_keptRest o_lists o_counts : Nat) (sz : Nat) (oS_thrown : Int32) (oS_typed : Int32) (oS_text : Nat → Int32) (oS_told : Int32) (oS_out : Nat → Int32) (oS_men : Nat → Int32) (oS_side : Int32) (oS_rights : Int32) (oS_passed : Int32) (oS_clock : Int32) (oS_number : Int32) (oS_plies : Int32) (oS_pastMen : Nat → Int32) (oS_pastSide : Nat → Int32) (oS_pastRights : Nat → Int32) (oS_pastPassed : Nat → Int32) (oS_pastClock : Nat → Int32) (oS_pastNumber : Nat → Int32) (oS_pastTakes : Nat → Int64) (oS_playedMoves : Nat → Int32) (oS_keptMen : Nat → Int32) (oS_keptRest : Nat → Int32) (oS_lists : Nat → Int32) (oS_counts : Nat → Int32) (ply : Int32) (hp : 0 ≤ ply.toInt ∧ ply.toInt ≤ 400) : Met l yMo_goTo wsMo_goTo { frames := 0, cells := 0, slots := 0, locals := 0 } (rwP dC dI (TYS cI cJ cC) [.ref o, .int ply] [(o, .inr (6, [.int oS_thrown, .int oS_typed, .ref o_text, .int oS_told, .ref o_out, .ref o_men, .int oS_side, .int oS_rights, .int oS_passed, .int oS_clock, .int oS_number, .int oS_plies, .ref o_pastMen, .ref o_pastSide, .ref o_pastRights, .ref o_pastPassed, .ref o_pastClock, .ref o_pastNumber, .ref o_pastTakes, .ref o_playedMoves, .ref o_keptMen, .ref o_keptRest, .ref o_lists, .ref o_counts])), (o_text, .inl (cC, 100, .inl oS_text)), (o_out, .inl (cC, 100, .inl oS_out)), (o_men, .inl (cI, 64, .inl oS_men)), (o_pastMen, .inl (cI, 25664, .inl oS_pastMen)), (o_pastSide, .inl (cI, 401, .inl oS_pastSide)), (o_pastRights, .inl (cI, 401, .inl oS_pastRights)), (o_pastPassed, .inl (cI, 401, .inl oS_pastPassed)), (o_pastClock, .inl (cI, 401, .inl oS_pastClock)), (o_pastNumber, .inl (cI, 401, .inl oS_pastNumber)), (o_pastTakes, .inl (cJ, 401, .inr (.inl oS_pastTakes))), (o_playedMoves, .inl (cI, 400, .inl oS_playedMoves)), (o_keptMen, .inl (cI, 384, .inl oS_keptMen)), (o_keptRest, .inl (cI, 30, .inl oS_keptRest)), (o_lists, .inl (cI, 8192, .inl oS_lists)), (o_counts, .inl (cI, 4, .inl oS_counts))] sz (GS ad)) (va_Qv (fun _ : Unit => True) (rwB dC dI (TYS cI cJ cC) [(o, .inr (6, [.int oS_thrown, .int oS_typed, .ref o_text, .int oS_told, .ref o_out, .ref o_men, .int ((f_Mo_goTo oS_men oS_side oS_rights oS_passed oS_clock oS_number oS_plies oS_pastMen oS_pastSide oS_pastRights oS_pastPassed oS_pastClock oS_pastNumber ply).2.1), .int ((f_Mo_goTo oS_men oS_side oS_rights oS_passed oS_clock oS_number oS_plies oS_pastMen oS_pastSide oS_pastRights oS_pastPassed oS_pastClock oS_pastNumber ply).2.2.1), .int ((f_Mo_goTo oS_men oS_side oS_rights oS_passed oS_clock oS_number oS_plies oS_pastMen oS_pastSide oS_pastRights oS_pastPassed oS_pastClock oS_pastNumber ply).2.2.2.1), .int ((f_Mo_goTo oS_men oS_side oS_rights oS_passed oS_clock oS_number oS_plies oS_pastMen oS_pastSide oS_pastRights oS_pastPassed oS_pastClock oS_pastNumber ply).2.2.2.2.1), .int ((f_Mo_goTo oS_men oS_side oS_rights oS_passed oS_clock oS_number oS_plies oS_pastMen oS_pastSide oS_pastRights oS_pastPassed oS_pastClock oS_pastNumber ply).2.2.2.2.2.1), .int ((f_Mo_goTo oS_men oS_side oS_rights oS_passed oS_clock oS_number oS_plies oS_pastMen oS_pastSide oS_pastRights oS_pastPassed oS_pastClock oS_pastNumber ply).2.2.2.2.2.2), .ref o_pastMen, .ref o_pastSide, .ref o_pastRights, .ref o_pastPassed, .ref o_pastClock, .ref o_pastNumber, .ref o_pastTakes, .ref o_playedMoves, .ref o_keptMen, .ref o_keptRest, .ref o_lists, .ref o_counts])), (o_text, .inl (cC, 100, .inl oS_text)), (o_out, .inl (cC, 100, .inl oS_out)), (o_men, .inl (cI, 64, .inl ((f_Mo_goTo oS_men oS_side oS_rights oS_passed oS_clock oS_number oS_plies oS_pastMen oS_pastSide oS_pastRights oS_pastPassed oS_pastClock oS_pastNumber ply).1))), (o_pastMen, .inl (cI, 25664, .inl oS_pastMen)), (o_pastSide, .inl (cI, 401, .inl oS_pastSide)), (o_pastRights, .inl (cI, 401, .inl oS_pastRights)), (o_pastPassed, .inl (cI, 401, .inl oS_pastPassed)), (o_pastClock, .inl (cI, 401, .inl oS_pastClock)), (o_pastNumber, .inl (cI, 401, .inl oS_pastNumber)), (o_pastTakes, .inl (cJ, 401, .inr (.inl oS_pastTakes))), (o_playedMoves, .inl (cI, 400, .inl oS_playedMoves)), (o_keptMen, .inl (cI, 384, .inl oS_keptMen)), (o_keptRest, .inl (cI, 30, .inl oS_keptRest)), (o_lists, .inl (cI, 8192, .inl oS_lists)), (o_counts, .inl (cI, 4, .inl oS_counts))] (va_A [(o, .inr (6, [.int oS_thrown, .int oS_typed, .ref o_text, .int oS_told, .ref o_out, .ref o_men, .int oS_side, .int oS_rights, .int oS_passed, .int oS_clock, .int oS_number, .int oS_plies, .ref o_pastMen, .ref o_pastSide, .ref o_pastRights, .ref o_pastPassed, .ref o_pastClock, .ref o_pastNumber, .ref o_pastTakes, .ref o_playedMoves, .ref o_keptMen, .ref o_keptRest, .ref o_lists, .ref o_counts])), (o_text, .inl (cC, 100, .inl oS_text)), (o_out, .inl (cC, 100, .inl oS_out)), (o_men, .inl (cI, 64, .inl oS_men)), (o_pastMen, .inl (cI, 25664, .inl oS_pastMen)), (o_pastSide, .inl (cI, 401, .inl oS_pastSide)), (o_pastRights, .inl (cI, 401, .inl oS_pastRights)), (o_pastPassed, .inl (cI, 401, .inl oS_pastPassed)), (o_pastClock, .inl (cI, 401, .inl oS_pastClock)), (o_pastNumber, .inl (cI, 401, .inl oS_pastNumber)), (o_pastTakes, .inl (cJ, 401, .inr (.inl oS_pastTakes))), (o_playedMoves, .inl (cI, 400, .inl oS_playedMoves)), (o_keptMen, .inl (cI, 384, .inl oS_keptMen)), (o_keptRest, .inl (cI, 30, .inl oS_keptRest)), (o_lists, .inl (cI, 8192, .inl oS_lists)), (o_counts, .inl (cI, 4, .inl oS_counts))] sz)) (va_A [(o, .inr (6, [.int oS_thrown, .int oS_typed, .ref o_text, .int oS_told, .ref o_out, .ref o_men, .int oS_side, .int oS_rights, .int oS_passed, .int oS_clock, .int oS_number, .int oS_plies, .ref o_pastMen, .ref o_pastSide, .ref o_pastRights, .ref o_pastPassed, .ref o_pastClock, .ref o_pastNumber, .ref o_pastTakes, .ref o_playedMoves, .ref o_keptMen, .ref o_keptRest, .ref o_lists, .ref o_counts])), (o_text, .inl (cC, 100, .inl oS_text)), (o_out, .inl (cC, 100, .inl oS_out)), (o_men, .inl (cI, 64, .inl oS_men)), (o_pastMen, .inl (cI, 25664, .inl oS_pastMen)), (o_pastSide, .inl (cI, 401, .inl oS_pastSide)), (o_pastRights, .inl (cI, 401, .inl oS_pastRights)), (o_pastPassed, .inl (cI, 401, .inl oS_pastPassed)), (o_pastClock, .inl (cI, 401, .inl oS_pastClock)), (o_pastNumber, .inl (cI, 401, .inl oS_pastNumber)), (o_pastTakes, .inl (cJ, 401, .inr (.inl oS_pastTakes))), (o_playedMoves, .inl (cI, 400, .inl oS_playedMoves)), (o_keptMen, .inl (cI, 384, .inl oS_keptMen)), (o_keptRest, .inl (cI, 30, .inl oS_keptRest)), (o_lists, .inl (cI, 8192, .inl oS_lists)), (o_counts, .inl (cI, 4, .inl oS_counts))] sz)) 0 0 (va_A [(o, .inr (6, [.int oS_thrown, .int oS_typed, .ref o_text, .int oS_told, .ref o_out, .ref o_men, .int oS_side, .int oS_rights, .int oS_passed, .int oS_clock, .int oS_number, .int oS_plies, .ref o_pastMen, .ref o_pastSide, .ref o_pastRights, .ref o_pastPassed, .ref o_pastClock, .ref o_pastNumber, .ref o_pastTakes, .ref o_playedMoves, .ref o_keptMen, .ref o_keptRest, .ref o_lists, .ref o_counts])), (o_text, .inl (cC, 100, .inl oS_text)), (o_out, .inl (cC, 100, .inl oS_out)), (o_men, .inl (cI, 64, .inl oS_men)), (o_pastMen, .inl (cI, 25664, .inl oS_pastMen)), (o_pastSide, .inl (cI, 401, .inl oS_pastSide)), (o_pastRights, .inl (cI, 401, .inl oS_pastRights)), (o_pastPassed, .inl (cI, 401, .inl oS_pastPassed)), (o_pastClock, .inl (cI, 401, .inl oS_pastClock)), (o_pastNumber, .inl (cI, 401, .inl oS_pastNumber)), (o_pastTakes, .inl (cJ, 401, .inr (.inl oS_pastTakes))), (o_playedMoves, .inl (cI, 400, .inl oS_playedMoves)), (o_keptMen, .inl (cI, 384, .inl oS_keptMen)), (o_keptRest, .inl (cI, 30, .inl oS_keptRest)), (o_lists, .inl (cI, 8192, .inl oS_lists)), (o_counts, .inl (cI, 4, .inl oS_counts))] sz) := by
  refine Met.ofW (cc := cMo_goTo) (maxL := 3) (ret := none) (by decide) rfl ?_
  intro p e s m args below meth c s₁ B hml hv
  obtain ⟨rfl, hsz, hP, hK, hD0, hG⟩ := hv
  have hx := B.exec
  have hb := B.bytes
  have hr := B.returns
  have hB : ∀ w9 ∈ BIG, w9.before ([.ref o, .int ply]).toArray s = true := fun w9 h => atoms_spec (ws := wsMo_goTo) B.pre w9 (List.mem_cons_of_mem _ h)
  have hown : s.vm.findClass "ChessRulesModel" = some m.cls := findClass_of_methodNamed B.named
  have hlocks := B.notSynchronized
  subst hsz
  have hD := hD0.self (sz := s.heap.size)
  generalize hAe : va_A [(o, .inr (6, [.int oS_thrown, .int oS_typed, .ref o_text, .int oS_told, .ref o_out, .ref o_men, .int oS_side, .int oS_rights, .int oS_passed, .int oS_clock, .int oS_number, .int oS_plies, .ref o_pastMen, .ref o_pastSide, .ref o_pastRights, .ref o_pastPassed, .ref o_pastClock, .ref o_pastNumber, .ref o_pastTakes, .ref o_playedMoves, .ref o_keptMen, .ref o_keptRest, .ref o_lists, .ref o_counts])), (o_text, .inl (cC, 100, .inl oS_text)), (o_out, .inl (cC, 100, .inl oS_out)), (o_men, .inl (cI, 64, .inl oS_men)), (o_pastMen, .inl (cI, 25664, .inl oS_pastMen)), (o_pastSide, .inl (cI, 401, .inl oS_pastSide)), (o_pastRights, .inl (cI, 401, .inl oS_pastRights)), (o_pastPassed, .inl (cI, 401, .inl oS_pastPassed)), (o_pastClock, .inl (cI, 401, .inl oS_pastClock)), (o_pastNumber, .inl (cI, 401, .inl oS_pastNumber)), (o_pastTakes, .inl (cJ, 401, .inr (.inl oS_pastTakes))), (o_playedMoves, .inl (cI, 400, .inl oS_playedMoves)), (o_keptMen, .inl (cI, 384, .inl oS_keptMen)), (o_keptRest, .inl (cI, 30, .inl oS_keptRest)), (o_lists, .inl (cI, 8192, .inl oS_lists)), (o_counts, .inl (cI, 4, .inl oS_counts))] s.heap.size = A at hD hG ⊢
  have hA : ∀ q : Nat, s.heap.size ≤ q → A q := fun q h => by rw [← hAe]; exact Or.inr h
  have hS : va_S A s.heap s.heap [] := va_S.rf
  have hP : va_P (dC, dI) vwCl [(o, .inr (6, [.int oS_thrown, .int oS_typed, .ref o_text, .int oS_told, .ref o_out, .ref o_men, .int oS_side, .int oS_rights, .int oS_passed, .int oS_clock, .int oS_number, .int oS_plies, .ref o_pastMen, .ref o_pastSide, .ref o_pastRights, .ref o_pastPassed, .ref o_pastClock, .ref o_pastNumber, .ref o_pastTakes, .ref o_playedMoves, .ref o_keptMen, .ref o_keptRest, .ref o_lists, .ref o_counts])), (o_text, .inl (cC, 100, .inl oS_text)), (o_out, .inl (cC, 100, .inl oS_out)), (o_men, .inl (cI, 64, .inl oS_men)), (o_pastMen, .inl (cI, 25664, .inl oS_pastMen)), (o_pastSide, .inl (cI, 401, .inl oS_pastSide)), (o_pastRights, .inl (cI, 401, .inl oS_pastRights)), (o_pastPassed, .inl (cI, 401, .inl oS_pastPassed)), (o_pastClock, .inl (cI, 401, .inl oS_pastClock)), (o_pastNumber, .inl (cI, 401, .inl oS_pastNumber)), (o_pastTakes, .inl (cJ, 401, .inr (.inl oS_pastTakes))), (o_playedMoves, .inl (cI, 400, .inl oS_playedMoves)), (o_keptMen, .inl (cI, 384, .inl oS_keptMen)), (o_keptRest, .inl (cI, 30, .inl oS_keptRest)), (o_lists, .inl (cI, 8192, .inl oS_lists)), (o_counts, .inl (cI, 4, .inl oS_counts))] s.heap := hP
  have hl := lv_entry ([.ref o, .int ply]) (n := 3) (Nat.le_of_ble_eq_true rfl)
  rw [lg_entry_eq]
  generalize (lg_sl ([.ref o, .int ply]) ++ List.replicate (3 - (lg_sl ([.ref o, .int ply])).length) Slot.unset).toArray = ls at hl ⊢
  have hl : lv_has ls 3 [(0, .ref o), (1, .int ply)] := hl
  refine lv_aload_n hx hb dMo_goTo_0 rfl (lv_at hl 0 rfl) ?_
  refine lv_iload_n hx hb dMo_goTo_1 rfl (lv_at hl 1 rfl) ?_
  refine va_put (D := (dC, dI)) (ci := 6) (v := .int ply) (ty := .int) (C := RMo) (T := TMo) (N := 24) hx hb hB inMo tyMo tyMo_ok nmMo hown hK hP hD hS 0 rfl rfl 11 (by decide) (hB _ q5_22) (fun _ h9 => h9) rfl (by decide +kernel) rfl rfl (Nat.le_of_ble_eq_true rfl) dMo_goTo_2 (fun H locs hP hD hS => ?_)
  have hP : va_P (dC, dI) vwCl [(o, .inr (6, [.int oS_thrown, .int oS_typed, .ref o_text, .int oS_told, .ref o_out, .ref o_men, .int oS_side, .int oS_rights, .int oS_passed, .int oS_clock, .int oS_number, .int ply, .ref o_pastMen, .ref o_pastSide, .ref o_pastRights, .ref o_pastPassed, .ref o_pastClock, .ref o_pastNumber, .ref o_pastTakes, .ref o_playedMoves, .ref o_keptMen, .ref o_keptRest, .ref o_lists, .ref o_counts])), (o_text, .inl (cC, 100, .inl oS_text)), (o_out, .inl (cC, 100, .inl oS_out)), (o_men, .inl (cI, 64, .inl oS_men)), (o_pastMen, .inl (cI, 25664, .inl oS_pastMen)), (o_pastSide, .inl (cI, 401, .inl oS_pastSide)), (o_pastRights, .inl (cI, 401, .inl oS_pastRights)), (o_pastPassed, .inl (cI, 401, .inl oS_pastPassed)), (o_pastClock, .inl (cI, 401, .inl oS_pastClock)), (o_pastNumber, .inl (cI, 401, .inl oS_pastNumber)), (o_pastTakes, .inl (cJ, 401, .inr (.inl oS_pastTakes))), (o_playedMoves, .inl (cI, 400, .inl oS_playedMoves)), (o_keptMen, .inl (cI, 384, .inl oS_keptMen)), (o_keptRest, .inl (cI, 30, .inl oS_keptRest)), (o_lists, .inl (cI, 8192, .inl oS_lists)), (o_counts, .inl (cI, 4, .inl oS_counts))] H := hP
  have hD : va_D A [(o, .inr (6, [.int oS_thrown, .int oS_typed, .ref o_text, .int oS_told, .ref o_out, .ref o_men, .int oS_side, .int oS_rights, .int oS_passed, .int oS_clock, .int oS_number, .int ply, .ref o_pastMen, .ref o_pastSide, .ref o_pastRights, .ref o_pastPassed, .ref o_pastClock, .ref o_pastNumber, .ref o_pastTakes, .ref o_playedMoves, .ref o_keptMen, .ref o_keptRest, .ref o_lists, .ref o_counts])), (o_text, .inl (cC, 100, .inl oS_text)), (o_out, .inl (cC, 100, .inl oS_out)), (o_men, .inl (cI, 64, .inl oS_men)), (o_pastMen, .inl (cI, 25664, .inl oS_pastMen)), (o_pastSide, .inl (cI, 401, .inl oS_pastSide)), (o_pastRights, .inl (cI, 401, .inl oS_pastRights)), (o_pastPassed, .inl (cI, 401, .inl oS_pastPassed)), (o_pastClock, .inl (cI, 401, .inl oS_pastClock)), (o_pastNumber, .inl (cI, 401, .inl oS_pastNumber)), (o_pastTakes, .inl (cJ, 401, .inr (.inl oS_pastTakes))), (o_playedMoves, .inl (cI, 400, .inl oS_playedMoves)), (o_keptMen, .inl (cI, 384, .inl oS_keptMen)), (o_keptRest, .inl (cI, 30, .inl oS_keptRest)), (o_lists, .inl (cI, 8192, .inl oS_lists)), (o_counts, .inl (cI, 4, .inl oS_counts))] := hD
  refine lv_iconst (v := 0) hx hb dMo_goTo_5 (by decide) ?_
  refine lv_istore_n (lv' := [(2, .int 0), (0, .ref o), (1, .int ply)]) hx hb dMo_goTo_6 rfl hl (by decide) rfl (fun ls hl => ?_)
  have J_7 : ∀ (n_7 : Nat) (v2_7 : Int32) (W_o_men_7 : (Nat → Int32)), f_Mo_goTo oS_men oS_side oS_rights oS_passed oS_clock oS_number oS_plies oS_pastMen oS_pastSide oS_pastRights oS_pastPassed oS_pastClock oS_pastNumber ply = f_Mo_goTo_7 oS_men oS_side oS_rights oS_passed oS_clock oS_number oS_plies oS_pastMen oS_pastSide oS_pastRights oS_pastPassed oS_pastClock oS_pastNumber ply n_7 v2_7 W_o_men_7 → ((0 : Int) ≤ v2_7.toInt ∧ (64 : Int32).toInt - v2_7.toInt + 1 ≤ (n_7 : Int) ∧ (1 : Int) ≤ (n_7 : Int)) → ∀ (H : Heap) (locs : List Loc), va_P (dC, dI) vwCl [(o, .inr (6, [.int oS_thrown, .int oS_typed, .ref o_text, .int oS_told, .ref o_out, .ref o_men, .int oS_side, .int oS_rights, .int oS_passed, .int oS_clock, .int oS_number, .int ply, .ref o_pastMen, .ref o_pastSide, .ref o_pastRights, .ref o_pastPassed, .ref o_pastClock, .ref o_pastNumber, .ref o_pastTakes, .ref o_playedMoves, .ref o_keptMen, .ref o_keptRest, .ref o_lists, .ref o_counts])), (o_text, .inl (cC, 100, .inl oS_text)), (o_out, .inl (cC, 100, .inl oS_out)), (o_men, .inl (cI, 64, .inl W_o_men_7)), (o_pastMen, .inl (cI, 25664, .inl oS_pastMen)), (o_pastSide, .inl (cI, 401, .inl oS_pastSide)), (o_pastRights, .inl (cI, 401, .inl oS_pastRights)), (o_pastPassed, .inl (cI, 401, .inl oS_pastPassed)), (o_pastClock, .inl (cI, 401, .inl oS_pastClock)), (o_pastNumber, .inl (cI, 401, .inl oS_pastNumber)), (o_pastTakes, .inl (cJ, 401, .inr (.inl oS_pastTakes))), (o_playedMoves, .inl (cI, 400, .inl oS_playedMoves)), (o_keptMen, .inl (cI, 384, .inl oS_keptMen)), (o_keptRest, .inl (cI, 30, .inl oS_keptRest)), (o_lists, .inl (cI, 8192, .inl oS_lists)), (o_counts, .inl (cI, 4, .inl oS_counts))] H → va_D A [(o, .inr (6, [.int oS_thrown, .int oS_typed, .ref o_text, .int oS_told, .ref o_out, .ref o_men, .int oS_side, .int oS_rights, .int oS_passed, .int oS_clock, .int oS_number, .int ply, .ref o_pastMen, .ref o_pastSide, .ref o_pastRights, .ref o_pastPassed, .ref o_pastClock, .ref o_pastNumber, .ref o_pastTakes, .ref o_playedMoves, .ref o_keptMen, .ref o_keptRest, .ref o_lists, .ref o_counts])), (o_text, .inl (cC, 100, .inl oS_text)), (o_out, .inl (cC, 100, .inl oS_out)), (o_men, .inl (cI, 64, .inl W_o_men_7)), (o_pastMen, .inl (cI, 25664, .inl oS_pastMen)), (o_pastSide, .inl (cI, 401, .inl oS_pastSide)), (o_pastRights, .inl (cI, 401, .inl oS_pastRights)), (o_pastPassed, .inl (cI, 401, .inl oS_pastPassed)), (o_pastClock, .inl (cI, 401, .inl oS_pastClock)), (o_pastNumber, .inl (cI, 401, .inl oS_pastNumber)), (o_pastTakes, .inl (cJ, 401, .inr (.inl oS_pastTakes))), (o_playedMoves, .inl (cI, 400, .inl oS_playedMoves)), (o_keptMen, .inl (cI, 384, .inl oS_keptMen)), (o_keptRest, .inl (cI, 30, .inl oS_keptRest)), (o_lists, .inl (cI, 8192, .inl oS_lists)), (o_counts, .inl (cI, 4, .inl oS_counts))] → va_S A s.heap H locs → ∀ ls : Array Slot, lv_has ls 3 [(0, .ref o), (1, .int ply), (2, .int v2_7)] → W p l e (headSpec wsMo_goTo { frames := 0, cells := 0, slots := 0, locals := 0 }).room s m ([.ref o, .int ply]).toArray below meth c H locs 0 0 (MQ below (va_Qv (fun _ : Unit => True) (rwB dC dI (TYS cI cJ cC) [(o, .inr (6, [.int oS_thrown, .int oS_typed, .ref o_text, .int oS_told, .ref o_out, .ref o_men, .int ((f_Mo_goTo oS_men oS_side oS_rights oS_passed oS_clock oS_number oS_plies oS_pastMen oS_pastSide oS_pastRights oS_pastPassed oS_pastClock oS_pastNumber ply).2.1), .int ((f_Mo_goTo oS_men oS_side oS_rights oS_passed oS_clock oS_number oS_plies oS_pastMen oS_pastSide oS_pastRights oS_pastPassed oS_pastClock oS_pastNumber ply).2.2.1), .int ((f_Mo_goTo oS_men oS_side oS_rights oS_passed oS_clock oS_number oS_plies oS_pastMen oS_pastSide oS_pastRights oS_pastPassed oS_pastClock oS_pastNumber ply).2.2.2.1), .int ((f_Mo_goTo oS_men oS_side oS_rights oS_passed oS_clock oS_number oS_plies oS_pastMen oS_pastSide oS_pastRights oS_pastPassed oS_pastClock oS_pastNumber ply).2.2.2.2.1), .int ((f_Mo_goTo oS_men oS_side oS_rights oS_passed oS_clock oS_number oS_plies oS_pastMen oS_pastSide oS_pastRights oS_pastPassed oS_pastClock oS_pastNumber ply).2.2.2.2.2.1), .int ((f_Mo_goTo oS_men oS_side oS_rights oS_passed oS_clock oS_number oS_plies oS_pastMen oS_pastSide oS_pastRights oS_pastPassed oS_pastClock oS_pastNumber ply).2.2.2.2.2.2), .ref o_pastMen, .ref o_pastSide, .ref o_pastRights, .ref o_pastPassed, .ref o_pastClock, .ref o_pastNumber, .ref o_pastTakes, .ref o_playedMoves, .ref o_keptMen, .ref o_keptRest, .ref o_lists, .ref o_counts])), (o_text, .inl (cC, 100, .inl oS_text)), (o_out, .inl (cC, 100, .inl oS_out)), (o_men, .inl (cI, 64, .inl ((f_Mo_goTo oS_men oS_side oS_rights oS_passed oS_clock oS_number oS_plies oS_pastMen oS_pastSide oS_pastRights oS_pastPassed oS_pastClock oS_pastNumber ply).1))), (o_pastMen, .inl (cI, 25664, .inl oS_pastMen)), (o_pastSide, .inl (cI, 401, .inl oS_pastSide)), (o_pastRights, .inl (cI, 401, .inl oS_pastRights)), (o_pastPassed, .inl (cI, 401, .inl oS_pastPassed)), (o_pastClock, .inl (cI, 401, .inl oS_pastClock)), (o_pastNumber, .inl (cI, 401, .inl oS_pastNumber)), (o_pastTakes, .inl (cJ, 401, .inr (.inl oS_pastTakes))), (o_playedMoves, .inl (cI, 400, .inl oS_playedMoves)), (o_keptMen, .inl (cI, 384, .inl oS_keptMen)), (o_keptRest, .inl (cI, 30, .inl oS_keptRest)), (o_lists, .inl (cI, 8192, .inl oS_lists)), (o_counts, .inl (cI, 4, .inl oS_counts))] A) A) ([.ref o, .int ply]).toArray s 0 0 A) (F0 m 7 ls []) := by
    intro n_7
    induction n_7 with
    | zero => intro v2_7 W_o_men_7 _ hm_7; exact absurd hm_7 (by omega)
    | succ n_7 ih_7 =>
      intro v2_7 W_o_men_7 he_7 hm_7 H locs hP hD hS ls hl
      refine lv_iload_n hx hb dMo_goTo_7 rfl (lv_at hl 2 rfl) ?_
      refine lv_bipush (v := 64) hx hb dMo_goTo_8 (by decide) ?_
      refine lv_icmp_ge (tgt := 36) hx hb dMo_goTo_10 (by decide) (fun c_1 => ?_) (fun c_1 => ?_)
      · refine lv_aload_n hx hb dMo_goTo_36 rfl (lv_at hl 0 rfl) ?_
        refine lv_aload_n hx hb dMo_goTo_37 rfl (lv_at hl 0 rfl) ?_
        refine va_get (D := (dC, dI)) (ci := 6) (v := .ref o_pastSide) (C := RMo) (T := TMo) (N := 24) hx hb hB inMo hown hK hP 0 rfl rfl 13 (by decide) (hB _ q5_24) (fun _ h9 => h9) rfl dMo_goTo_38 ?_
        refine lv_iload_n hx hb dMo_goTo_41 rfl (lv_at hl 1 rfl) ?_
        refine va_iald hx hb hK hP 5 0 rfl rfl (vp_in_iff.mpr (by omega)) dMo_goTo_42 ?_
        refine va_put (D := (dC, dI)) (ci := 6) (v := .int (oS_pastSide ply.toNatClampNeg)) (ty := .int) (C := RMo) (T := TMo) (N := 24) hx hb hB inMo tyMo tyMo_ok nmMo hown hK hP hD hS 0 rfl rfl 6 (by decide) (hB _ q5_17) (fun _ h9 => h9) rfl (by decide +kernel) rfl rfl (Nat.le_of_ble_eq_true rfl) dMo_goTo_43 (fun H locs hP hD hS => ?_)
        have hP : va_P (dC, dI) vwCl [(o, .inr (6, [.int oS_thrown, .int oS_typed, .ref o_text, .int oS_told, .ref o_out, .ref o_men, .int (oS_pastSide ply.toNatClampNeg), .int oS_rights, .int oS_passed, .int oS_clock, .int oS_number, .int ply, .ref o_pastMen, .ref o_pastSide, .ref o_pastRights, .ref o_pastPassed, .ref o_pastClock, .ref o_pastNumber, .ref o_pastTakes, .ref o_playedMoves, .ref o_keptMen, .ref o_keptRest, .ref o_lists, .ref o_counts])), (o_text, .inl (cC, 100, .inl oS_text)), (o_out, .inl (cC, 100, .inl oS_out)), (o_men, .inl (cI, 64, .inl W_o_men_7)), (o_pastMen, .inl (cI, 25664, .inl oS_pastMen)), (o_pastSide, .inl (cI, 401, .inl oS_pastSide)), (o_pastRights, .inl (cI, 401, .inl oS_pastRights)), (o_pastPassed, .inl (cI, 401, .inl oS_pastPassed)), (o_pastClock, .inl (cI, 401, .inl oS_pastClock)), (o_pastNumber, .inl (cI, 401, .inl oS_pastNumber)), (o_pastTakes, .inl (cJ, 401, .inr (.inl oS_pastTakes))), (o_playedMoves, .inl (cI, 400, .inl oS_playedMoves)), (o_keptMen, .inl (cI, 384, .inl oS_keptMen)), (o_keptRest, .inl (cI, 30, .inl oS_keptRest)), (o_lists, .inl (cI, 8192, .inl oS_lists)), (o_counts, .inl (cI, 4, .inl oS_counts))] H := hP
        have hD : va_D A [(o, .inr (6, [.int oS_thrown, .int oS_typed, .ref o_text, .int oS_told, .ref o_out, .ref o_men, .int (oS_pastSide ply.toNatClampNeg), .int oS_rights, .int oS_passed, .int oS_clock, .int oS_number, .int ply, .ref o_pastMen, .ref o_pastSide, .ref o_pastRights, .ref o_pastPassed, .ref o_pastClock, .ref o_pastNumber, .ref o_pastTakes, .ref o_playedMoves, .ref o_keptMen, .ref o_keptRest, .ref o_lists, .ref o_counts])), (o_text, .inl (cC, 100, .inl oS_text)), (o_out, .inl (cC, 100, .inl oS_out)), (o_men, .inl (cI, 64, .inl W_o_men_7)), (o_pastMen, .inl (cI, 25664, .inl oS_pastMen)), (o_pastSide, .inl (cI, 401, .inl oS_pastSide)), (o_pastRights, .inl (cI, 401, .inl oS_pastRights)), (o_pastPassed, .inl (cI, 401, .inl oS_pastPassed)), (o_pastClock, .inl (cI, 401, .inl oS_pastClock)), (o_pastNumber, .inl (cI, 401, .inl oS_pastNumber)), (o_pastTakes, .inl (cJ, 401, .inr (.inl oS_pastTakes))), (o_playedMoves, .inl (cI, 400, .inl oS_playedMoves)), (o_keptMen, .inl (cI, 384, .inl oS_keptMen)), (o_keptRest, .inl (cI, 30, .inl oS_keptRest)), (o_lists, .inl (cI, 8192, .inl oS_lists)), (o_counts, .inl (cI, 4, .inl oS_counts))] := hD
        refine lv_aload_n hx hb dMo_goTo_46 rfl (lv_at hl 0 rfl) ?_
        refine lv_aload_n hx hb dMo_goTo_47 rfl (lv_at hl 0 rfl) ?_
        refine va_get (D := (dC, dI)) (ci := 6) (v := .ref o_pastRights) (C := RMo) (T := TMo) (N := 24) hx hb hB inMo hown hK hP 0 rfl rfl 14 (by decide) (hB _ q5_25) (fun _ h9 => h9) rfl dMo_goTo_48 ?_
        refine lv_iload_n hx hb dMo_goTo_51 rfl (lv_at hl 1 rfl) ?_
        refine va_iald hx hb hK hP 6 0 rfl rfl (vp_in_iff.mpr (by omega)) dMo_goTo_52 ?_
        refine va_put (D := (dC, dI)) (ci := 6) (v := .int (oS_pastRights ply.toNatClampNeg)) (ty := .int) (C := RMo) (T := TMo) (N := 24) hx hb hB inMo tyMo tyMo_ok nmMo hown hK hP hD hS 0 rfl rfl 7 (by decide) (hB _ q5_18) (fun _ h9 => h9) rfl (by decide +kernel) rfl rfl (Nat.le_of_ble_eq_true rfl) dMo_goTo_53 (fun H locs hP hD hS => ?_)
        have hP : va_P (dC, dI) vwCl [(o, .inr (6, [.int oS_thrown, .int oS_typed, .ref o_text, .int oS_told, .ref o_out, .ref o_men, .int (oS_pastSide ply.toNatClampNeg), .int (oS_pastRights ply.toNatClampNeg), .int oS_passed, .int oS_clock, .int oS_number, .int ply, .ref o_pastMen, .ref o_pastSide, .ref o_pastRights, .ref o_pastPassed, .ref o_pastClock, .ref o_pastNumber, .ref o_pastTakes, .ref o_playedMoves, .ref o_keptMen, .ref o_keptRest, .ref o_lists, .ref o_counts])), (o_text, .inl (cC, 100, .inl oS_text)), (o_out, .inl (cC, 100, .inl oS_out)), (o_men, .inl (cI, 64, .inl W_o_men_7)), (o_pastMen, .inl (cI, 25664, .inl oS_pastMen)), (o_pastSide, .inl (cI, 401, .inl oS_pastSide)), (o_pastRights, .inl (cI, 401, .inl oS_pastRights)), (o_pastPassed, .inl (cI, 401, .inl oS_pastPassed)), (o_pastClock, .inl (cI, 401, .inl oS_pastClock)), (o_pastNumber, .inl (cI, 401, .inl oS_pastNumber)), (o_pastTakes, .inl (cJ, 401, .inr (.inl oS_pastTakes))), (o_playedMoves, .inl (cI, 400, .inl oS_playedMoves)), (o_keptMen, .inl (cI, 384, .inl oS_keptMen)), (o_keptRest, .inl (cI, 30, .inl oS_keptRest)), (o_lists, .inl (cI, 8192, .inl oS_lists)), (o_counts, .inl (cI, 4, .inl oS_counts))] H := hP
        have hD : va_D A [(o, .inr (6, [.int oS_thrown, .int oS_typed, .ref o_text, .int oS_told, .ref o_out, .ref o_men, .int (oS_pastSide ply.toNatClampNeg), .int (oS_pastRights ply.toNatClampNeg), .int oS_passed, .int oS_clock, .int oS_number, .int ply, .ref o_pastMen, .ref o_pastSide, .ref o_pastRights, .ref o_pastPassed, .ref o_pastClock, .ref o_pastNumber, .ref o_pastTakes, .ref o_playedMoves, .ref o_keptMen, .ref o_keptRest, .ref o_lists, .ref o_counts])), (o_text, .inl (cC, 100, .inl oS_text)), (o_out, .inl (cC, 100, .inl oS_out)), (o_men, .inl (cI, 64, .inl W_o_men_7)), (o_pastMen, .inl (cI, 25664, .inl oS_pastMen)), (o_pastSide, .inl (cI, 401, .inl oS_pastSide)), (o_pastRights, .inl (cI, 401, .inl oS_pastRights)), (o_pastPassed, .inl (cI, 401, .inl oS_pastPassed)), (o_pastClock, .inl (cI, 401, .inl oS_pastClock)), (o_pastNumber, .inl (cI, 401, .inl oS_pastNumber)), (o_pastTakes, .inl (cJ, 401, .inr (.inl oS_pastTakes))), (o_playedMoves, .inl (cI, 400, .inl oS_playedMoves)), (o_keptMen, .inl (cI, 384, .inl oS_keptMen)), (o_keptRest, .inl (cI, 30, .inl oS_keptRest)), (o_lists, .inl (cI, 8192, .inl oS_lists)), (o_counts, .inl (cI, 4, .inl oS_counts))] := hD
        refine lv_aload_n hx hb dMo_goTo_56 rfl (lv_at hl 0 rfl) ?_
        refine lv_aload_n hx hb dMo_goTo_57 rfl (lv_at hl 0 rfl) ?_
        refine va_get (D := (dC, dI)) (ci := 6) (v := .ref o_pastPassed) (C := RMo) (T := TMo) (N := 24) hx hb hB inMo hown hK hP 0 rfl rfl 15 (by decide) (hB _ q5_26) (fun _ h9 => h9) rfl dMo_goTo_58 ?_
        refine lv_iload_n hx hb dMo_goTo_61 rfl (lv_at hl 1 rfl) ?_
        refine va_iald hx hb hK hP 7 0 rfl rfl (vp_in_iff.mpr (by omega)) dMo_goTo_62 ?_
        refine va_put (D := (dC, dI)) (ci := 6) (v := .int (oS_pastPassed ply.toNatClampNeg)) (ty := .int) (C := RMo) (T := TMo) (N := 24) hx hb hB inMo tyMo tyMo_ok nmMo hown hK hP hD hS 0 rfl rfl 8 (by decide) (hB _ q5_19) (fun _ h9 => h9) rfl (by decide +kernel) rfl rfl (Nat.le_of_ble_eq_true rfl) dMo_goTo_63 (fun H locs hP hD hS => ?_)
        have hP : va_P (dC, dI) vwCl [(o, .inr (6, [.int oS_thrown, .int oS_typed, .ref o_text, .int oS_told, .ref o_out, .ref o_men, .int (oS_pastSide ply.toNatClampNeg), .int (oS_pastRights ply.toNatClampNeg), .int (oS_pastPassed ply.toNatClampNeg), .int oS_clock, .int oS_number, .int ply, .ref o_pastMen, .ref o_pastSide, .ref o_pastRights, .ref o_pastPassed, .ref o_pastClock, .ref o_pastNumber, .ref o_pastTakes, .ref o_playedMoves, .ref o_keptMen, .ref o_keptRest, .ref o_lists, .ref o_counts])), (o_text, .inl (cC, 100, .inl oS_text)), (o_out, .inl (cC, 100, .inl oS_out)), (o_men, .inl (cI, 64, .inl W_o_men_7)), (o_pastMen, .inl (cI, 25664, .inl oS_pastMen)), (o_pastSide, .inl (cI, 401, .inl oS_pastSide)), (o_pastRights, .inl (cI, 401, .inl oS_pastRights)), (o_pastPassed, .inl (cI, 401, .inl oS_pastPassed)), (o_pastClock, .inl (cI, 401, .inl oS_pastClock)), (o_pastNumber, .inl (cI, 401, .inl oS_pastNumber)), (o_pastTakes, .inl (cJ, 401, .inr (.inl oS_pastTakes))), (o_playedMoves, .inl (cI, 400, .inl oS_playedMoves)), (o_keptMen, .inl (cI, 384, .inl oS_keptMen)), (o_keptRest, .inl (cI, 30, .inl oS_keptRest)), (o_lists, .inl (cI, 8192, .inl oS_lists)), (o_counts, .inl (cI, 4, .inl oS_counts))] H := hP
        have hD : va_D A [(o, .inr (6, [.int oS_thrown, .int oS_typed, .ref o_text, .int oS_told, .ref o_out, .ref o_men, .int (oS_pastSide ply.toNatClampNeg), .int (oS_pastRights ply.toNatClampNeg), .int (oS_pastPassed ply.toNatClampNeg), .int oS_clock, .int oS_number, .int ply, .ref o_pastMen, .ref o_pastSide, .ref o_pastRights, .ref o_pastPassed, .ref o_pastClock, .ref o_pastNumber, .ref o_pastTakes, .ref o_playedMoves, .ref o_keptMen, .ref o_keptRest, .ref o_lists, .ref o_counts])), (o_text, .inl (cC, 100, .inl oS_text)), (o_out, .inl (cC, 100, .inl oS_out)), (o_men, .inl (cI, 64, .inl W_o_men_7)), (o_pastMen, .inl (cI, 25664, .inl oS_pastMen)), (o_pastSide, .inl (cI, 401, .inl oS_pastSide)), (o_pastRights, .inl (cI, 401, .inl oS_pastRights)), (o_pastPassed, .inl (cI, 401, .inl oS_pastPassed)), (o_pastClock, .inl (cI, 401, .inl oS_pastClock)), (o_pastNumber, .inl (cI, 401, .inl oS_pastNumber)), (o_pastTakes, .inl (cJ, 401, .inr (.inl oS_pastTakes))), (o_playedMoves, .inl (cI, 400, .inl oS_playedMoves)), (o_keptMen, .inl (cI, 384, .inl oS_keptMen)), (o_keptRest, .inl (cI, 30, .inl oS_keptRest)), (o_lists, .inl (cI, 8192, .inl oS_lists)), (o_counts, .inl (cI, 4, .inl oS_counts))] := hD
        refine lv_aload_n hx hb dMo_goTo_66 rfl (lv_at hl 0 rfl) ?_
        refine lv_aload_n hx hb dMo_goTo_67 rfl (lv_at hl 0 rfl) ?_
        refine va_get (D := (dC, dI)) (ci := 6) (v := .ref o_pastClock) (C := RMo) (T := TMo) (N := 24) hx hb hB inMo hown hK hP 0 rfl rfl 16 (by decide) (hB _ q5_27) (fun _ h9 => h9) rfl dMo_goTo_68 ?_
        refine lv_iload_n hx hb dMo_goTo_71 rfl (lv_at hl 1 rfl) ?_
        refine va_iald hx hb hK hP 8 0 rfl rfl (vp_in_iff.mpr (by omega)) dMo_goTo_72 ?_
        refine va_put (D := (dC, dI)) (ci := 6) (v := .int (oS_pastClock ply.toNatClampNeg)) (ty := .int) (C := RMo) (T := TMo) (N := 24) hx hb hB inMo tyMo tyMo_ok nmMo hown hK hP hD hS 0 rfl rfl 9 (by decide) (hB _ q5_20) (fun _ h9 => h9) rfl (by decide +kernel) rfl rfl (Nat.le_of_ble_eq_true rfl) dMo_goTo_73 (fun H locs hP hD hS => ?_)
        have hP : va_P (dC, dI) vwCl [(o, .inr (6, [.int oS_thrown, .int oS_typed, .ref o_text, .int oS_told, .ref o_out, .ref o_men, .int (oS_pastSide ply.toNatClampNeg), .int (oS_pastRights ply.toNatClampNeg), .int (oS_pastPassed ply.toNatClampNeg), .int (oS_pastClock ply.toNatClampNeg), .int oS_number, .int ply, .ref o_pastMen, .ref o_pastSide, .ref o_pastRights, .ref o_pastPassed, .ref o_pastClock, .ref o_pastNumber, .ref o_pastTakes, .ref o_playedMoves, .ref o_keptMen, .ref o_keptRest, .ref o_lists, .ref o_counts])), (o_text, .inl (cC, 100, .inl oS_text)), (o_out, .inl (cC, 100, .inl oS_out)), (o_men, .inl (cI, 64, .inl W_o_men_7)), (o_pastMen, .inl (cI, 25664, .inl oS_pastMen)), (o_pastSide, .inl (cI, 401, .inl oS_pastSide)), (o_pastRights, .inl (cI, 401, .inl oS_pastRights)), (o_pastPassed, .inl (cI, 401, .inl oS_pastPassed)), (o_pastClock, .inl (cI, 401, .inl oS_pastClock)), (o_pastNumber, .inl (cI, 401, .inl oS_pastNumber)), (o_pastTakes, .inl (cJ, 401, .inr (.inl oS_pastTakes))), (o_playedMoves, .inl (cI, 400, .inl oS_playedMoves)), (o_keptMen, .inl (cI, 384, .inl oS_keptMen)), (o_keptRest, .inl (cI, 30, .inl oS_keptRest)), (o_lists, .inl (cI, 8192, .inl oS_lists)), (o_counts, .inl (cI, 4, .inl oS_counts))] H := hP
        have hD : va_D A [(o, .inr (6, [.int oS_thrown, .int oS_typed, .ref o_text, .int oS_told, .ref o_out, .ref o_men, .int (oS_pastSide ply.toNatClampNeg), .int (oS_pastRights ply.toNatClampNeg), .int (oS_pastPassed ply.toNatClampNeg), .int (oS_pastClock ply.toNatClampNeg), .int oS_number, .int ply, .ref o_pastMen, .ref o_pastSide, .ref o_pastRights, .ref o_pastPassed, .ref o_pastClock, .ref o_pastNumber, .ref o_pastTakes, .ref o_playedMoves, .ref o_keptMen, .ref o_keptRest, .ref o_lists, .ref o_counts])), (o_text, .inl (cC, 100, .inl oS_text)), (o_out, .inl (cC, 100, .inl oS_out)), (o_men, .inl (cI, 64, .inl W_o_men_7)), (o_pastMen, .inl (cI, 25664, .inl oS_pastMen)), (o_pastSide, .inl (cI, 401, .inl oS_pastSide)), (o_pastRights, .inl (cI, 401, .inl oS_pastRights)), (o_pastPassed, .inl (cI, 401, .inl oS_pastPassed)), (o_pastClock, .inl (cI, 401, .inl oS_pastClock)), (o_pastNumber, .inl (cI, 401, .inl oS_pastNumber)), (o_pastTakes, .inl (cJ, 401, .inr (.inl oS_pastTakes))), (o_playedMoves, .inl (cI, 400, .inl oS_playedMoves)), (o_keptMen, .inl (cI, 384, .inl oS_keptMen)), (o_keptRest, .inl (cI, 30, .inl oS_keptRest)), (o_lists, .inl (cI, 8192, .inl oS_lists)), (o_counts, .inl (cI, 4, .inl oS_counts))] := hD
        refine lv_aload_n hx hb dMo_goTo_76 rfl (lv_at hl 0 rfl) ?_
        refine lv_aload_n hx hb dMo_goTo_77 rfl (lv_at hl 0 rfl) ?_
        refine va_get (D := (dC, dI)) (ci := 6) (v := .ref o_pastNumber) (C := RMo) (T := TMo) (N := 24) hx hb hB inMo hown hK hP 0 rfl rfl 17 (by decide) (hB _ q5_28) (fun _ h9 => h9) rfl dMo_goTo_78 ?_
        refine lv_iload_n hx hb dMo_goTo_81 rfl (lv_at hl 1 rfl) ?_
        refine va_iald hx hb hK hP 9 0 rfl rfl (vp_in_iff.mpr (by omega)) dMo_goTo_82 ?_
        refine va_put (D := (dC, dI)) (ci := 6) (v := .int (oS_pastNumber ply.toNatClampNeg)) (ty := .int) (C := RMo) (T := TMo) (N := 24) hx hb hB inMo tyMo tyMo_ok nmMo hown hK hP hD hS 0 rfl rfl 10 (by decide) (hB _ q5_21) (fun _ h9 => h9) rfl (by decide +kernel) rfl rfl (Nat.le_of_ble_eq_true rfl) dMo_goTo_83 (fun H locs hP hD hS => ?_)
        have hP : va_P (dC, dI) vwCl [(o, .inr (6, [.int oS_thrown, .int oS_typed, .ref o_text, .int oS_told, .ref o_out, .ref o_men, .int (oS_pastSide ply.toNatClampNeg), .int (oS_pastRights ply.toNatClampNeg), .int (oS_pastPassed ply.toNatClampNeg), .int (oS_pastClock ply.toNatClampNeg), .int (oS_pastNumber ply.toNatClampNeg), .int ply, .ref o_pastMen, .ref o_pastSide, .ref o_pastRights, .ref o_pastPassed, .ref o_pastClock, .ref o_pastNumber, .ref o_pastTakes, .ref o_playedMoves, .ref o_keptMen, .ref o_keptRest, .ref o_lists, .ref o_counts])), (o_text, .inl (cC, 100, .inl oS_text)), (o_out, .inl (cC, 100, .inl oS_out)), (o_men, .inl (cI, 64, .inl W_o_men_7)), (o_pastMen, .inl (cI, 25664, .inl oS_pastMen)), (o_pastSide, .inl (cI, 401, .inl oS_pastSide)), (o_pastRights, .inl (cI, 401, .inl oS_pastRights)), (o_pastPassed, .inl (cI, 401, .inl oS_pastPassed)), (o_pastClock, .inl (cI, 401, .inl oS_pastClock)), (o_pastNumber, .inl (cI, 401, .inl oS_pastNumber)), (o_pastTakes, .inl (cJ, 401, .inr (.inl oS_pastTakes))), (o_playedMoves, .inl (cI, 400, .inl oS_playedMoves)), (o_keptMen, .inl (cI, 384, .inl oS_keptMen)), (o_keptRest, .inl (cI, 30, .inl oS_keptRest)), (o_lists, .inl (cI, 8192, .inl oS_lists)), (o_counts, .inl (cI, 4, .inl oS_counts))] H := hP
        have hD : va_D A [(o, .inr (6, [.int oS_thrown, .int oS_typed, .ref o_text, .int oS_told, .ref o_out, .ref o_men, .int (oS_pastSide ply.toNatClampNeg), .int (oS_pastRights ply.toNatClampNeg), .int (oS_pastPassed ply.toNatClampNeg), .int (oS_pastClock ply.toNatClampNeg), .int (oS_pastNumber ply.toNatClampNeg), .int ply, .ref o_pastMen, .ref o_pastSide, .ref o_pastRights, .ref o_pastPassed, .ref o_pastClock, .ref o_pastNumber, .ref o_pastTakes, .ref o_playedMoves, .ref o_keptMen, .ref o_keptRest, .ref o_lists, .ref o_counts])), (o_text, .inl (cC, 100, .inl oS_text)), (o_out, .inl (cC, 100, .inl oS_out)), (o_men, .inl (cI, 64, .inl W_o_men_7)), (o_pastMen, .inl (cI, 25664, .inl oS_pastMen)), (o_pastSide, .inl (cI, 401, .inl oS_pastSide)), (o_pastRights, .inl (cI, 401, .inl oS_pastRights)), (o_pastPassed, .inl (cI, 401, .inl oS_pastPassed)), (o_pastClock, .inl (cI, 401, .inl oS_pastClock)), (o_pastNumber, .inl (cI, 401, .inl oS_pastNumber)), (o_pastTakes, .inl (cJ, 401, .inr (.inl oS_pastTakes))), (o_playedMoves, .inl (cI, 400, .inl oS_playedMoves)), (o_keptMen, .inl (cI, 384, .inl oS_keptMen)), (o_keptRest, .inl (cI, 30, .inl oS_keptRest)), (o_lists, .inl (cI, 8192, .inl oS_lists)), (o_counts, .inl (cI, 4, .inl oS_counts))] := hD
        have hv : f_Mo_goTo oS_men oS_side oS_rights oS_passed oS_clock oS_number oS_plies oS_pastMen oS_pastSide oS_pastRights oS_pastPassed oS_pastClock oS_pastNumber ply = (W_o_men_7, oS_pastSide ply.toNatClampNeg, oS_pastRights ply.toNatClampNeg, oS_pastPassed ply.toNatClampNeg, oS_pastClock ply.toNatClampNeg, oS_pastNumber ply.toNatClampNeg, ply) := (he_7.trans (by rw [f_Mo_goTo_7_eq, if_pos c_1] <;> rfl))
        have hP9 : va_P (dC, dI) vwCl [(o, .inr (6, [.int oS_thrown, .int oS_typed, .ref o_text, .int oS_told, .ref o_out, .ref o_men, .int ((f_Mo_goTo oS_men oS_side oS_rights oS_passed oS_clock oS_number oS_plies oS_pastMen oS_pastSide oS_pastRights oS_pastPassed oS_pastClock oS_pastNumber ply).2.1), .int ((f_Mo_goTo oS_men oS_side oS_rights oS_passed oS_clock oS_number oS_plies oS_pastMen oS_pastSide oS_pastRights oS_pastPassed oS_pastClock oS_pastNumber ply).2.2.1), .int ((f_Mo_goTo oS_men oS_side oS_rights oS_passed oS_clock oS_number oS_plies oS_pastMen oS_pastSide oS_pastRights oS_pastPassed oS_pastClock oS_pastNumber ply).2.2.2.1), .int ((f_Mo_goTo oS_men oS_side oS_rights oS_passed oS_clock oS_number oS_plies oS_pastMen oS_pastSide oS_pastRights oS_pastPassed oS_pastClock oS_pastNumber ply).2.2.2.2.1), .int ((f_Mo_goTo oS_men oS_side oS_rights oS_passed oS_clock oS_number oS_plies oS_pastMen oS_pastSide oS_pastRights oS_pastPassed oS_pastClock oS_pastNumber ply).2.2.2.2.2.1), .int ((f_Mo_goTo oS_men oS_side oS_rights oS_passed oS_clock oS_number oS_plies oS_pastMen oS_pastSide oS_pastRights oS_pastPassed oS_pastClock oS_pastNumber ply).2.2.2.2.2.2), .ref o_pastMen, .ref o_pastSide, .ref o_pastRights, .ref o_pastPassed, .ref o_pastClock, .ref o_pastNumber, .ref o_pastTakes, .ref o_playedMoves, .ref o_keptMen, .ref o_keptRest, .ref o_lists, .ref o_counts])), (o_text, .inl (cC, 100, .inl oS_text)), (o_out, .inl (cC, 100, .inl oS_out)), (o_men, .inl (cI, 64, .inl ((f_Mo_goTo oS_men oS_side oS_rights oS_passed oS_clock oS_number oS_plies oS_pastMen oS_pastSide oS_pastRights oS_pastPassed oS_pastClock oS_pastNumber ply).1))), (o_pastMen, .inl (cI, 25664, .inl oS_pastMen)), (o_pastSide, .inl (cI, 401, .inl oS_pastSide)), (o_pastRights, .inl (cI, 401, .inl oS_pastRights)), (o_pastPassed, .inl (cI, 401, .inl oS_pastPassed)), (o_pastClock, .inl (cI, 401, .inl oS_pastClock)), (o_pastNumber, .inl (cI, 401, .inl oS_pastNumber)), (o_pastTakes, .inl (cJ, 401, .inr (.inl oS_pastTakes))), (o_playedMoves, .inl (cI, 400, .inl oS_playedMoves)), (o_keptMen, .inl (cI, 384, .inl oS_keptMen)), (o_keptRest, .inl (cI, 30, .inl oS_keptRest)), (o_lists, .inl (cI, 8192, .inl oS_lists)), (o_counts, .inl (cI, 4, .inl oS_counts))] H := by first | (rw [hv]; exact hP.sub [0, 1, 2, 3, 4, 5, 6, 7, 8, 9, 10, 11, 12, 13, 14, 15] rfl) | exact hP.sub [0, 1, 2, 3, 4, 5, 6, 7, 8, 9, 10, 11, 12, 13, 14, 15] rfl
        have hD9 : va_D A [(o, .inr (6, [.int oS_thrown, .int oS_typed, .ref o_text, .int oS_told, .ref o_out, .ref o_men, .int ((f_Mo_goTo oS_men oS_side oS_rights oS_passed oS_clock oS_number oS_plies oS_pastMen oS_pastSide oS_pastRights oS_pastPassed oS_pastClock oS_pastNumber ply).2.1), .int ((f_Mo_goTo oS_men oS_side oS_rights oS_passed oS_clock oS_number oS_plies oS_pastMen oS_pastSide oS_pastRights oS_pastPassed oS_pastClock oS_pastNumber ply).2.2.1), .int ((f_Mo_goTo oS_men oS_side oS_rights oS_passed oS_clock oS_number oS_plies oS_pastMen oS_pastSide oS_pastRights oS_pastPassed oS_pastClock oS_pastNumber ply).2.2.2.1), .int ((f_Mo_goTo oS_men oS_side oS_rights oS_passed oS_clock oS_number oS_plies oS_pastMen oS_pastSide oS_pastRights oS_pastPassed oS_pastClock oS_pastNumber ply).2.2.2.2.1), .int ((f_Mo_goTo oS_men oS_side oS_rights oS_passed oS_clock oS_number oS_plies oS_pastMen oS_pastSide oS_pastRights oS_pastPassed oS_pastClock oS_pastNumber ply).2.2.2.2.2.1), .int ((f_Mo_goTo oS_men oS_side oS_rights oS_passed oS_clock oS_number oS_plies oS_pastMen oS_pastSide oS_pastRights oS_pastPassed oS_pastClock oS_pastNumber ply).2.2.2.2.2.2), .ref o_pastMen, .ref o_pastSide, .ref o_pastRights, .ref o_pastPassed, .ref o_pastClock, .ref o_pastNumber, .ref o_pastTakes, .ref o_playedMoves, .ref o_keptMen, .ref o_keptRest, .ref o_lists, .ref o_counts])), (o_text, .inl (cC, 100, .inl oS_text)), (o_out, .inl (cC, 100, .inl oS_out)), (o_men, .inl (cI, 64, .inl ((f_Mo_goTo oS_men oS_side oS_rights oS_passed oS_clock oS_number oS_plies oS_pastMen oS_pastSide oS_pastRights oS_pastPassed oS_pastClock oS_pastNumber ply).1))), (o_pastMen, .inl (cI, 25664, .inl oS_pastMen)), (o_pastSide, .inl (cI, 401, .inl oS_pastSide)), (o_pastRights, .inl (cI, 401, .inl oS_pastRights)), (o_pastPassed, .inl (cI, 401, .inl oS_pastPassed)), (o_pastClock, .inl (cI, 401, .inl oS_pastClock)), (o_pastNumber, .inl (cI, 401, .inl oS_pastNumber)), (o_pastTakes, .inl (cJ, 401, .inr (.inl oS_pastTakes))), (o_playedMoves, .inl (cI, 400, .inl oS_playedMoves)), (o_keptMen, .inl (cI, 384, .inl oS_keptMen)), (o_keptRest, .inl (cI, 30, .inl oS_keptRest)), (o_lists, .inl (cI, 8192, .inl oS_lists)), (o_counts, .inl (cI, 4, .inl oS_counts))] := by first | (rw [hv]; exact hD.sub [0, 1, 2, 3, 4, 5, 6, 7, 8, 9, 10, 11, 12, 13, 14, 15] (by decide) rfl) | exact hD.sub [0, 1, 2, 3, 4, 5, 6, 7, 8, 9, 10, 11, 12, 13, 14, 15] (by decide) rfl
        exact rw_retv hx hb hr hlocks hK hP9 hD9 hS dMo_goTo_86
      · refine lv_aload_n hx hb dMo_goTo_13 rfl (lv_at hl 0 rfl) ?_
        refine va_get (D := (dC, dI)) (ci := 6) (v := .ref o_men) (C := RMo) (T := TMo) (N := 24) hx hb hB inMo hown hK hP 0 rfl rfl 5 (by decide) (hB _ q5_16) (fun _ h9 => h9) rfl dMo_goTo_14 ?_
        refine lv_iload_n hx hb dMo_goTo_17 rfl (lv_at hl 2 rfl) ?_
        refine lv_aload_n hx hb dMo_goTo_18 rfl (lv_at hl 0 rfl) ?_
        refine va_get (D := (dC, dI)) (ci := 6) (v := .ref o_pastMen) (C := RMo) (T := TMo) (N := 24) hx hb hB inMo hown hK hP 0 rfl rfl 12 (by decide) (hB _ q5_23) (fun _ h9 => h9) rfl dMo_goTo_19 ?_
        refine lv_bipush (v := 64) hx hb dMo_goTo_22 (by decide) ?_
        refine lv_iload_n hx hb dMo_goTo_24 rfl (lv_at hl 1 rfl) ?_
        refine lv_imul hx hb dMo_goTo_25 ?_
        refine lv_iload_n hx hb dMo_goTo_26 rfl (lv_at hl 2 rfl) ?_
        refine lv_iadd hx hb dMo_goTo_27 ?_
        refine va_iald hx hb hK hP 4 0 rfl rfl (lin_64_25664 hp.1 hp.2 (by have z1 := tnle c_1; have y64 : (64 : Int32).toInt = 64 := rfl; omega) (by have z1 := tnle c_1; have y64 : (64 : Int32).toInt = 64 := rfl; omega)) dMo_goTo_28 ?_
        refine va_iast hx hb hK hP hD hS 3 0 rfl rfl (vp_in_iff.mpr (by have z1 := tnle c_1; have y64 : (64 : Int32).toInt = 64 := rfl; omega)) dMo_goTo_29 (fun H locs hP hD hS => ?_)
        have hP : va_P (dC, dI) vwCl [(o, .inr (6, [.int oS_thrown, .int oS_typed, .ref o_text, .int oS_told, .ref o_out, .ref o_men, .int oS_side, .int oS_rights, .int oS_passed, .int oS_clock, .int oS_number, .int ply, .ref o_pastMen, .ref o_pastSide, .ref o_pastRights, .ref o_pastPassed, .ref o_pastClock, .ref o_pastNumber, .ref o_pastTakes, .ref o_playedMoves, .ref o_keptMen, .ref o_keptRest, .ref o_lists, .ref o_counts])), (o_text, .inl (cC, 100, .inl oS_text)), (o_out, .inl (cC, 100, .inl oS_out)), (o_men, .inl (cI, 64, .inl (upd W_o_men_7 v2_7.toNatClampNeg (oS_pastMen ((64 * ply) + v2_7).toNatClampNeg)))), (o_pastMen, .inl (cI, 25664, .inl oS_pastMen)), (o_pastSide, .inl (cI, 401, .inl oS_pastSide)), (o_pastRights, .inl (cI, 401, .inl oS_pastRights)), (o_pastPassed, .inl (cI, 401, .inl oS_pastPassed)), (o_pastClock, .inl (cI, 401, .inl oS_pastClock)), (o_pastNumber, .inl (cI, 401, .inl oS_pastNumber)), (o_pastTakes, .inl (cJ, 401, .inr (.inl oS_pastTakes))), (o_playedMoves, .inl (cI, 400, .inl oS_playedMoves)), (o_keptMen, .inl (cI, 384, .inl oS_keptMen)), (o_keptRest, .inl (cI, 30, .inl oS_keptRest)), (o_lists, .inl (cI, 8192, .inl oS_lists)), (o_counts, .inl (cI, 4, .inl oS_counts))] H := hP
        have hD : va_D A [(o, .inr (6, [.int oS_thrown, .int oS_typed, .ref o_text, .int oS_told, .ref o_out, .ref o_men, .int oS_side, .int oS_rights, .int oS_passed, .int oS_clock, .int oS_number, .int ply, .ref o_pastMen, .ref o_pastSide, .ref o_pastRights, .ref o_pastPassed, .ref o_pastClock, .ref o_pastNumber, .ref o_pastTakes, .ref o_playedMoves, .ref o_keptMen, .ref o_keptRest, .ref o_lists, .ref o_counts])), (o_text, .inl (cC, 100, .inl oS_text)), (o_out, .inl (cC, 100, .inl oS_out)), (o_men, .inl (cI, 64, .inl (upd W_o_men_7 v2_7.toNatClampNeg (oS_pastMen ((64 * ply) + v2_7).toNatClampNeg)))), (o_pastMen, .inl (cI, 25664, .inl oS_pastMen)), (o_pastSide, .inl (cI, 401, .inl oS_pastSide)), (o_pastRights, .inl (cI, 401, .inl oS_pastRights)), (o_pastPassed, .inl (cI, 401, .inl oS_pastPassed)), (o_pastClock, .inl (cI, 401, .inl oS_pastClock)), (o_pastNumber, .inl (cI, 401, .inl oS_pastNumber)), (o_pastTakes, .inl (cJ, 401, .inr (.inl oS_pastTakes))), (o_playedMoves, .inl (cI, 400, .inl oS_playedMoves)), (o_keptMen, .inl (cI, 384, .inl oS_keptMen)), (o_keptRest, .inl (cI, 30, .inl oS_keptRest)), (o_lists, .inl (cI, 8192, .inl oS_lists)), (o_counts, .inl (cI, 4, .inl oS_counts))] := hD
        refine lv_iinc (v := v2_7 + 1) (lv' := [(2, .int (v2_7 + 1)), (0, .ref o), (1, .int ply)]) hx hb dMo_goTo_30 hl (k := 2) rfl rfl (by decide) rfl (fun ls hl => ?_)
        refine lv_goto (tgt := 7) hx hb dMo_goTo_33 (by decide) ?_
        exact ih_7 (v2_7 + 1) (upd W_o_men_7 v2_7.toNatClampNeg (oS_pastMen ((64 * ply) + v2_7).toNatClampNeg)) (he_7.trans (by rw [f_Mo_goTo_7_eq, if_neg c_1] <;> rfl)) (by have z1 := tnle c_1; have y64 : (64 : Int32).toInt = 64 := rfl; have zr := i_rng (64 : Int32); have zs := i_succ9 v2_7 (by omega); omega) _ _ (hP.sub [0, 1, 2, 3, 4, 5, 6, 7, 8, 9, 10, 11, 12, 13, 14, 15] rfl) (hD.sub [0, 1, 2, 3, 4, 5, 6, 7, 8, 9, 10, 11, 12, 13, 14, 15] (by decide) rfl) hS ls (lv_sub hl [1, 2, 0] rfl)
  exact J_7 (65) 0 oS_men (by rw [f_Mo_goTo_eq] <;> rfl) (by decide) _ _ (hP.sub [0, 1, 2, 3, 4, 5, 6, 7, 8, 9, 10, 11, 12, 13, 14, 15] rfl) (hD.sub [0, 1, 2, 3, 4, 5, 6, 7, 8, 9, 10, 11, 12, 13, 14, 15] (by decide) rfl) hS ls (lv_sub hl [1, 2, 0] rfl)

abbrev cMo_areSame : ByteArray := prog_11_method_27_code
def yMo_areSame : MethodName := ⟨"ChessRulesModel", "areSame", "(II)Z"⟩
def wsMo_areSame : List Cond := Cond.code yMo_areSame cMo_areSame 5 (some .boolean) :: BIG
theorem dMo_areSame_0 : decode cMo_areSame 0 = .ok (.aload_n 0, 1) := by decide +kernel
theorem dMo_areSame_1 : decode cMo_areSame 1 = .ok (.getfield 33, 3) := by decide +kernel
theorem dMo_areSame_4 : decode cMo_areSame 4 = .ok (.iload_n 1, 1) := by decide +kernel
theorem dMo_areSame_5 : decode cMo_areSame 5 = .ok (.iaload, 1) := by decide +kernel
theorem dMo_areSame_6 : decode cMo_areSame 6 = .ok (.aload_n 0, 1) := by decide +kernel
theorem dMo_areSame_7 : decode cMo_areSame 7 = .ok (.getfield 33, 3) := by decide +kernel
theorem dMo_areSame_10 : decode cMo_areSame 10 = .ok (.iload_n 2, 1) := by decide +kernel
theorem dMo_areSame_11 : decode cMo_areSame 11 = .ok (.iaload, 1) := by decide +kernel
theorem dMo_areSame_12 : decode cMo_areSame 12 = .ok (.if_icmp .ne 64, 3) := by decide +kernel
theorem dMo_areSame_15 : decode cMo_areSame 15 = .ok (.aload_n 0, 1) := by decide +kernel
theorem dMo_areSame_16 : decode cMo_areSame 16 = .ok (.getfield 36, 3) := by decide +kernel
theorem dMo_areSame_19 : decode cMo_areSame 19 = .ok (.iload_n 1, 1) := by decide +kernel
theorem dMo_areSame_20 : decode cMo_areSame 20 = .ok (.iaload, 1) := by decide +kernel
theorem dMo_areSame_21 : decode cMo_areSame 21 = .ok (.aload_n 0, 1) := by decide +kernel
theorem dMo_areSame_22 : decode cMo_areSame 22 = .ok (.getfield 36, 3) := by decide +kernel
theorem dMo_areSame_25 : decode cMo_areSame 25 = .ok (.iload_n 2, 1) := by decide +kernel
theorem dMo_areSame_26 : decode cMo_areSame 26 = .ok (.iaload, 1) := by decide +kernel
theorem dMo_areSame_27 : decode cMo_areSame 27 = .ok (.if_icmp .ne 49, 3) := by decide +kernel
theorem dMo_areSame_30 : decode cMo_areSame 30 = .ok (.aload_n 0, 1) := by decide +kernel
theorem dMo_areSame_31 : decode cMo_areSame 31 = .ok (.getfield 48, 3) := by decide +kernel
theorem dMo_areSame_34 : decode cMo_areSame 34 = .ok (.iload_n 1, 1) := by decide +kernel
theorem dMo_areSame_35 : decode cMo_areSame 35 = .ok (.laload, 1) := by decide +kernel
theorem dMo_areSame_36 : decode cMo_areSame 36 = .ok (.aload_n 0, 1) := by decide +kernel
theorem dMo_areSame_37 : decode cMo_areSame 37 = .ok (.getfield 48, 3) := by decide +kernel
theorem dMo_areSame_40 : decode cMo_areSame 40 = .ok (.iload_n 2, 1) := by decide +kernel
theorem dMo_areSame_41 : decode cMo_areSame 41 = .ok (.laload, 1) := by decide +kernel
theorem dMo_areSame_42 : decode cMo_areSame 42 = .ok (.lcmp, 1) := by decide +kernel
theorem dMo_areSame_43 : decode cMo_areSame 43 = .ok (.ifCond .ne 33, 3) := by decide +kernel
theorem dMo_areSame_46 : decode cMo_areSame 46 = .ok (.aload_n 0, 1) := by decide +kernel
theorem dMo_areSame_47 : decode cMo_areSame 47 = .ok (.getfield 48, 3) := by decide +kernel
theorem dMo_areSame_50 : decode cMo_areSame 50 = .ok (.iload_n 1, 1) := by decide +kernel
theorem dMo_areSame_51 : decode cMo_areSame 51 = .ok (.laload, 1) := by decide +kernel
theorem dMo_areSame_52 : decode cMo_areSame 52 = .ok (.lconst 0, 1) := by decide +kernel
theorem dMo_areSame_53 : decode cMo_areSame 53 = .ok (.lcmp, 1) := by decide +kernel
theorem dMo_areSame_54 : decode cMo_areSame 54 = .ok (.ifCond .eq 18, 3) := by decide +kernel
theorem dMo_areSame_57 : decode cMo_areSame 57 = .ok (.aload_n 0, 1) := by decide +kernel
theorem dMo_areSame_58 : decode cMo_areSame 58 = .ok (.getfield 39, 3) := by decide +kernel
theorem dMo_areSame_61 : decode cMo_areSame 61 = .ok (.iload_n 1, 1) := by decide +kernel
theorem dMo_areSame_62 : decode cMo_areSame 62 = .ok (.iaload, 1) := by decide +kernel
theorem dMo_areSame_63 : decode cMo_areSame 63 = .ok (.aload_n 0, 1) := by decide +kernel
theorem dMo_areSame_64 : decode cMo_areSame 64 = .ok (.getfield 39, 3) := by decide +kernel
theorem dMo_areSame_67 : decode cMo_areSame 67 = .ok (.iload_n 2, 1) := by decide +kernel
theorem dMo_areSame_68 : decode cMo_areSame 68 = .ok (.iaload, 1) := by decide +kernel
theorem dMo_areSame_69 : decode cMo_areSame 69 = .ok (.if_icmp .ne 7, 3) := by decide +kernel
theorem dMo_areSame_72 : decode cMo_areSame 72 = .ok (.iconst 1, 1) := by decide +kernel
theorem dMo_areSame_73 : decode cMo_areSame 73 = .ok (.goto 4, 3) := by decide +kernel
theorem dMo_areSame_76 : decode cMo_areSame 76 = .ok (.iconst 0, 1) := by decide +kernel
theorem dMo_areSame_77 : decode cMo_areSame 77 = .ok (.istore_n 3, 1) := by decide +kernel
theorem dMo_areSame_78 : decode cMo_areSame 78 = .ok (.iconst 0, 1) := by decide +kernel
theorem dMo_areSame_79 : decode cMo_areSame 79 = .ok (.istore 4, 2) := by decide +kernel
theorem dMo_areSame_81 : decode cMo_areSame 81 = .ok (.iload 4, 2) := by decide +kernel
theorem dMo_areSame_83 : decode cMo_areSame 83 = .ok (.bipush 64, 2) := by decide +kernel
theorem dMo_areSame_85 : decode cMo_areSame 85 = .ok (.if_icmp .ge 46, 3) := by decide +kernel
theorem dMo_areSame_88 : decode cMo_areSame 88 = .ok (.iload_n 3, 1) := by decide +kernel
theorem dMo_areSame_89 : decode cMo_areSame 89 = .ok (.ifCond .eq 42, 3) := by decide +kernel
theorem dMo_areSame_92 : decode cMo_areSame 92 = .ok (.aload_n 0, 1) := by decide +kernel
theorem dMo_areSame_93 : decode cMo_areSame 93 = .ok (.getfield 30, 3) := by decide +kernel
theorem dMo_areSame_96 : decode cMo_areSame 96 = .ok (.bipush 64, 2) := by decide +kernel
theorem dMo_areSame_98 : decode cMo_areSame 98 = .ok (.iload_n 1, 1) := by decide +kernel
theorem dMo_areSame_99 : decode cMo_areSame 99 = .ok (.imul, 1) := by decide +kernel
theorem dMo_areSame_100 : decode cMo_areSame 100 = .ok (.iload 4, 2) := by decide +kernel
theorem dMo_areSame_102 : decode cMo_areSame 102 = .ok (.iadd, 1) := by decide +kernel
theorem dMo_areSame_103 : decode cMo_areSame 103 = .ok (.iaload, 1) := by decide +kernel
theorem dMo_areSame_104 : decode cMo_areSame 104 = .ok (.aload_n 0, 1) := by decide +kernel
theorem dMo_areSame_105 : decode cMo_areSame 105 = .ok (.getfield 30, 3) := by decide +kernel
theorem dMo_areSame_108 : decode cMo_areSame 108 = .ok (.bipush 64, 2) := by decide +kernel
theorem dMo_areSame_110 : decode cMo_areSame 110 = .ok (.iload_n 2, 1) := by decide +kernel
theorem dMo_areSame_111 : decode cMo_areSame 111 = .ok (.imul, 1) := by decide +kernel
theorem dMo_areSame_112 : decode cMo_areSame 112 = .ok (.iload 4, 2) := by decide +kernel
theorem dMo_areSame_114 : decode cMo_areSame 114 = .ok (.iadd, 1) := by decide +kernel
theorem dMo_areSame_115 : decode cMo_areSame 115 = .ok (.iaload, 1) := by decide +kernel
theorem dMo_areSame_116 : decode cMo_areSame 116 = .ok (.if_icmp .ne 7, 3) := by decide +kernel
theorem dMo_areSame_119 : decode cMo_areSame 119 = .ok (.iconst 1, 1) := by decide +kernel
theorem dMo_areSame_120 : decode cMo_areSame 120 = .ok (.goto 4, 3) := by decide +kernel
theorem dMo_areSame_123 : decode cMo_areSame 123 = .ok (.iconst 0, 1) := by decide +kernel
theorem dMo_areSame_124 : decode cMo_areSame 124 = .ok (.istore_n 3, 1) := by decide +kernel
theorem dMo_areSame_125 : decode cMo_areSame 125 = .ok (.iinc 4 1, 3) := by decide +kernel
theorem dMo_areSame_128 : decode cMo_areSame 128 = .ok (.goto (-47), 3) := by decide +kernel
theorem dMo_areSame_131 : decode cMo_areSame 131 = .ok (.iload_n 3, 1) := by decide +kernel
theorem dMo_areSame_132 : decode cMo_areSame 132 = .ok (.ireturn, 1) := by decide +kernel

def f_Mo_areSame_81 (oS_pastMen : Nat → Int32) (oS_pastSide : Nat → Int32) (oS_pastRights : Nat → Int32) (oS_pastPassed : Nat → Int32) (oS_pastTakes : Nat → Int64) (a : Int32) (b : Int32) (k0_77 : Int32) : Nat → Int32 → Int32 → Int32
  | 0 => fun _ _ => 0
  | n_81 + 1 => fun v3_81 v4_81 => (if 64 ≤ v4_81 then v3_81 else (if v3_81 = 0 then v3_81 else (if (oS_pastMen ((64 * a) + v4_81).toNatClampNeg) = (oS_pastMen ((64 * b) + v4_81).toNatClampNeg) then (f_Mo_areSame_81 oS_pastMen oS_pastSide oS_pastRights oS_pastPassed oS_pastTakes a b k0_77 n_81) 1 (v4_81 + 1) else (f_Mo_areSame_81 oS_pastMen oS_pastSide oS_pastRights oS_pastPassed oS_pastTakes a b k0_77 n_81) 0 (v4_81 + 1))))
theorem f_Mo_areSame_81_eq (oS_pastMen : Nat → Int32) (oS_pastSide : Nat → Int32) (oS_pastRights : Nat → Int32) (oS_pastPassed : Nat → Int32) (oS_pastTakes : Nat → Int64) (a : Int32) (b : Int32) (k0_77 : Int32) (n_81 : Nat) (v3_81 : Int32) (v4_81 : Int32) : f_Mo_areSame_81 oS_pastMen oS_pastSide oS_pastRights oS_pastPassed oS_pastTakes a b k0_77 (n_81 + 1) v3_81 v4_81 =
  (if 64 ≤ v4_81 then v3_81 else (if v3_81 = 0 then v3_81 else (if (oS_pastMen ((64 * a) + v4_81).toNatClampNeg) = (oS_pastMen ((64 * b) + v4_81).toNatClampNeg) then (f_Mo_areSame_81 oS_pastMen oS_pastSide oS_pastRights oS_pastPassed oS_pastTakes a b k0_77 n_81) 1 (v4_81 + 1) else (f_Mo_areSame_81 oS_pastMen oS_pastSide oS_pastRights oS_pastPassed oS_pastTakes a b k0_77 n_81) 0 (v4_81 + 1)))) := rfl

def f_Mo_areSame_77 (oS_pastMen : Nat → Int32) (oS_pastSide : Nat → Int32) (oS_pastRights : Nat → Int32) (oS_pastPassed : Nat → Int32) (oS_pastTakes : Nat → Int64) (a : Int32) (b : Int32) (k0_77 : Int32) : Int32 :=
  f_Mo_areSame_81 oS_pastMen oS_pastSide oS_pastRights oS_pastPassed oS_pastTakes a b k0_77 (65) k0_77 0
theorem f_Mo_areSame_77_eq (oS_pastMen : Nat → Int32) (oS_pastSide : Nat → Int32) (oS_pastRights : Nat → Int32) (oS_pastPassed : Nat → Int32) (oS_pastTakes : Nat → Int64) (a : Int32) (b : Int32) (k0_77 : Int32) : f_Mo_areSame_77 oS_pastMen oS_pastSide oS_pastRights oS_pastPassed oS_pastTakes a b k0_77 =
  f_Mo_areSame_81 oS_pastMen oS_pastSide oS_pastRights oS_pastPassed oS_pastTakes a b k0_77 (65) k0_77 0 := rfl

def f_Mo_areSame_76 (oS_pastMen : Nat → Int32) (oS_pastSide : Nat → Int32) (oS_pastRights : Nat → Int32) (oS_pastPassed : Nat → Int32) (oS_pastTakes : Nat → Int64) (a : Int32) (b : Int32) : Int32 :=
  f_Mo_areSame_77 oS_pastMen oS_pastSide oS_pastRights oS_pastPassed oS_pastTakes a b 0
theorem f_Mo_areSame_76_eq (oS_pastMen : Nat → Int32) (oS_pastSide : Nat → Int32) (oS_pastRights : Nat → Int32) (oS_pastPassed : Nat → Int32) (oS_pastTakes : Nat → Int64) (a : Int32) (b : Int32) : f_Mo_areSame_76 oS_pastMen oS_pastSide oS_pastRights oS_pastPassed oS_pastTakes a b =
  f_Mo_areSame_77 oS_pastMen oS_pastSide oS_pastRights oS_pastPassed oS_pastTakes a b 0 := rfl

def f_Mo_areSame_72 (oS_pastMen : Nat → Int32) (oS_pastSide : Nat → Int32) (oS_pastRights : Nat → Int32) (oS_pastPassed : Nat → Int32) (oS_pastTakes : Nat → Int64) (a : Int32) (b : Int32) : Int32 :=
  f_Mo_areSame_77 oS_pastMen oS_pastSide oS_pastRights oS_pastPassed oS_pastTakes a b 1
theorem f_Mo_areSame_72_eq (oS_pastMen : Nat → Int32) (oS_pastSide : Nat → Int32) (oS_pastRights : Nat → Int32) (oS_pastPassed : Nat → Int32) (oS_pastTakes : Nat → Int64) (a : Int32) (b : Int32) : f_Mo_areSame_72 oS_pastMen oS_pastSide oS_pastRights oS_pastPassed oS_pastTakes a b =
  f_Mo_areSame_77 oS_pastMen oS_pastSide oS_pastRights oS_pastPassed oS_pastTakes a b 1 := rfl

def f_Mo_areSame (oS_pastMen : Nat → Int32) (oS_pastSide : Nat → Int32) (oS_pastRights : Nat → Int32) (oS_pastPassed : Nat → Int32) (oS_pastTakes : Nat → Int64) (a : Int32) (b : Int32) : Int32 :=
  (if (oS_pastSide a.toNatClampNeg) = (oS_pastSide b.toNatClampNeg) then (if (oS_pastRights a.toNatClampNeg) = (oS_pastRights b.toNatClampNeg) then (if (oS_pastTakes a.toNatClampNeg) = (oS_pastTakes b.toNatClampNeg) then (if (oS_pastTakes a.toNatClampNeg) = 0 then f_Mo_areSame_72 oS_pastMen oS_pastSide oS_pastRights oS_pastPassed oS_pastTakes a b else (if (oS_pastPassed a.toNatClampNeg) = (oS_pastPassed b.toNatClampNeg) then f_Mo_areSame_72 oS_pastMen oS_pastSide oS_pastRights oS_pastPassed oS_pastTakes a b else f_Mo_areSame_76 oS_pastMen oS_pastSide oS_pastRights oS_pastPassed oS_pastTakes a b)) else f_Mo_areSame_76 oS_pastMen oS_pastSide oS_pastRights oS_pastPassed oS_pastTakes a b) else f_Mo_areSame_76 oS_pastMen oS_pastSide oS_pastRights oS_pastPassed oS_pastTakes a b) else f_Mo_areSame_76 oS_pastMen oS_pastSide oS_pastRights oS_pastPassed oS_pastTakes a b)
theorem f_Mo_areSame_eq (oS_pastMen : Nat → Int32) (oS_pastSide : Nat → Int32) (oS_pastRights : Nat → Int32) (oS_pastPassed : Nat → Int32) (oS_pastTakes : Nat → Int64) (a : Int32) (b : Int32) : f_Mo_areSame oS_pastMen oS_pastSide oS_pastRights oS_pastPassed oS_pastTakes a b =
  (if (oS_pastSide a.toNatClampNeg) = (oS_pastSide b.toNatClampNeg) then (if (oS_pastRights a.toNatClampNeg) = (oS_pastRights b.toNatClampNeg) then (if (oS_pastTakes a.toNatClampNeg) = (oS_pastTakes b.toNatClampNeg) then (if (oS_pastTakes a.toNatClampNeg) = 0 then f_Mo_areSame_72 oS_pastMen oS_pastSide oS_pastRights oS_pastPassed oS_pastTakes a b else (if (oS_pastPassed a.toNatClampNeg) = (oS_pastPassed b.toNatClampNeg) then f_Mo_areSame_72 oS_pastMen oS_pastSide oS_pastRights oS_pastPassed oS_pastTakes a b else f_Mo_areSame_76 oS_pastMen oS_pastSide oS_pastRights oS_pastPassed oS_pastTakes a b)) else f_Mo_areSame_76 oS_pastMen oS_pastSide oS_pastRights oS_pastPassed oS_pastTakes a b) else f_Mo_areSame_76 oS_pastMen oS_pastSide oS_pastRights oS_pastPassed oS_pastTakes a b) else f_Mo_areSame_76 oS_pastMen oS_pastSide oS_pastRights oS_pastPassed oS_pastTakes a b) := rfl

set_option maxHeartbeats 4000000 in
set_option maxRecDepth 100000 in
theorem c_Mo_areSame (l : Launch) (dC : Nat → ClassId) (dI : Nat → Nat → Nat) (cI cJ cC : ClassId) (ad : Nat → Nat) (o o_text o_out o_men o_pastMen o_pastSide o_pastRights o_pastPassed o_pastClock o_pastNumber o_pastTakes o_playedMoves o_keptMen o_keptRest o_lists o_counts : Nat) (oS_thrown : Int32) (oS_typed : Int32) (oS_text : Nat → Int32) (oS_told : Int32) (oS_out : Nat → Int32) (oS_men : Nat → Int32) (oS_side : Int32) (oS_rights : Int32) (oS_passed : Int32) (oS_clock : Int32) (oS_number : Int32) (oS_plies : Int32) (oS_pastMen : Nat → Int32) (oS_pastSide : Nat → Int32) (oS_pastRights : Nat → Int32) (oS_pastPassed : Nat → Int32) (oS_pastClock : Nat → Int32) (oS_pastNumber : Nat → Int32) (oS_pastTakes : Nat → Int64) (oS_playedMoves : Nat → Int32) (oS_keptMen : Nat → Int32) (oS_keptRest : Nat → Int32) (oS_lists : Nat → Int32) (oS_counts : Nat → Int32) (a : Int32) (b : Int32) (ha : 0 ≤ a.toInt ∧ a.toInt ≤ 400) (hb9 : 0 ≤ b.toInt ∧ b.toInt ≤ 400) : Met l yMo_areSame wsMo_areSame { frames := 0, cells := 0, slots := 0, locals := 0 } (roP dC dI (TYS cI cJ cC) [.ref o, .int a, .int b] [(o, .inr (6, [.int oS_thrown, .int oS_typed, .ref o_text, .int oS_told, .ref o_out, .ref o_men, .int oS_side, .int oS_rights, .int oS_passed, .int oS_clock, .int oS_number, .int oS_plies, .ref o_pastMen, .ref o_pastSide, .ref o_pastRights, .ref o_pastPassed, .ref o_pastClock, .ref o_pastNumber, .ref o_pastTakes, .ref o_playedMoves, .ref o_keptMen, .ref o_keptRest, .ref o_lists, .ref o_counts])), (o_text, .inl (cC, 100, .inl oS_text)), (o_out, .inl (cC, 100, .inl oS_out)), (o_men, .inl (cI, 64, .inl oS_men)), (o_pastMen, .inl (cI, 25664, .inl oS_pastMen)), (o_pastSide, .inl (cI, 401, .inl oS_pastSide)), (o_pastRights, .inl (cI, 401, .inl oS_pastRights)), (o_pastPassed, .inl (cI, 401, .inl oS_pastPassed)), (o_pastClock, .inl (cI, 401, .inl oS_pastClock)), (o_pastNumber, .inl (cI, 401, .inl oS_pastNumber)), (o_pastTakes, .inl (cJ, 401, .inr (.inl oS_pastTakes))), (o_playedMoves, .inl (cI, 400, .inl oS_playedMoves)), (o_keptMen, .inl (cI, 384, .inl oS_keptMen)), (o_keptRest, .inl (cI, 30, .inl oS_keptRest)), (o_lists, .inl (cI, 8192, .inl oS_lists)), (o_counts, .inl (cI, 4, .inl oS_counts))] (GS ad)) (vp_Si (fun r => r = f_Mo_areSame oS_pastMen oS_pastSide oS_pastRights oS_pastPassed oS_pastTakes a b)) 0 0 (fun _ => False) := by
  refine Met.ofW (cc := cMo_areSame) (maxL := 5) (ret := (some .boolean)) (by decide) rfl ?_
  intro p e s m args below meth c s₁ B hml hv
  obtain ⟨rfl, hP, hK, hG⟩ := hv
  have hx := B.exec
  have hb := B.bytes
  have hr := B.returns
  have hB : ∀ w9 ∈ BIG, w9.before ([.ref o, .int a, .int b]).toArray s = true := fun w9 h => atoms_spec (ws := wsMo_areSame) B.pre w9 (List.mem_cons_of_mem _ h)
  have hown : s.vm.findClass "ChessRulesModel" = some m.cls := findClass_of_methodNamed B.named
  have hlocks := B.notSynchronized
  have hS : va_S (fun _ => False) s.heap s.heap [] := va_S.rf
  have hP : va_P (dC, dI) vwCl [(o, .inr (6, [.int oS_thrown, .int oS_typed, .ref o_text, .int oS_told, .ref o_out, .ref o_men, .int oS_side, .int oS_rights, .int oS_passed, .int oS_clock, .int oS_number, .int oS_plies, .ref o_pastMen, .ref o_pastSide, .ref o_pastRights, .ref o_pastPassed, .ref o_pastClock, .ref o_pastNumber, .ref o_pastTakes, .ref o_playedMoves, .ref o_keptMen, .ref o_keptRest, .ref o_lists, .ref o_counts])), (o_text, .inl (cC, 100, .inl oS_text)), (o_out, .inl (cC, 100, .inl oS_out)), (o_men, .inl (cI, 64, .inl oS_men)), (o_pastMen, .inl (cI, 25664, .inl oS_pastMen)), (o_pastSide, .inl (cI, 401, .inl oS_pastSide)), (o_pastRights, .inl (cI, 401, .inl oS_pastRights)), (o_pastPassed, .inl (cI, 401, .inl oS_pastPassed)), (o_pastClock, .inl (cI, 401, .inl oS_pastClock)), (o_pastNumber, .inl (cI, 401, .inl oS_pastNumber)), (o_pastTakes, .inl (cJ, 401, .inr (.inl oS_pastTakes))), (o_playedMoves, .inl (cI, 400, .inl oS_playedMoves)), (o_keptMen, .inl (cI, 384, .inl oS_keptMen)), (o_keptRest, .inl (cI, 30, .inl oS_keptRest)), (o_lists, .inl (cI, 8192, .inl oS_lists)), (o_counts, .inl (cI, 4, .inl oS_counts))] s.heap := hP
  have hl := lv_entry ([.ref o, .int a, .int b]) (n := 5) (Nat.le_of_ble_eq_true rfl)
  rw [lg_entry_eq]
  generalize (lg_sl ([.ref o, .int a, .int b]) ++ List.replicate (5 - (lg_sl ([.ref o, .int a, .int b])).length) Slot.unset).toArray = ls at hl ⊢
  have hl : lv_has ls 5 [(0, .ref o), (1, .int a), (2, .int b)] := hl
  refine lv_aload_n hx hb dMo_areSame_0 rfl (lv_at hl 0 rfl) ?_
  refine va_get (D := (dC, dI)) (ci := 6) (v := .ref o_pastSide) (C := RMo) (T := TMo) (N := 24) hx hb hB inMo hown hK hP 0 rfl rfl 13 (by decide) (hB _ q5_24) (fun _ h9 => h9) rfl dMo_areSame_1 ?_
  refine lv_iload_n hx hb dMo_areSame_4 rfl (lv_at hl 1 rfl) ?_
  refine va_iald hx hb hK hP 5 0 rfl rfl (vp_in_iff.mpr (by omega)) dMo_areSame_5 ?_
  refine lv_aload_n hx hb dMo_areSame_6 rfl (lv_at hl 0 rfl) ?_
  refine va_get (D := (dC, dI)) (ci := 6) (v := .ref o_pastSide) (C := RMo) (T := TMo) (N := 24) hx hb hB inMo hown hK hP 0 rfl rfl 13 (by decide) (hB _ q5_24) (fun _ h9 => h9) rfl dMo_areSame_7 ?_
  refine lv_iload_n hx hb dMo_areSame_10 rfl (lv_at hl 2 rfl) ?_
  refine va_iald hx hb hK hP 5 0 rfl rfl (vp_in_iff.mpr (by omega)) dMo_areSame_11 ?_
  have J_77 : ∀ (k0_77 : Int32), f_Mo_areSame oS_pastMen oS_pastSide oS_pastRights oS_pastPassed oS_pastTakes a b = f_Mo_areSame_77 oS_pastMen oS_pastSide oS_pastRights oS_pastPassed oS_pastTakes a b k0_77 → (k0_77 = 0 ∨ k0_77 = 1) → ∀ ls : Array Slot, lv_has ls 5 [(0, .ref o), (1, .int a), (2, .int b)] → W p l e (headSpec wsMo_areSame { frames := 0, cells := 0, slots := 0, locals := 0 }).room s m ([.ref o, .int a, .int b]).toArray below meth c s.heap [] 0 0 (MQ below (vp_Si (fun r => r = f_Mo_areSame oS_pastMen oS_pastSide oS_pastRights oS_pastPassed oS_pastTakes a b)) ([.ref o, .int a, .int b]).toArray s 0 0 (fun _ => False)) (F0 m 77 ls [.int k0_77]) := by
    intro k0_77 he_77 hi_77 ls hl
    refine lv_istore_n (lv' := [(3, .int k0_77), (0, .ref o), (1, .int a), (2, .int b)]) hx hb dMo_areSame_77 rfl hl (by decide) rfl (fun ls hl => ?_)
    refine lv_iconst (v := 0) hx hb dMo_areSame_78 (by decide) ?_
    refine lv_istore (lv' := [(4, .int 0), (3, .int k0_77), (0, .ref o), (1, .int a), (2, .int b)]) hx hb dMo_areSame_79 hl (by decide) rfl (fun ls hl => ?_)
    have J_81 : ∀ (n_81 : Nat) (v3_81 : Int32) (v4_81 : Int32), f_Mo_areSame oS_pastMen oS_pastSide oS_pastRights oS_pastPassed oS_pastTakes a b = f_Mo_areSame_81 oS_pastMen oS_pastSide oS_pastRights oS_pastPassed oS_pastTakes a b k0_77 n_81 v3_81 v4_81 → ((0 : Int) ≤ v4_81.toInt ∧ (64 : Int32).toInt - v4_81.toInt + 1 ≤ (n_81 : Int) ∧ (1 : Int) ≤ (n_81 : Int)) → (v3_81 = 0 ∨ v3_81 = 1) → ∀ ls : Array Slot, lv_has ls 5 [(0, .ref o), (1, .int a), (2, .int b), (3, .int v3_81), (4, .int v4_81)] → W p l e (headSpec wsMo_areSame { frames := 0, cells := 0, slots := 0, locals := 0 }).room s m ([.ref o, .int a, .int b]).toArray below meth c s.heap [] 0 0 (MQ below (vp_Si (fun r => r = f_Mo_areSame oS_pastMen oS_pastSide oS_pastRights oS_pastPassed oS_pastTakes a b)) ([.ref o, .int a, .int b]).toArray s 0 0 (fun _ => False)) (F0 m 81 ls []) := by
      intro n_81
      induction n_81 with
      | zero => intro v3_81 v4_81 _ hm_81; exact absurd hm_81 (by omega)
      | succ n_81 ih_81 =>
        intro v3_81 v4_81 he_81 hm_81 hi_81 ls hl
        refine lv_iload hx hb dMo_areSame_81 (lv_at hl 4 rfl) ?_
        refine lv_bipush (v := 64) hx hb dMo_areSame_83 (by decide) ?_
        refine lv_icmp_ge (tgt := 131) hx hb dMo_areSame_85 (by decide) (fun c_1 => ?_) (fun c_1 => ?_)
        · refine lv_iload_n hx hb dMo_areSame_131 rfl (lv_at hl 3 rfl) ?_
          exact ro_retz hx hb hr (nar01 hi_81) hlocks dMo_areSame_132 (Eq.symm (he_81.trans (by rw [f_Mo_areSame_81_eq, if_pos c_1] <;> rfl)))
        · refine lv_iload_n hx hb dMo_areSame_88 rfl (lv_at hl 3 rfl) ?_
          refine lv_if_eq (tgt := 131) hx hb dMo_areSame_89 (by decide) (fun c_2 => ?_) (fun c_2 => ?_)
          · refine lv_iload_n hx hb dMo_areSame_131 rfl (lv_at hl 3 rfl) ?_
            exact ro_retz hx hb hr (nar01 hi_81) hlocks dMo_areSame_132 (Eq.symm (he_81.trans (by rw [f_Mo_areSame_81_eq, if_neg c_1, if_pos c_2] <;> rfl)))
          · refine lv_aload_n hx hb dMo_areSame_92 rfl (lv_at hl 0 rfl) ?_
            refine va_get (D := (dC, dI)) (ci := 6) (v := .ref o_pastMen) (C := RMo) (T := TMo) (N := 24) hx hb hB inMo hown hK hP 0 rfl rfl 12 (by decide) (hB _ q5_23) (fun _ h9 => h9) rfl dMo_areSame_93 ?_
            refine lv_bipush (v := 64) hx hb dMo_areSame_96 (by decide) ?_
            refine lv_iload_n hx hb dMo_areSame_98 rfl (lv_at hl 1 rfl) ?_
            refine lv_imul hx hb dMo_areSame_99 ?_
            refine lv_iload hx hb dMo_areSame_100 (lv_at hl 4 rfl) ?_
            refine lv_iadd hx hb dMo_areSame_102 ?_
            refine va_iald hx hb hK hP 4 0 rfl rfl (lin_64_25664 ha.1 ha.2 (by have z1 := tnle c_1; have z2 := tne c_2; have y0 : (0 : Int32).toInt = 0 := rfl; have y64 : (64 : Int32).toInt = 64 := rfl; omega) (by have z1 := tnle c_1; have z2 := tne c_2; have y0 : (0 : Int32).toInt = 0 := rfl; have y64 : (64 : Int32).toInt = 64 := rfl; omega)) dMo_areSame_103 ?_
            refine lv_aload_n hx hb dMo_areSame_104 rfl (lv_at hl 0 rfl) ?_
            refine va_get (D := (dC, dI)) (ci := 6) (v := .ref o_pastMen) (C := RMo) (T := TMo) (N := 24) hx hb hB inMo hown hK hP 0 rfl rfl 12 (by decide) (hB _ q5_23) (fun _ h9 => h9) rfl dMo_areSame_105 ?_
            refine lv_bipush (v := 64) hx hb dMo_areSame_108 (by decide) ?_
            refine lv_iload_n hx hb dMo_areSame_110 rfl (lv_at hl 2 rfl) ?_
            refine lv_imul hx hb dMo_areSame_111 ?_
            refine lv_iload hx hb dMo_areSame_112 (lv_at hl 4 rfl) ?_
            refine lv_iadd hx hb dMo_areSame_114 ?_
            refine va_iald hx hb hK hP 4 0 rfl rfl (lin_64_25664 hb9.1 hb9.2 (by have z1 := tnle c_1; have z2 := tne c_2; have y0 : (0 : Int32).toInt = 0 := rfl; have y64 : (64 : Int32).toInt = 64 := rfl; omega) (by have z1 := tnle c_1; have z2 := tne c_2; have y0 : (0 : Int32).toInt = 0 := rfl; have y64 : (64 : Int32).toInt = 64 := rfl; omega)) dMo_areSame_115 ?_
            refine lv_icmp_ne (tgt := 123) hx hb dMo_areSame_116 (by decide) (fun c_3 => ?_) (fun c_3 => ?_)
            · refine lv_iconst (v := 0) hx hb dMo_areSame_123 (by decide) ?_
              refine lv_istore_n (lv' := [(3, .int 0), (0, .ref o), (1, .int a), (2, .int b), (4, .int v4_81)]) hx hb dMo_areSame_124 rfl hl (by decide) rfl (fun ls hl => ?_)
              refine lv_iinc (v := v4_81 + 1) (lv' := [(4, .int (v4_81 + 1)), (3, .int 0), (0, .ref o), (1, .int a), (2, .int b)]) hx hb dMo_areSame_125 hl (k := 4) rfl rfl (by decide) rfl (fun ls hl => ?_)
              refine lv_goto (tgt := 81) hx hb dMo_areSame_128 (by decide) ?_
              exact ih_81 0 (v4_81 + 1) (he_81.trans (by rw [f_Mo_areSame_81_eq, if_neg c_1, if_neg c_2, if_neg c_3] <;> rfl)) (by have z1 := tnle c_1; have z2 := tne c_2; have z3 := tne c_3; have y0 : (0 : Int32).toInt = 0 := rfl; have y64 : (64 : Int32).toInt = 64 := rfl; have zr := i_rng (64 : Int32); have zs := i_succ9 v4_81 (by omega); omega) (by first | exact Or.inl rfl | exact Or.inr rfl | exact hi_81) ls (lv_sub hl [2, 3, 4, 1, 0] rfl)
            · refine lv_iconst (v := 1) hx hb dMo_areSame_119 (by decide) ?_
              refine lv_goto (tgt := 124) hx hb dMo_areSame_120 (by decide) ?_
              refine lv_istore_n (lv' := [(3, .int 1), (0, .ref o), (1, .int a), (2, .int b), (4, .int v4_81)]) hx hb dMo_areSame_124 rfl hl (by decide) rfl (fun ls hl => ?_)
              refine lv_iinc (v := v4_81 + 1) (lv' := [(4, .int (v4_81 + 1)), (3, .int 1), (0, .ref o), (1, .int a), (2, .int b)]) hx hb dMo_areSame_125 hl (k := 4) rfl rfl (by decide) rfl (fun ls hl => ?_)
              refine lv_goto (tgt := 81) hx hb dMo_areSame_128 (by decide) ?_
              exact ih_81 1 (v4_81 + 1) (he_81.trans (by rw [f_Mo_areSame_81_eq, if_neg c_1, if_neg c_2, if_pos c_3] <;> rfl)) (by have z1 := tnle c_1; have z2 := tne c_2; have z3 := teq c_3; have y0 : (0 : Int32).toInt = 0 := rfl; have y64 : (64 : Int32).toInt = 64 := rfl; have zr := i_rng (64 : Int32); have zs := i_succ9 v4_81 (by omega); omega) (by first | exact Or.inl rfl | exact Or.inr rfl | exact hi_81) ls (lv_sub hl [2, 3, 4, 1, 0] rfl)
    exact J_81 (65) k0_77 0 (he_77.trans (by rw [f_Mo_areSame_77_eq] <;> rfl)) (by decide) hi_77 ls (lv_sub hl [2, 3, 4, 1, 0] rfl)
  have J_76 : f_Mo_areSame oS_pastMen oS_pastSide oS_pastRights oS_pastPassed oS_pastTakes a b = f_Mo_areSame_76 oS_pastMen oS_pastSide oS_pastRights oS_pastPassed oS_pastTakes a b → ∀ ls : Array Slot, lv_has ls 5 [(0, .ref o), (1, .int a), (2, .int b)] → W p l e (headSpec wsMo_areSame { frames := 0, cells := 0, slots := 0, locals := 0 }).room s m ([.ref o, .int a, .int b]).toArray below meth c s.heap [] 0 0 (MQ below (vp_Si (fun r => r = f_Mo_areSame oS_pastMen oS_pastSide oS_pastRights oS_pastPassed oS_pastTakes a b)) ([.ref o, .int a, .int b]).toArray s 0 0 (fun _ => False)) (F0 m 76 ls []) := by
    intro he_76 ls hl
    refine lv_iconst (v := 0) hx hb dMo_areSame_76 (by decide) ?_
    exact J_77 0 (he_76.trans (by rw [f_Mo_areSame_76_eq] <;> rfl)) (by first | exact Or.inl rfl | exact Or.inr rfl) ls (lv_sub hl [0, 1, 2] rfl)
  refine lv_icmp_ne (tgt := 76) hx hb dMo_areSame_12 (by decide) (fun c_4 => ?_) (fun c_4 => ?_)
  · exact J_76 (by rw [f_Mo_areSame_eq, if_neg c_4] <;> rfl) ls (lv_sub hl [0, 1, 2] rfl)
  · refine lv_aload_n hx hb dMo_areSame_15 rfl (lv_at hl 0 rfl) ?_
    refine va_get (D := (dC, dI)) (ci := 6) (v := .ref o_pastRights) (C := RMo) (T := TMo) (N := 24) hx hb hB inMo hown hK hP 0 rfl rfl 14 (by decide) (hB _ q5_25) (fun _ h9 => h9) rfl dMo_areSame_16 ?_
    refine lv_iload_n hx hb dMo_areSame_19 rfl (lv_at hl 1 rfl) ?_
    refine va_iald hx hb hK hP 6 0 rfl rfl (vp_in_iff.mpr (by omega)) dMo_areSame_20 ?_
    refine lv_aload_n hx hb dMo_areSame_21 rfl (lv_at hl 0 rfl) ?_
    refine va_get (D := (dC, dI)) (ci := 6) (v := .ref o_pastRights) (C := RMo) (T := TMo) (N := 24) hx hb hB inMo hown hK hP 0 rfl rfl 14 (by decide) (hB _ q5_25) (fun _ h9 => h9) rfl dMo_areSame_22 ?_
    refine lv_iload_n hx hb dMo_areSame_25 rfl (lv_at hl 2 rfl) ?_
    refine va_iald hx hb hK hP 6 0 rfl rfl (vp_in_iff.mpr (by omega)) dMo_areSame_26 ?_
    refine lv_icmp_ne (tgt := 76) hx hb dMo_areSame_27 (by decide) (fun c_5 => ?_) (fun c_5 => ?_)
    · exact J_76 (by rw [f_Mo_areSame_eq, if_pos c_4, if_neg c_5] <;> rfl) ls (lv_sub hl [0, 1, 2] rfl)
    · refine lv_aload_n hx hb dMo_areSame_30 rfl (lv_at hl 0 rfl) ?_
      refine va_get (D := (dC, dI)) (ci := 6) (v := .ref o_pastTakes) (C := RMo) (T := TMo) (N := 24) hx hb hB inMo hown hK hP 0 rfl rfl 18 (by decide) (hB _ q5_29) (fun _ h9 => h9) rfl dMo_areSame_31 ?_
      refine lv_iload_n hx hb dMo_areSame_34 rfl (lv_at hl 1 rfl) ?_
      refine va_lald hx hb hK hP 10 1 rfl rfl (vp_in_iff.mpr (by omega)) dMo_areSame_35 ?_
      refine lv_aload_n hx hb dMo_areSame_36 rfl (lv_at hl 0 rfl) ?_
      refine va_get (D := (dC, dI)) (ci := 6) (v := .ref o_pastTakes) (C := RMo) (T := TMo) (N := 24) hx hb hB inMo hown hK hP 0 rfl rfl 18 (by decide) (hB _ q5_29) (fun _ h9 => h9) rfl dMo_areSame_37 ?_
      refine lv_iload_n hx hb dMo_areSame_40 rfl (lv_at hl 2 rfl) ?_
      refine va_lald hx hb hK hP 10 1 rfl rfl (vp_in_iff.mpr (by omega)) dMo_areSame_41 ?_
      refine W.lcmp hx hb dMo_areSame_42 ?_
      refine lv_if_ne (tgt := 76) hx hb dMo_areSame_43 (by decide) (fun q => let_c (h := ¬ (oS_pastTakes a.toNatClampNeg) = (oS_pastTakes b.toNatClampNeg)) (lgc_ne.1 q) (fun c_6 => ?_)) (fun q => let_c (h := (oS_pastTakes a.toNatClampNeg) = (oS_pastTakes b.toNatClampNeg)) (lgc_ne.2 q) (fun c_6 => ?_))
      · exact J_76 (by rw [f_Mo_areSame_eq, if_pos c_4, if_pos c_5, if_neg c_6] <;> rfl) ls (lv_sub hl [0, 1, 2] rfl)
      · refine lv_aload_n hx hb dMo_areSame_46 rfl (lv_at hl 0 rfl) ?_
        refine va_get (D := (dC, dI)) (ci := 6) (v := .ref o_pastTakes) (C := RMo) (T := TMo) (N := 24) hx hb hB inMo hown hK hP 0 rfl rfl 18 (by decide) (hB _ q5_29) (fun _ h9 => h9) rfl dMo_areSame_47 ?_
        refine lv_iload_n hx hb dMo_areSame_50 rfl (lv_at hl 1 rfl) ?_
        refine va_lald hx hb hK hP 10 1 rfl rfl (vp_in_iff.mpr (by omega)) dMo_areSame_51 ?_
        refine lv_lconst (v := 0) hx hb dMo_areSame_52 (by decide) ?_
        refine W.lcmp hx hb dMo_areSame_53 ?_
        have J_72 : f_Mo_areSame oS_pastMen oS_pastSide oS_pastRights oS_pastPassed oS_pastTakes a b = f_Mo_areSame_72 oS_pastMen oS_pastSide oS_pastRights oS_pastPassed oS_pastTakes a b → ∀ ls : Array Slot, lv_has ls 5 [(0, .ref o), (1, .int a), (2, .int b)] → W p l e (headSpec wsMo_areSame { frames := 0, cells := 0, slots := 0, locals := 0 }).room s m ([.ref o, .int a, .int b]).toArray below meth c s.heap [] 0 0 (MQ below (vp_Si (fun r => r = f_Mo_areSame oS_pastMen oS_pastSide oS_pastRights oS_pastPassed oS_pastTakes a b)) ([.ref o, .int a, .int b]).toArray s 0 0 (fun _ => False)) (F0 m 72 ls []) := by
          intro he_72 ls hl
          refine lv_iconst (v := 1) hx hb dMo_areSame_72 (by decide) ?_
          refine lv_goto (tgt := 77) hx hb dMo_areSame_73 (by decide) ?_
          exact J_77 1 (he_72.trans (by rw [f_Mo_areSame_72_eq] <;> rfl)) (by first | exact Or.inl rfl | exact Or.inr rfl) ls (lv_sub hl [0, 1, 2] rfl)
        refine lv_if_eq (tgt := 72) hx hb dMo_areSame_54 (by decide) (fun q => let_c (h := (oS_pastTakes a.toNatClampNeg) = 0) (lgc_eq.1 q) (fun c_7 => ?_)) (fun q => let_c (h := ¬ (oS_pastTakes a.toNatClampNeg) = 0) (lgc_eq.2 q) (fun c_7 => ?_))
        · exact J_72 (by rw [f_Mo_areSame_eq, if_pos c_4, if_pos c_5, if_pos c_6, if_pos c_7] <;> rfl) ls (lv_sub hl [0, 1, 2] rfl)
        · refine lv_aload_n hx hb dMo_areSame_57 rfl (lv_at hl 0 rfl) ?_
          refine va_get (D := (dC, dI)) (ci := 6) (v := .ref o_pastPassed) (C := RMo) (T := TMo) (N := 24) hx hb hB inMo hown hK hP 0 rfl rfl 15 (by decide) (hB _ q5_26) (fun _ h9 => h9) rfl dMo_areSame_58 ?_
          refine lv_iload_n hx hb dMo_areSame_61 rfl (lv_at hl 1 rfl) ?_
          refine va_iald hx hb hK hP 7 0 rfl rfl (vp_in_iff.mpr (by omega)) dMo_areSame_62 ?_
          refine lv_aload_n hx hb dMo_areSame_63 rfl (lv_at hl 0 rfl) ?_
          refine va_get (D := (dC, dI)) (ci := 6) (v := .ref o_pastPassed) (C := RMo) (T := TMo) (N := 24) hx hb hB inMo hown hK hP 0 rfl rfl 15 (by decide) (hB _ q5_26) (fun _ h9 => h9) rfl dMo_areSame_64 ?_
          refine lv_iload_n hx hb dMo_areSame_67 rfl (lv_at hl 2 rfl) ?_
          refine va_iald hx hb hK hP 7 0 rfl rfl (vp_in_iff.mpr (by omega)) dMo_areSame_68 ?_
          refine lv_icmp_ne (tgt := 76) hx hb dMo_areSame_69 (by decide) (fun c_8 => ?_) (fun c_8 => ?_)
          · exact J_76 (by rw [f_Mo_areSame_eq, if_pos c_4, if_pos c_5, if_pos c_6, if_neg c_7, if_neg c_8] <;> rfl) ls (lv_sub hl [0, 1, 2] rfl)
          · exact J_72 (by rw [f_Mo_areSame_eq, if_pos c_4, if_pos c_5, if_pos c_6, if_neg c_7, if_pos c_8] <;> rfl) ls (lv_sub hl [0, 1, 2] rfl)

abbrev cMo_occurrences : ByteArray := prog_11_method_28_code
def yMo_occurrences : MethodName := ⟨"ChessRulesModel", "occurrences", "()I"⟩
def wsMo_occurrences : List Cond := Cond.code yMo_occurrences cMo_occurrences 3 (some .int) :: BIG
theorem dMo_occurrences_0 : decode cMo_occurrences 0 = .ok (.iconst 0, 1) := by decide +kernel
theorem dMo_occurrences_1 : decode cMo_occurrences 1 = .ok (.istore_n 1, 1) := by decide +kernel
theorem dMo_occurrences_2 : decode cMo_occurrences 2 = .ok (.iconst 0, 1) := by decide +kernel
theorem dMo_occurrences_3 : decode cMo_occurrences 3 = .ok (.istore_n 2, 1) := by decide +kernel
theorem dMo_occurrences_4 : decode cMo_occurrences 4 = .ok (.iload_n 2, 1) := by decide +kernel
theorem dMo_occurrences_5 : decode cMo_occurrences 5 = .ok (.aload_n 0, 1) := by decide +kernel
theorem dMo_occurrences_6 : decode cMo_occurrences 6 = .ok (.getfield 153, 3) := by decide +kernel
theorem dMo_occurrences_9 : decode cMo_occurrences 9 = .ok (.if_icmp .gt 29, 3) := by decide +kernel
theorem dMo_occurrences_12 : decode cMo_occurrences 12 = .ok (.aload_n 0, 1) := by decide +kernel
theorem dMo_occurrences_13 : decode cMo_occurrences 13 = .ok (.iload_n 2, 1) := by decide +kernel
theorem dMo_occurrences_14 : decode cMo_occurrences 14 = .ok (.aload_n 0, 1) := by decide +kernel
theorem dMo_occurrences_15 : decode cMo_occurrences 15 = .ok (.getfield 153, 3) := by decide +kernel
theorem dMo_occurrences_18 : decode cMo_occurrences 18 = .ok (.invokevirtual 160, 3) := by decide +kernel
theorem dMo_occurrences_21 : decode cMo_occurrences 21 = .ok (.ifCond .eq 9, 3) := by decide +kernel
theorem dMo_occurrences_24 : decode cMo_occurrences 24 = .ok (.iload_n 1, 1) := by decide +kernel
theorem dMo_occurrences_25 : decode cMo_occurrences 25 = .ok (.iconst 1, 1) := by decide +kernel
theorem dMo_occurrences_26 : decode cMo_occurrences 26 = .ok (.iadd, 1) := by decide +kernel
theorem dMo_occurrences_27 : decode cMo_occurrences 27 = .ok (.goto 4, 3) := by decide +kernel
theorem dMo_occurrences_30 : decode cMo_occurrences 30 = .ok (.iload_n 1, 1) := by decide +kernel
theorem dMo_occurrences_31 : decode cMo_occurrences 31 = .ok (.istore_n 1, 1) := by decide +kernel
theorem dMo_occurrences_32 : decode cMo_occurrences 32 = .ok (.iinc 2 1, 3) := by decide +kernel
theorem dMo_occurrences_35 : decode cMo_occurrences 35 = .ok (.goto (-31), 3) := by decide +kernel
theorem dMo_occurrences_38 : decode cMo_occurrences 38 = .ok (.iload_n 1, 1) := by decide +kernel
theorem dMo_occurrences_39 : decode cMo_occurrences 39 = .ok (.ireturn, 1) := by decide +kernel

def f_Mo_occurrences_4 (oS_plies : Int32) (oS_pastMen : Nat → Int32) (oS_pastSide : Nat → Int32) (oS_pastRights : Nat → Int32) (oS_pastPassed : Nat → Int32) (oS_pastTakes : Nat → Int64) : Nat → Int32 → Int32 → Int32
  | 0 => fun _ _ => 0
  | n_4 + 1 => fun v1_4 v2_4 => (if oS_plies < v2_4 then v1_4 else (if (f_Mo_areSame oS_pastMen oS_pastSide oS_pastRights oS_pastPassed oS_pastTakes v2_4 oS_plies) = 0 then (f_Mo_occurrences_4 oS_plies oS_pastMen oS_pastSide oS_pastRights oS_pastPassed oS_pastTakes n_4) v1_4 (v2_4 + 1) else (f_Mo_occurrences_4 oS_plies oS_pastMen oS_pastSide oS_pastRights oS_pastPassed oS_pastTakes n_4) (v1_4 + 1) (v2_4 + 1)))
theorem f_Mo_occurrences_4_eq (oS_plies : Int32) (oS_pastMen : Nat → Int32) (oS_pastSide : Nat → Int32) (oS_pastRights : Nat → Int32) (oS_pastPassed : Nat → Int32) (oS_pastTakes : Nat → Int64) (n_4 : Nat) (v1_4 : Int32) (v2_4 : Int32) : f_Mo_occurrences_4 oS_plies oS_pastMen oS_pastSide oS_pastRights oS_pastPassed oS_pastTakes (n_4 + 1) v1_4 v2_4 =
  (if oS_plies < v2_4 then v1_4 else (if (f_Mo_areSame oS_pastMen oS_pastSide oS_pastRights oS_pastPassed oS_pastTakes v2_4 oS_plies) = 0 then (f_Mo_occurrences_4 oS_plies oS_pastMen oS_pastSide oS_pastRights oS_pastPassed oS_pastTakes n_4) v1_4 (v2_4 + 1) else (f_Mo_occurrences_4 oS_plies oS_pastMen oS_pastSide oS_pastRights oS_pastPassed oS_pastTakes n_4) (v1_4 + 1) (v2_4 + 1))) := rfl

def f_Mo_occurrences (oS_plies : Int32) (oS_pastMen : Nat → Int32) (oS_pastSide : Nat → Int32) (oS_pastRights : Nat → Int32) (oS_pastPassed : Nat → Int32) (oS_pastTakes : Nat → Int64) : Int32 :=
  f_Mo_occurrences_4 oS_plies oS_pastMen oS_pastSide oS_pastRights oS_pastPassed oS_pastTakes (((oS_plies : Int32).toInt - 0).toNat + 2) 0 0
theorem f_Mo_occurrences_eq (oS_plies : Int32) (oS_pastMen : Nat → Int32) (oS_pastSide : Nat → Int32) (oS_pastRights : Nat → Int32) (oS_pastPassed : Nat → Int32) (oS_pastTakes : Nat → Int64) : f_Mo_occurrences oS_plies oS_pastMen oS_pastSide oS_pastRights oS_pastPassed oS_pastTakes =
  f_Mo_occurrences_4 oS_plies oS_pastMen oS_pastSide oS_pastRights oS_pastPassed oS_pastTakes (((oS_plies : Int32).toInt - 0).toNat + 2) 0 0 := rfl

set_option maxHeartbeats 4000000 in
set_option maxRecDepth 100000 in
theorem c_Mo_occurrences (l : Launch) (dC : Nat → ClassId) (dI : Nat → Nat → Nat) (cI cJ cC : ClassId) (ad : Nat → Nat) (o o_text o_out o_men o_pastMen o_pastSide o_pastRights o_pastPassed o_pastClock o_pastNumber o_pastTakes o_playedMoves o_keptMen o_keptRest o_lists o_counts : Nat) (oS_thrown : Int32) (oS_typed : Int32) (oS_text : Nat → Int32) (oS_told : Int32) (oS_out : Nat → Int32) (oS_men : Nat → Int32) (oS_side : Int32) (oS_rights : Int32) (oS_passed : Int32) (oS_clock : Int32) (oS_number : Int32) (oS_plies : Int32) (oS_pastMen : Nat → Int32) (oS_pastSide : Nat → Int32) (oS_pastRights : Nat → Int32) (oS_pastPassed : Nat → Int32) (oS_pastClock : Nat → Int32) (oS_pastNumber : Nat → Int32) (oS_pastTakes : Nat → Int64) (oS_playedMoves : Nat → Int32) (oS_keptMen : Nat → Int32) (oS_keptRest : Nat → Int32) (oS_lists : Nat → Int32) (oS_counts : Nat → Int32) (hp : 0 ≤ oS_plies.toInt ∧ oS_plies.toInt ≤ 400) : Met l yMo_occurrences wsMo_occurrences { frames := 1, cells := 0, slots := 0, locals := 24 } (roP dC dI (TYS cI cJ cC) [.ref o] [(o, .inr (6, [.int oS_thrown, .int oS_typed, .ref o_text, .int oS_told, .ref o_out, .ref o_men, .int oS_side, .int oS_rights, .int oS_passed, .int oS_clock, .int oS_number, .int oS_plies, .ref o_pastMen, .ref o_pastSide, .ref o_pastRights, .ref o_pastPassed, .ref o_pastClock, .ref o_pastNumber, .ref o_pastTakes, .ref o_playedMoves, .ref o_keptMen, .ref o_keptRest, .ref o_lists, .ref o_counts])), (o_text, .inl (cC, 100, .inl oS_text)), (o_out, .inl (cC, 100, .inl oS_out)), (o_men, .inl (cI, 64, .inl oS_men)), (o_pastMen, .inl (cI, 25664, .inl oS_pastMen)), (o_pastSide, .inl (cI, 401, .inl oS_pastSide)), (o_pastRights, .inl (cI, 401, .inl oS_pastRights)), (o_pastPassed, .inl (cI, 401, .inl oS_pastPassed)), (o_pastClock, .inl (cI, 401, .inl oS_pastClock)), (o_pastNumber, .inl (cI, 401, .inl oS_pastNumber)), (o_pastTakes, .inl (cJ, 401, .inr (.inl oS_pastTakes))), (o_playedMoves, .inl (cI, 400, .inl oS_playedMoves)), (o_keptMen, .inl (cI, 384, .inl oS_keptMen)), (o_keptRest, .inl (cI, 30, .inl oS_keptRest)), (o_lists, .inl (cI, 8192, .inl oS_lists)), (o_counts, .inl (cI, 4, .inl oS_counts))] (GS ad)) (vp_Si (fun r => r = f_Mo_occurrences oS_plies oS_pastMen oS_pastSide oS_pastRights oS_pastPassed oS_pastTakes)) 0 0 (fun _ => False) := by
  refine Met.ofW (cc := cMo_occurrences) (maxL := 3) (ret := (some .int)) (by decide) rfl ?_
  intro p e s m args below meth c s₁ B hml hv
  obtain ⟨rfl, hP, hK, hG⟩ := hv
  have hx := B.exec
  have hb := B.bytes
  have hr := B.returns
  have hB : ∀ w9 ∈ BIG, w9.before ([.ref o]).toArray s = true := fun w9 h => atoms_spec (ws := wsMo_occurrences) B.pre w9 (List.mem_cons_of_mem _ h)
  have hown : s.vm.findClass "ChessRulesModel" = some m.cls := findClass_of_methodNamed B.named
  have hlocks := B.notSynchronized
  have hS : va_S (fun _ => False) s.heap s.heap [] := va_S.rf
  have hP : va_P (dC, dI) vwCl [(o, .inr (6, [.int oS_thrown, .int oS_typed, .ref o_text, .int oS_told, .ref o_out, .ref o_men, .int oS_side, .int oS_rights, .int oS_passed, .int oS_clock, .int oS_number, .int oS_plies, .ref o_pastMen, .ref o_pastSide, .ref o_pastRights, .ref o_pastPassed, .ref o_pastClock, .ref o_pastNumber, .ref o_pastTakes, .ref o_playedMoves, .ref o_keptMen, .ref o_keptRest, .ref o_lists, .ref o_counts])), (o_text, .inl (cC, 100, .inl oS_text)), (o_out, .inl (cC, 100, .inl oS_out)), (o_men, .inl (cI, 64, .inl oS_men)), (o_pastMen, .inl (cI, 25664, .inl oS_pastMen)), (o_pastSide, .inl (cI, 401, .inl oS_pastSide)), (o_pastRights, .inl (cI, 401, .inl oS_pastRights)), (o_pastPassed, .inl (cI, 401, .inl oS_pastPassed)), (o_pastClock, .inl (cI, 401, .inl oS_pastClock)), (o_pastNumber, .inl (cI, 401, .inl oS_pastNumber)), (o_pastTakes, .inl (cJ, 401, .inr (.inl oS_pastTakes))), (o_playedMoves, .inl (cI, 400, .inl oS_playedMoves)), (o_keptMen, .inl (cI, 384, .inl oS_keptMen)), (o_keptRest, .inl (cI, 30, .inl oS_keptRest)), (o_lists, .inl (cI, 8192, .inl oS_lists)), (o_counts, .inl (cI, 4, .inl oS_counts))] s.heap := hP
  have hl := lv_entry ([.ref o]) (n := 3) (Nat.le_of_ble_eq_true rfl)
  rw [lg_entry_eq]
  generalize (lg_sl ([.ref o]) ++ List.replicate (3 - (lg_sl ([.ref o])).length) Slot.unset).toArray = ls at hl ⊢
  have hl : lv_has ls 3 [(0, .ref o)] := hl
  refine lv_iconst (v := 0) hx hb dMo_occurrences_0 (by decide) ?_
  refine lv_istore_n (lv' := [(1, .int 0), (0, .ref o)]) hx hb dMo_occurrences_1 rfl hl (by decide) rfl (fun ls hl => ?_)
  refine lv_iconst (v := 0) hx hb dMo_occurrences_2 (by decide) ?_
  refine lv_istore_n (lv' := [(2, .int 0), (1, .int 0), (0, .ref o)]) hx hb dMo_occurrences_3 rfl hl (by decide) rfl (fun ls hl => ?_)
  have J_4 : ∀ (n_4 : Nat) (v1_4 : Int32) (v2_4 : Int32), f_Mo_occurrences oS_plies oS_pastMen oS_pastSide oS_pastRights oS_pastPassed oS_pastTakes = f_Mo_occurrences_4 oS_plies oS_pastMen oS_pastSide oS_pastRights oS_pastPassed oS_pastTakes n_4 v1_4 v2_4 → ((0 : Int) ≤ v2_4.toInt ∧ (oS_plies : Int32).toInt - v2_4.toInt + 2 ≤ (n_4 : Int) ∧ (1 : Int) ≤ (n_4 : Int)) → ∀ ls : Array Slot, lv_has ls 3 [(0, .ref o), (1, .int v1_4), (2, .int v2_4)] → W p l e (headSpec wsMo_occurrences { frames := 1, cells := 0, slots := 0, locals := 24 }).room s m ([.ref o]).toArray below meth c s.heap [] 0 0 (MQ below (vp_Si (fun r => r = f_Mo_occurrences oS_plies oS_pastMen oS_pastSide oS_pastRights oS_pastPassed oS_pastTakes)) ([.ref o]).toArray s 0 0 (fun _ => False)) (F0 m 4 ls []) := by
    intro n_4
    induction n_4 with
    | zero => intro v1_4 v2_4 _ hm_4; exact absurd hm_4 (by omega)
    | succ n_4 ih_4 =>
      intro v1_4 v2_4 he_4 hm_4 ls hl
      refine lv_iload_n hx hb dMo_occurrences_4 rfl (lv_at hl 2 rfl) ?_
      refine lv_aload_n hx hb dMo_occurrences_5 rfl (lv_at hl 0 rfl) ?_
      refine va_get (D := (dC, dI)) (ci := 6) (v := .int oS_plies) (C := RMo) (T := TMo) (N := 24) hx hb hB inMo hown hK hP 0 rfl rfl 11 (by decide) (hB _ q5_22) (fun _ h9 => h9) rfl dMo_occurrences_6 ?_
      refine lv_icmp_gt (tgt := 38) hx hb dMo_occurrences_9 (by decide) (fun c_1 => ?_) (fun c_1 => ?_)
      · refine lv_iload_n hx hb dMo_occurrences_38 rfl (lv_at hl 1 rfl) ?_
        exact ro_reti hx hb hr hlocks dMo_occurrences_39 (Eq.symm (he_4.trans (by rw [f_Mo_occurrences_4_eq, if_pos c_1] <;> rfl)))
      · refine lv_aload_n hx hb dMo_occurrences_12 rfl (lv_at hl 0 rfl) ?_
        refine lv_iload_n hx hb dMo_occurrences_13 rfl (lv_at hl 2 rfl) ?_
        refine lv_aload_n hx hb dMo_occurrences_14 rfl (lv_at hl 0 rfl) ?_
        refine va_get (D := (dC, dI)) (ci := 6) (v := .int oS_plies) (C := RMo) (T := TMo) (N := 24) hx hb hB inMo hown hK hP 0 rfl rfl 11 (by decide) (hB _ q5_22) (fun _ h9 => h9) rfl dMo_occurrences_15 ?_
        refine ro_goi (va_runV (C := "ChessRulesModel") (As := [.int v2_4, .int oS_plies]) (rest := []) ⟨hx, hb, hml, hown, hB⟩ (c_Mo_areSame l dC dI cI cJ cC ad o o_text o_out o_men o_pastMen o_pastSide o_pastRights o_pastPassed o_pastClock o_pastNumber o_pastTakes o_playedMoves o_keptMen o_keptRest o_lists o_counts oS_thrown oS_typed oS_text oS_told oS_out oS_men oS_side oS_rights oS_passed oS_clock oS_number oS_plies oS_pastMen oS_pastSide oS_pastRights oS_pastPassed oS_pastClock oS_pastNumber oS_pastTakes oS_playedMoves oS_keptMen oS_keptRest oS_lists oS_counts v2_4 oS_plies (by have z1 := tnl c_1; omega) hp) ⟨callB_of 2 hB (big_self q5_136) rfl rfl rfl (hB _ q1_15) (hB _ q5_133) (by decide +kernel) ⟨Nat.le_of_ble_eq_true rfl, Nat.le_of_ble_eq_true rfl⟩, (hB _ q5_135), (hB _ qs6_3)⟩ (ro_preV (GS_ok ad) hK hP hG hS [0, 1, 2, 3, 4, 5, 6, 7, 8, 9, 10, 11, 12, 13, 14, 15] rfl (va_recv hK hP (ci := 6) (q0 := 0) rfl rfl)) rfl rfl hl.1 rfl (lv_room (Nat.le_of_ble_eq_true rfl)) dMo_occurrences_18 ⟨Nat.le_of_ble_eq_true rfl, Nat.le_of_ble_eq_true rfl⟩) ?_
        refine lv_if_eq (tgt := 30) hx hb dMo_occurrences_21 (by decide) (fun c_2 => ?_) (fun c_2 => ?_)
        · refine lv_iload_n hx hb dMo_occurrences_30 rfl (lv_at hl 1 rfl) ?_
          refine lv_istore_n (lv' := [(1, .int v1_4), (0, .ref o), (2, .int v2_4)]) hx hb dMo_occurrences_31 rfl hl (by decide) rfl (fun ls hl => ?_)
          refine lv_iinc (v := v2_4 + 1) (lv' := [(2, .int (v2_4 + 1)), (1, .int v1_4), (0, .ref o)]) hx hb dMo_occurrences_32 hl (k := 2) rfl rfl (by decide) rfl (fun ls hl => ?_)
          refine lv_goto (tgt := 4) hx hb dMo_occurrences_35 (by decide) ?_
          exact ih_4 v1_4 (v2_4 + 1) (he_4.trans (by rw [f_Mo_occurrences_4_eq, if_neg c_1, if_pos c_2] <;> rfl)) (by have z1 := tnl c_1; have z2 := teq c_2; have y0 : (0 : Int32).toInt = 0 := rfl; have zr := i_rng (oS_plies : Int32); have zs := i_succ9 v2_4 (by omega); omega) ls (lv_sub hl [2, 1, 0] rfl)
        · refine lv_iload_n hx hb dMo_occurrences_24 rfl (lv_at hl 1 rfl) ?_
          refine lv_iconst (v := 1) hx hb dMo_occurrences_25 (by decide) ?_
          refine lv_iadd hx hb dMo_occurrences_26 ?_
          refine lv_goto (tgt := 31) hx hb dMo_occurrences_27 (by decide) ?_
          refine lv_istore_n (lv' := [(1, .int (v1_4 + 1)), (0, .ref o), (2, .int v2_4)]) hx hb dMo_occurrences_31 rfl hl (by decide) rfl (fun ls hl => ?_)
          refine lv_iinc (v := v2_4 + 1) (lv' := [(2, .int (v2_4 + 1)), (1, .int (v1_4 + 1)), (0, .ref o)]) hx hb dMo_occurrences_32 hl (k := 2) rfl rfl (by decide) rfl (fun ls hl => ?_)
          refine lv_goto (tgt := 4) hx hb dMo_occurrences_35 (by decide) ?_
          exact ih_4 (v1_4 + 1) (v2_4 + 1) (he_4.trans (by rw [f_Mo_occurrences_4_eq, if_neg c_1, if_neg c_2] <;> rfl)) (by have z1 := tnl c_1; have z2 := tne c_2; have y0 : (0 : Int32).toInt = 0 := rfl; have zr := i_rng (oS_plies : Int32); have zs := i_succ9 v2_4 (by omega); omega) ls (lv_sub hl [2, 1, 0] rfl)
  exact J_4 (((oS_plies : Int32).toInt - 0).toNat + 2) 0 0 (by rw [f_Mo_occurrences_eq] <;> rfl) (by have y0 : (0 : Int32).toInt = 0 := rfl; omega) ls (lv_sub hl [2, 1, 0] rfl)

abbrev cMo_isTooLittle : ByteArray := prog_11_method_29_code
def yMo_isTooLittle : MethodName := ⟨"ChessRulesModel", "isTooLittle", "()Z"⟩
def wsMo_isTooLittle : List Cond := Cond.code yMo_isTooLittle cMo_isTooLittle 7 (some .boolean) :: BIG
theorem dMo_isTooLittle_0 : decode cMo_isTooLittle 0 = .ok (.iconst 0, 1) := by decide +kernel
theorem dMo_isTooLittle_1 : decode cMo_isTooLittle 1 = .ok (.istore_n 1, 1) := by decide +kernel
theorem dMo_isTooLittle_2 : decode cMo_isTooLittle 2 = .ok (.iconst 0, 1) := by decide +kernel
theorem dMo_isTooLittle_3 : decode cMo_isTooLittle 3 = .ok (.istore_n 2, 1) := by decide +kernel
theorem dMo_isTooLittle_4 : decode cMo_isTooLittle 4 = .ok (.iconst 0, 1) := by decide +kernel
theorem dMo_isTooLittle_5 : decode cMo_isTooLittle 5 = .ok (.istore_n 3, 1) := by decide +kernel
theorem dMo_isTooLittle_6 : decode cMo_isTooLittle 6 = .ok (.iconst 0, 1) := by decide +kernel
theorem dMo_isTooLittle_7 : decode cMo_isTooLittle 7 = .ok (.istore 4, 2) := by decide +kernel
theorem dMo_isTooLittle_9 : decode cMo_isTooLittle 9 = .ok (.iconst 0, 1) := by decide +kernel
theorem dMo_isTooLittle_10 : decode cMo_isTooLittle 10 = .ok (.istore 5, 2) := by decide +kernel
theorem dMo_isTooLittle_12 : decode cMo_isTooLittle 12 = .ok (.iload 5, 2) := by decide +kernel
theorem dMo_isTooLittle_14 : decode cMo_isTooLittle 14 = .ok (.bipush 64, 2) := by decide +kernel
theorem dMo_isTooLittle_16 : decode cMo_isTooLittle 16 = .ok (.if_icmp .ge 101, 3) := by decide +kernel
theorem dMo_isTooLittle_19 : decode cMo_isTooLittle 19 = .ok (.aload_n 0, 1) := by decide +kernel
theorem dMo_isTooLittle_20 : decode cMo_isTooLittle 20 = .ok (.getfield 16, 3) := by decide +kernel
theorem dMo_isTooLittle_23 : decode cMo_isTooLittle 23 = .ok (.iload 5, 2) := by decide +kernel
theorem dMo_isTooLittle_25 : decode cMo_isTooLittle 25 = .ok (.iaload, 1) := by decide +kernel
theorem dMo_isTooLittle_26 : decode cMo_isTooLittle 26 = .ok (.invokestatic 85, 3) := by decide +kernel
theorem dMo_isTooLittle_29 : decode cMo_isTooLittle 29 = .ok (.istore 6, 2) := by decide +kernel
theorem dMo_isTooLittle_31 : decode cMo_isTooLittle 31 = .ok (.iload 6, 2) := by decide +kernel
theorem dMo_isTooLittle_33 : decode cMo_isTooLittle 33 = .ok (.iconst 2, 1) := by decide +kernel
theorem dMo_isTooLittle_34 : decode cMo_isTooLittle 34 = .ok (.if_icmp .ne 9, 3) := by decide +kernel
theorem dMo_isTooLittle_37 : decode cMo_isTooLittle 37 = .ok (.iload_n 1, 1) := by decide +kernel
theorem dMo_isTooLittle_38 : decode cMo_isTooLittle 38 = .ok (.iconst 1, 1) := by decide +kernel
theorem dMo_isTooLittle_39 : decode cMo_isTooLittle 39 = .ok (.iadd, 1) := by decide +kernel
theorem dMo_isTooLittle_40 : decode cMo_isTooLittle 40 = .ok (.goto 4, 3) := by decide +kernel
theorem dMo_isTooLittle_43 : decode cMo_isTooLittle 43 = .ok (.iload_n 1, 1) := by decide +kernel
theorem dMo_isTooLittle_44 : decode cMo_isTooLittle 44 = .ok (.istore_n 1, 1) := by decide +kernel
theorem dMo_isTooLittle_45 : decode cMo_isTooLittle 45 = .ok (.iload 6, 2) := by decide +kernel
theorem dMo_isTooLittle_47 : decode cMo_isTooLittle 47 = .ok (.iconst 1, 1) := by decide +kernel
theorem dMo_isTooLittle_48 : decode cMo_isTooLittle 48 = .ok (.if_icmp .eq 15, 3) := by decide +kernel
theorem dMo_isTooLittle_51 : decode cMo_isTooLittle 51 = .ok (.iload 6, 2) := by decide +kernel
theorem dMo_isTooLittle_53 : decode cMo_isTooLittle 53 = .ok (.iconst 4, 1) := by decide +kernel
theorem dMo_isTooLittle_54 : decode cMo_isTooLittle 54 = .ok (.if_icmp .eq 9, 3) := by decide +kernel
theorem dMo_isTooLittle_57 : decode cMo_isTooLittle 57 = .ok (.iload 6, 2) := by decide +kernel
theorem dMo_isTooLittle_59 : decode cMo_isTooLittle 59 = .ok (.iconst 5, 1) := by decide +kernel
theorem dMo_isTooLittle_60 : decode cMo_isTooLittle 60 = .ok (.if_icmp .ne 10, 3) := by decide +kernel
theorem dMo_isTooLittle_63 : decode cMo_isTooLittle 63 = .ok (.iload 4, 2) := by decide +kernel
theorem dMo_isTooLittle_65 : decode cMo_isTooLittle 65 = .ok (.iconst 1, 1) := by decide +kernel
theorem dMo_isTooLittle_66 : decode cMo_isTooLittle 66 = .ok (.iadd, 1) := by decide +kernel
theorem dMo_isTooLittle_67 : decode cMo_isTooLittle 67 = .ok (.goto 5, 3) := by decide +kernel
theorem dMo_isTooLittle_70 : decode cMo_isTooLittle 70 = .ok (.iload 4, 2) := by decide +kernel
theorem dMo_isTooLittle_72 : decode cMo_isTooLittle 72 = .ok (.istore 4, 2) := by decide +kernel
theorem dMo_isTooLittle_74 : decode cMo_isTooLittle 74 = .ok (.iload 6, 2) := by decide +kernel
theorem dMo_isTooLittle_76 : decode cMo_isTooLittle 76 = .ok (.iconst 3, 1) := by decide +kernel
theorem dMo_isTooLittle_77 : decode cMo_isTooLittle 77 = .ok (.if_icmp .ne 25, 3) := by decide +kernel
theorem dMo_isTooLittle_80 : decode cMo_isTooLittle 80 = .ok (.iload 5, 2) := by decide +kernel
theorem dMo_isTooLittle_82 : decode cMo_isTooLittle 82 = .ok (.bipush 8, 2) := by decide +kernel
theorem dMo_isTooLittle_84 : decode cMo_isTooLittle 84 = .ok (.irem, 1) := by decide +kernel
theorem dMo_isTooLittle_85 : decode cMo_isTooLittle 85 = .ok (.iload 5, 2) := by decide +kernel
theorem dMo_isTooLittle_87 : decode cMo_isTooLittle 87 = .ok (.bipush 8, 2) := by decide +kernel
theorem dMo_isTooLittle_89 : decode cMo_isTooLittle 89 = .ok (.idiv, 1) := by decide +kernel
theorem dMo_isTooLittle_90 : decode cMo_isTooLittle 90 = .ok (.iadd, 1) := by decide +kernel
theorem dMo_isTooLittle_91 : decode cMo_isTooLittle 91 = .ok (.iconst 2, 1) := by decide +kernel
theorem dMo_isTooLittle_92 : decode cMo_isTooLittle 92 = .ok (.irem, 1) := by decide +kernel
theorem dMo_isTooLittle_93 : decode cMo_isTooLittle 93 = .ok (.ifCond .ne 9, 3) := by decide +kernel
theorem dMo_isTooLittle_96 : decode cMo_isTooLittle 96 = .ok (.iinc 3 1, 3) := by decide +kernel
theorem dMo_isTooLittle_99 : decode cMo_isTooLittle 99 = .ok (.goto 12, 3) := by decide +kernel
theorem dMo_isTooLittle_102 : decode cMo_isTooLittle 102 = .ok (.iload 6, 2) := by decide +kernel
theorem dMo_isTooLittle_104 : decode cMo_isTooLittle 104 = .ok (.iconst 3, 1) := by decide +kernel
theorem dMo_isTooLittle_105 : decode cMo_isTooLittle 105 = .ok (.if_icmp .ne 6, 3) := by decide +kernel
theorem dMo_isTooLittle_108 : decode cMo_isTooLittle 108 = .ok (.iinc 2 1, 3) := by decide +kernel
theorem dMo_isTooLittle_111 : decode cMo_isTooLittle 111 = .ok (.iinc 5 1, 3) := by decide +kernel
theorem dMo_isTooLittle_114 : decode cMo_isTooLittle 114 = .ok (.goto (-102), 3) := by decide +kernel
theorem dMo_isTooLittle_117 : decode cMo_isTooLittle 117 = .ok (.iload_n 2, 1) := by decide +kernel
theorem dMo_isTooLittle_118 : decode cMo_isTooLittle 118 = .ok (.iload_n 3, 1) := by decide +kernel
theorem dMo_isTooLittle_119 : decode cMo_isTooLittle 119 = .ok (.iadd, 1) := by decide +kernel
theorem dMo_isTooLittle_120 : decode cMo_isTooLittle 120 = .ok (.ifCond .le 7, 3) := by decide +kernel
theorem dMo_isTooLittle_123 : decode cMo_isTooLittle 123 = .ok (.iconst 1, 1) := by decide +kernel
theorem dMo_isTooLittle_124 : decode cMo_isTooLittle 124 = .ok (.goto 4, 3) := by decide +kernel
theorem dMo_isTooLittle_127 : decode cMo_isTooLittle 127 = .ok (.iconst 0, 1) := by decide +kernel
theorem dMo_isTooLittle_128 : decode cMo_isTooLittle 128 = .ok (.istore 5, 2) := by decide +kernel
theorem dMo_isTooLittle_130 : decode cMo_isTooLittle 130 = .ok (.iload 4, 2) := by decide +kernel
theorem dMo_isTooLittle_132 : decode cMo_isTooLittle 132 = .ok (.ifCond .ne 32, 3) := by decide +kernel
theorem dMo_isTooLittle_135 : decode cMo_isTooLittle 135 = .ok (.iload 5, 2) := by decide +kernel
theorem dMo_isTooLittle_137 : decode cMo_isTooLittle 137 = .ok (.ifCond .eq 18, 3) := by decide +kernel
theorem dMo_isTooLittle_140 : decode cMo_isTooLittle 140 = .ok (.iload_n 1, 1) := by decide +kernel
theorem dMo_isTooLittle_141 : decode cMo_isTooLittle 141 = .ok (.ifCond .ne 23, 3) := by decide +kernel
theorem dMo_isTooLittle_144 : decode cMo_isTooLittle 144 = .ok (.iload_n 2, 1) := by decide +kernel
theorem dMo_isTooLittle_145 : decode cMo_isTooLittle 145 = .ok (.ifCond .eq 15, 3) := by decide +kernel
theorem dMo_isTooLittle_148 : decode cMo_isTooLittle 148 = .ok (.iload_n 3, 1) := by decide +kernel
theorem dMo_isTooLittle_149 : decode cMo_isTooLittle 149 = .ok (.ifCond .ne 15, 3) := by decide +kernel
theorem dMo_isTooLittle_152 : decode cMo_isTooLittle 152 = .ok (.goto 8, 3) := by decide +kernel
theorem dMo_isTooLittle_155 : decode cMo_isTooLittle 155 = .ok (.iload_n 1, 1) := by decide +kernel
theorem dMo_isTooLittle_156 : decode cMo_isTooLittle 156 = .ok (.iconst 1, 1) := by decide +kernel
theorem dMo_isTooLittle_157 : decode cMo_isTooLittle 157 = .ok (.if_icmp .gt 7, 3) := by decide +kernel
theorem dMo_isTooLittle_160 : decode cMo_isTooLittle 160 = .ok (.iconst 1, 1) := by decide +kernel
theorem dMo_isTooLittle_161 : decode cMo_isTooLittle 161 = .ok (.goto 4, 3) := by decide +kernel
theorem dMo_isTooLittle_164 : decode cMo_isTooLittle 164 = .ok (.iconst 0, 1) := by decide +kernel
theorem dMo_isTooLittle_165 : decode cMo_isTooLittle 165 = .ok (.ireturn, 1) := by decide +kernel

def f_Mo_isTooLittle_128 (oS_men : Nat → Int32) (v1_12 : Int32) (v2_12 : Int32) (v3_12 : Int32) (v4_12 : Int32) (v5_12 : Int32) (k0_128 : Int32) : Int32 :=
  (if v4_12 = 0 then (if k0_128 = 0 then (if 1 < v1_12 then 0 else 1) else (if v1_12 = 0 then (if v2_12 = 0 then 1 else (if v3_12 = 0 then 1 else 0)) else 0)) else 0)
theorem f_Mo_isTooLittle_128_eq (oS_men : Nat → Int32) (v1_12 : Int32) (v2_12 : Int32) (v3_12 : Int32) (v4_12 : Int32) (v5_12 : Int32) (k0_128 : Int32) : f_Mo_isTooLittle_128 oS_men v1_12 v2_12 v3_12 v4_12 v5_12 k0_128 =
  (if v4_12 = 0 then (if k0_128 = 0 then (if 1 < v1_12 then 0 else 1) else (if v1_12 = 0 then (if v2_12 = 0 then 1 else (if v3_12 = 0 then 1 else 0)) else 0)) else 0) := rfl

def f_Mo_isTooLittle_102 (r_12 : Int32 → Int32 → Int32 → Int32 → Int32 → Int32) (oS_men : Nat → Int32) (v1_12 : Int32) (v2_12 : Int32) (v3_12 : Int32) (v4_12 : Int32) (v5_12 : Int32) (k0_44 : Int32) (k0_72 : Int32) : Int32 :=
  (if (f_Mo_kind (oS_men v5_12.toNatClampNeg)) = 3 then r_12 k0_44 (v2_12 + 1) v3_12 k0_72 (v5_12 + 1) else r_12 k0_44 v2_12 v3_12 k0_72 (v5_12 + 1))
theorem f_Mo_isTooLittle_102_eq (r_12 : Int32 → Int32 → Int32 → Int32 → Int32 → Int32) (oS_men : Nat → Int32) (v1_12 : Int32) (v2_12 : Int32) (v3_12 : Int32) (v4_12 : Int32) (v5_12 : Int32) (k0_44 : Int32) (k0_72 : Int32) : f_Mo_isTooLittle_102 r_12 oS_men v1_12 v2_12 v3_12 v4_12 v5_12 k0_44 k0_72 =
  (if (f_Mo_kind (oS_men v5_12.toNatClampNeg)) = 3 then r_12 k0_44 (v2_12 + 1) v3_12 k0_72 (v5_12 + 1) else r_12 k0_44 v2_12 v3_12 k0_72 (v5_12 + 1)) := rfl

def f_Mo_isTooLittle_72 (r_12 : Int32 → Int32 → Int32 → Int32 → Int32 → Int32) (oS_men : Nat → Int32) (v1_12 : Int32) (v2_12 : Int32) (v3_12 : Int32) (v4_12 : Int32) (v5_12 : Int32) (k0_44 : Int32) (k0_72 : Int32) : Int32 :=
  (if (f_Mo_kind (oS_men v5_12.toNatClampNeg)) = 3 then (if (((v5_12 - v5_12 / 8 * 8) + (v5_12 / 8)) - ((v5_12 - v5_12 / 8 * 8) + (v5_12 / 8)) / 2 * 2) = 0 then r_12 k0_44 v2_12 (v3_12 + 1) k0_72 (v5_12 + 1) else f_Mo_isTooLittle_102 r_12 oS_men v1_12 v2_12 v3_12 v4_12 v5_12 k0_44 k0_72) else f_Mo_isTooLittle_102 r_12 oS_men v1_12 v2_12 v3_12 v4_12 v5_12 k0_44 k0_72)
theorem f_Mo_isTooLittle_72_eq (r_12 : Int32 → Int32 → Int32 → Int32 → Int32 → Int32) (oS_men : Nat → Int32) (v1_12 : Int32) (v2_12 : Int32) (v3_12 : Int32) (v4_12 : Int32) (v5_12 : Int32) (k0_44 : Int32) (k0_72 : Int32) : f_Mo_isTooLittle_72 r_12 oS_men v1_12 v2_12 v3_12 v4_12 v5_12 k0_44 k0_72 =
  (if (f_Mo_kind (oS_men v5_12.toNatClampNeg)) = 3 then (if (((v5_12 - v5_12 / 8 * 8) + (v5_12 / 8)) - ((v5_12 - v5_12 / 8 * 8) + (v5_12 / 8)) / 2 * 2) = 0 then r_12 k0_44 v2_12 (v3_12 + 1) k0_72 (v5_12 + 1) else f_Mo_isTooLittle_102 r_12 oS_men v1_12 v2_12 v3_12 v4_12 v5_12 k0_44 k0_72) else f_Mo_isTooLittle_102 r_12 oS_men v1_12 v2_12 v3_12 v4_12 v5_12 k0_44 k0_72) := rfl

def f_Mo_isTooLittle_63 (r_12 : Int32 → Int32 → Int32 → Int32 → Int32 → Int32) (oS_men : Nat → Int32) (v1_12 : Int32) (v2_12 : Int32) (v3_12 : Int32) (v4_12 : Int32) (v5_12 : Int32) (k0_44 : Int32) : Int32 :=
  f_Mo_isTooLittle_72 r_12 oS_men v1_12 v2_12 v3_12 v4_12 v5_12 k0_44 (v4_12 + 1)
theorem f_Mo_isTooLittle_63_eq (r_12 : Int32 → Int32 → Int32 → Int32 → Int32 → Int32) (oS_men : Nat → Int32) (v1_12 : Int32) (v2_12 : Int32) (v3_12 : Int32) (v4_12 : Int32) (v5_12 : Int32) (k0_44 : Int32) : f_Mo_isTooLittle_63 r_12 oS_men v1_12 v2_12 v3_12 v4_12 v5_12 k0_44 =
  f_Mo_isTooLittle_72 r_12 oS_men v1_12 v2_12 v3_12 v4_12 v5_12 k0_44 (v4_12 + 1) := rfl

def f_Mo_isTooLittle_44 (r_12 : Int32 → Int32 → Int32 → Int32 → Int32 → Int32) (oS_men : Nat → Int32) (v1_12 : Int32) (v2_12 : Int32) (v3_12 : Int32) (v4_12 : Int32) (v5_12 : Int32) (k0_44 : Int32) : Int32 :=
  (if (f_Mo_kind (oS_men v5_12.toNatClampNeg)) = 1 then f_Mo_isTooLittle_63 r_12 oS_men v1_12 v2_12 v3_12 v4_12 v5_12 k0_44 else (if (f_Mo_kind (oS_men v5_12.toNatClampNeg)) = 4 then f_Mo_isTooLittle_63 r_12 oS_men v1_12 v2_12 v3_12 v4_12 v5_12 k0_44 else (if (f_Mo_kind (oS_men v5_12.toNatClampNeg)) = 5 then f_Mo_isTooLittle_63 r_12 oS_men v1_12 v2_12 v3_12 v4_12 v5_12 k0_44 else f_Mo_isTooLittle_72 r_12 oS_men v1_12 v2_12 v3_12 v4_12 v5_12 k0_44 v4_12)))
theorem f_Mo_isTooLittle_44_eq (r_12 : Int32 → Int32 → Int32 → Int32 → Int32 → Int32) (oS_men : Nat → Int32) (v1_12 : Int32) (v2_12 : Int32) (v3_12 : Int32) (v4_12 : Int32) (v5_12 : Int32) (k0_44 : Int32) : f_Mo_isTooLittle_44 r_12 oS_men v1_12 v2_12 v3_12 v4_12 v5_12 k0_44 =
  (if (f_Mo_kind (oS_men v5_12.toNatClampNeg)) = 1 then f_Mo_isTooLittle_63 r_12 oS_men v1_12 v2_12 v3_12 v4_12 v5_12 k0_44 else (if (f_Mo_kind (oS_men v5_12.toNatClampNeg)) = 4 then f_Mo_isTooLittle_63 r_12 oS_men v1_12 v2_12 v3_12 v4_12 v5_12 k0_44 else (if (f_Mo_kind (oS_men v5_12.toNatClampNeg)) = 5 then f_Mo_isTooLittle_63 r_12 oS_men v1_12 v2_12 v3_12 v4_12 v5_12 k0_44 else f_Mo_isTooLittle_72 r_12 oS_men v1_12 v2_12 v3_12 v4_12 v5_12 k0_44 v4_12))) := rfl

def f_Mo_isTooLittle_12 (oS_men : Nat → Int32) : Nat → Int32 → Int32 → Int32 → Int32 → Int32 → Int32
  | 0 => fun _ _ _ _ _ => 0
  | n_12 + 1 => fun v1_12 v2_12 v3_12 v4_12 v5_12 => (if 64 ≤ v5_12 then (if (v2_12 + v3_12) ≤ 0 then f_Mo_isTooLittle_128 oS_men v1_12 v2_12 v3_12 v4_12 v5_12 0 else f_Mo_isTooLittle_128 oS_men v1_12 v2_12 v3_12 v4_12 v5_12 1) else (if (f_Mo_kind (oS_men v5_12.toNatClampNeg)) = 2 then f_Mo_isTooLittle_44 (f_Mo_isTooLittle_12 oS_men n_12) oS_men v1_12 v2_12 v3_12 v4_12 v5_12 (v1_12 + 1) else f_Mo_isTooLittle_44 (f_Mo_isTooLittle_12 oS_men n_12) oS_men v1_12 v2_12 v3_12 v4_12 v5_12 v1_12))
theorem f_Mo_isTooLittle_12_eq (oS_men : Nat → Int32) (n_12 : Nat) (v1_12 : Int32) (v2_12 : Int32) (v3_12 : Int32) (v4_12 : Int32) (v5_12 : Int32) : f_Mo_isTooLittle_12 oS_men (n_12 + 1) v1_12 v2_12 v3_12 v4_12 v5_12 =
  (if 64 ≤ v5_12 then (if (v2_12 + v3_12) ≤ 0 then f_Mo_isTooLittle_128 oS_men v1_12 v2_12 v3_12 v4_12 v5_12 0 else f_Mo_isTooLittle_128 oS_men v1_12 v2_12 v3_12 v4_12 v5_12 1) else (if (f_Mo_kind (oS_men v5_12.toNatClampNeg)) = 2 then f_Mo_isTooLittle_44 (f_Mo_isTooLittle_12 oS_men n_12) oS_men v1_12 v2_12 v3_12 v4_12 v5_12 (v1_12 + 1) else f_Mo_isTooLittle_44 (f_Mo_isTooLittle_12 oS_men n_12) oS_men v1_12 v2_12 v3_12 v4_12 v5_12 v1_12)) := rfl

def f_Mo_isTooLittle (oS_men : Nat → Int32) : Int32 :=
  f_Mo_isTooLittle_12 oS_men (65) 0 0 0 0 0
theorem f_Mo_isTooLittle_eq (oS_men : Nat → Int32) : f_Mo_isTooLittle oS_men =
  f_Mo_isTooLittle_12 oS_men (65) 0 0 0 0 0 := rfl

set_option maxHeartbeats 4000000 in
set_option maxRecDepth 100000 in
theorem c_Mo_isTooLittle (l : Launch) (dC : Nat → ClassId) (dI : Nat → Nat → Nat) (cI cJ cC : ClassId) (ad : Nat → Nat) (o o_text o_out o_men o_pastMen o_pastSide o_pastRights o_pastPassed o_pastClock o_pastNumber o_pastTakes o_playedMoves o_keptMen o_keptRest o_lists o_counts : Nat) (oS_thrown : Int32) (oS_typed : Int32) (oS_text : Nat → Int32) (oS_told : Int32) (oS_out : Nat → Int32) (oS_men : Nat → Int32) (oS_side : Int32) (oS_rights : Int32) (oS_passed : Int32) (oS_clock : Int32) (oS_number : Int32) (oS_plies : Int32) (oS_pastMen : Nat → Int32) (oS_pastSide : Nat → Int32) (oS_pastRights : Nat → Int32) (oS_pastPassed : Nat → Int32) (oS_pastClock : Nat → Int32) (oS_pastNumber : Nat → Int32) (oS_pastTakes : Nat → Int64) (oS_playedMoves : Nat → Int32) (oS_keptMen : Nat → Int32) (oS_keptRest : Nat → Int32) (oS_lists : Nat → Int32) (oS_counts : Nat → Int32) : Met l yMo_isTooLittle wsMo_isTooLittle { frames := 1, cells := 0, slots := 0, locals := 20 } (roP dC dI (TYS cI cJ cC) [.ref o] [(o, .inr (6, [.int oS_thrown, .int oS_typed, .ref o_text, .int oS_told, .ref o_out, .ref o_men, .int oS_side, .int oS_rights, .int oS_passed, .int oS_clock, .int oS_number, .int oS_plies, .ref o_pastMen, .ref o_pastSide, .ref o_pastRights, .ref o_pastPassed, .ref o_pastClock, .ref o_pastNumber, .ref o_pastTakes, .ref o_playedMoves, .ref o_keptMen, .ref o_keptRest, .ref o_lists, .ref o_counts])), (o_text, .inl (cC, 100, .inl oS_text)), (o_out, .inl (cC, 100, .inl oS_out)), (o_men, .inl (cI, 64, .inl oS_men)), (o_pastMen, .inl (cI, 25664, .inl oS_pastMen)), (o_pastSide, .inl (cI, 401, .inl oS_pastSide)), (o_pastRights, .inl (cI, 401, .inl oS_pastRights)), (o_pastPassed, .inl (cI, 401, .inl oS_pastPassed)), (o_pastClock, .inl (cI, 401, .inl oS_pastClock)), (o_pastNumber, .inl (cI, 401, .inl oS_pastNumber)), (o_pastTakes, .inl (cJ, 401, .inr (.inl oS_pastTakes))), (o_playedMoves, .inl (cI, 400, .inl oS_playedMoves)), (o_keptMen, .inl (cI, 384, .inl oS_keptMen)), (o_keptRest, .inl (cI, 30, .inl oS_keptRest)), (o_lists, .inl (cI, 8192, .inl oS_lists)), (o_counts, .inl (cI, 4, .inl oS_counts))] (GS ad)) (vp_Si (fun r => r = f_Mo_isTooLittle oS_men)) 0 0 (fun _ => False) := by
  refine Met.ofW (cc := cMo_isTooLittle) (maxL := 7) (ret := (some .boolean)) (by decide) rfl ?_
  intro p e s m args below meth c s₁ B hml hv
  obtain ⟨rfl, hP, hK, hG⟩ := hv
  have hx := B.exec
  have hb := B.bytes
  have hr := B.returns
  have hB : ∀ w9 ∈ BIG, w9.before ([.ref o]).toArray s = true := fun w9 h => atoms_spec (ws := wsMo_isTooLittle) B.pre w9 (List.mem_cons_of_mem _ h)
  have hown : s.vm.findClass "ChessRulesModel" = some m.cls := findClass_of_methodNamed B.named
  have hlocks := B.notSynchronized
  have hS : va_S (fun _ => False) s.heap s.heap [] := va_S.rf
  have hP : va_P (dC, dI) vwCl [(o, .inr (6, [.int oS_thrown, .int oS_typed, .ref o_text, .int oS_told, .ref o_out, .ref o_men, .int oS_side, .int oS_rights, .int oS_passed, .int oS_clock, .int oS_number, .int oS_plies, .ref o_pastMen, .ref o_pastSide, .ref o_pastRights, .ref o_pastPassed, .ref o_pastClock, .ref o_pastNumber, .ref o_pastTakes, .ref o_playedMoves, .ref o_keptMen, .ref o_keptRest, .ref o_lists, .ref o_counts])), (o_text, .inl (cC, 100, .inl oS_text)), (o_out, .inl (cC, 100, .inl oS_out)), (o_men, .inl (cI, 64, .inl oS_men)), (o_pastMen, .inl (cI, 25664, .inl oS_pastMen)), (o_pastSide, .inl (cI, 401, .inl oS_pastSide)), (o_pastRights, .inl (cI, 401, .inl oS_pastRights)), (o_pastPassed, .inl (cI, 401, .inl oS_pastPassed)), (o_pastClock, .inl (cI, 401, .inl oS_pastClock)), (o_pastNumber, .inl (cI, 401, .inl oS_pastNumber)), (o_pastTakes, .inl (cJ, 401, .inr (.inl oS_pastTakes))), (o_playedMoves, .inl (cI, 400, .inl oS_playedMoves)), (o_keptMen, .inl (cI, 384, .inl oS_keptMen)), (o_keptRest, .inl (cI, 30, .inl oS_keptRest)), (o_lists, .inl (cI, 8192, .inl oS_lists)), (o_counts, .inl (cI, 4, .inl oS_counts))] s.heap := hP
  have hl := lv_entry ([.ref o]) (n := 7) (Nat.le_of_ble_eq_true rfl)
  rw [lg_entry_eq]
  generalize (lg_sl ([.ref o]) ++ List.replicate (7 - (lg_sl ([.ref o])).length) Slot.unset).toArray = ls at hl ⊢
  have hl : lv_has ls 7 [(0, .ref o)] := hl
  refine lv_iconst (v := 0) hx hb dMo_isTooLittle_0 (by decide) ?_
  refine lv_istore_n (lv' := [(1, .int 0), (0, .ref o)]) hx hb dMo_isTooLittle_1 rfl hl (by decide) rfl (fun ls hl => ?_)
  refine lv_iconst (v := 0) hx hb dMo_isTooLittle_2 (by decide) ?_
  refine lv_istore_n (lv' := [(2, .int 0), (1, .int 0), (0, .ref o)]) hx hb dMo_isTooLittle_3 rfl hl (by decide) rfl (fun ls hl => ?_)
  refine lv_iconst (v := 0) hx hb dMo_isTooLittle_4 (by decide) ?_
  refine lv_istore_n (lv' := [(3, .int 0), (2, .int 0), (1, .int 0), (0, .ref o)]) hx hb dMo_isTooLittle_5 rfl hl (by decide) rfl (fun ls hl => ?_)
  refine lv_iconst (v := 0) hx hb dMo_isTooLittle_6 (by decide) ?_
  refine lv_istore (lv' := [(4, .int 0), (3, .int 0), (2, .int 0), (1, .int 0), (0, .ref o)]) hx hb dMo_isTooLittle_7 hl (by decide) rfl (fun ls hl => ?_)
  refine lv_iconst (v := 0) hx hb dMo_isTooLittle_9 (by decide) ?_
  refine lv_istore (lv' := [(5, .int 0), (4, .int 0), (3, .int 0), (2, .int 0), (1, .int 0), (0, .ref o)]) hx hb dMo_isTooLittle_10 hl (by decide) rfl (fun ls hl => ?_)
  have J_12 : ∀ (n_12 : Nat) (v1_12 : Int32) (v2_12 : Int32) (v3_12 : Int32) (v4_12 : Int32) (v5_12 : Int32), f_Mo_isTooLittle oS_men = f_Mo_isTooLittle_12 oS_men n_12 v1_12 v2_12 v3_12 v4_12 v5_12 → ((0 : Int) ≤ v5_12.toInt ∧ (64 : Int32).toInt - v5_12.toInt + 1 ≤ (n_12 : Int) ∧ (1 : Int) ≤ (n_12 : Int)) → ∀ ls : Array Slot, lv_has ls 7 [(0, .ref o), (1, .int v1_12), (2, .int v2_12), (3, .int v3_12), (4, .int v4_12), (5, .int v5_12)] → W p l e (headSpec wsMo_isTooLittle { frames := 1, cells := 0, slots := 0, locals := 20 }).room s m ([.ref o]).toArray below meth c s.heap [] 0 0 (MQ below (vp_Si (fun r => r = f_Mo_isTooLittle oS_men)) ([.ref o]).toArray s 0 0 (fun _ => False)) (F0 m 12 ls []) := by
    intro n_12
    induction n_12 with
    | zero => intro v1_12 v2_12 v3_12 v4_12 v5_12 _ hm_12; exact absurd hm_12 (by omega)
    | succ n_12 ih_12 =>
      intro v1_12 v2_12 v3_12 v4_12 v5_12 he_12 hm_12 ls hl
      refine lv_iload hx hb dMo_isTooLittle_12 (lv_at hl 5 rfl) ?_
      refine lv_bipush (v := 64) hx hb dMo_isTooLittle_14 (by decide) ?_
      refine lv_icmp_ge (tgt := 117) hx hb dMo_isTooLittle_16 (by decide) (fun c_1 => ?_) (fun c_1 => ?_)
      · refine lv_iload_n hx hb dMo_isTooLittle_117 rfl (lv_at hl 2 rfl) ?_
        refine lv_iload_n hx hb dMo_isTooLittle_118 rfl (lv_at hl 3 rfl) ?_
        refine lv_iadd hx hb dMo_isTooLittle_119 ?_
        have J_128 : ∀ (k0_128 : Int32), f_Mo_isTooLittle oS_men = f_Mo_isTooLittle_128 oS_men v1_12 v2_12 v3_12 v4_12 v5_12 k0_128 → ∀ ls : Array Slot, lv_has ls 7 [(1, .int v1_12), (2, .int v2_12), (3, .int v3_12), (4, .int v4_12)] → W p l e (headSpec wsMo_isTooLittle { frames := 1, cells := 0, slots := 0, locals := 20 }).room s m ([.ref o]).toArray below meth c s.heap [] 0 0 (MQ below (vp_Si (fun r => r = f_Mo_isTooLittle oS_men)) ([.ref o]).toArray s 0 0 (fun _ => False)) (F0 m 128 ls [.int k0_128]) := by
          intro k0_128 he_128 ls hl
          refine lv_istore (lv' := [(5, .int k0_128), (1, .int v1_12), (2, .int v2_12), (3, .int v3_12), (4, .int v4_12)]) hx hb dMo_isTooLittle_128 hl (by decide) rfl (fun ls hl => ?_)
          refine lv_iload hx hb dMo_isTooLittle_130 (lv_at hl 4 rfl) ?_
          refine lv_if_ne (tgt := 164) hx hb dMo_isTooLittle_132 (by decide) (fun c_2 => ?_) (fun c_2 => ?_)
          · refine lv_iconst (v := 0) hx hb dMo_isTooLittle_164 (by decide) ?_
            exact ro_retz hx hb hr rfl hlocks dMo_isTooLittle_165 (Eq.symm (he_128.trans (by rw [f_Mo_isTooLittle_128_eq, if_neg c_2] <;> rfl)))
          · refine lv_iload hx hb dMo_isTooLittle_135 (lv_at hl 0 rfl) ?_
            refine lv_if_eq (tgt := 155) hx hb dMo_isTooLittle_137 (by decide) (fun c_3 => ?_) (fun c_3 => ?_)
            · refine lv_iload_n hx hb dMo_isTooLittle_155 rfl (lv_at hl 1 rfl) ?_
              refine lv_iconst (v := 1) hx hb dMo_isTooLittle_156 (by decide) ?_
              refine lv_icmp_gt (tgt := 164) hx hb dMo_isTooLittle_157 (by decide) (fun c_4 => ?_) (fun c_4 => ?_)
              · refine lv_iconst (v := 0) hx hb dMo_isTooLittle_164 (by decide) ?_
                exact ro_retz hx hb hr rfl hlocks dMo_isTooLittle_165 (Eq.symm (he_128.trans (by rw [f_Mo_isTooLittle_128_eq, if_pos c_2, if_pos c_3, if_pos c_4] <;> rfl)))
              · refine lv_iconst (v := 1) hx hb dMo_isTooLittle_160 (by decide) ?_
                refine lv_goto (tgt := 165) hx hb dMo_isTooLittle_161 (by decide) ?_
                exact ro_retz hx hb hr rfl hlocks dMo_isTooLittle_165 (Eq.symm (he_128.trans (by rw [f_Mo_isTooLittle_128_eq, if_pos c_2, if_pos c_3, if_neg c_4] <;> rfl)))
            · refine lv_iload_n hx hb dMo_isTooLittle_140 rfl (lv_at hl 1 rfl) ?_
              refine lv_if_ne (tgt := 164) hx hb dMo_isTooLittle_141 (by decide) (fun c_5 => ?_) (fun c_5 => ?_)
              · refine lv_iconst (v := 0) hx hb dMo_isTooLittle_164 (by decide) ?_
                exact ro_retz hx hb hr rfl hlocks dMo_isTooLittle_165 (Eq.symm (he_128.trans (by rw [f_Mo_isTooLittle_128_eq, if_pos c_2, if_neg c_3, if_neg c_5] <;> rfl)))
              · refine lv_iload_n hx hb dMo_isTooLittle_144 rfl (lv_at hl 2 rfl) ?_
                refine lv_if_eq (tgt := 160) hx hb dMo_isTooLittle_145 (by decide) (fun c_6 => ?_) (fun c_6 => ?_)
                · refine lv_iconst (v := 1) hx hb dMo_isTooLittle_160 (by decide) ?_
                  refine lv_goto (tgt := 165) hx hb dMo_isTooLittle_161 (by decide) ?_
                  exact ro_retz hx hb hr rfl hlocks dMo_isTooLittle_165 (Eq.symm (he_128.trans (by rw [f_Mo_isTooLittle_128_eq, if_pos c_2, if_neg c_3, if_pos c_5, if_pos c_6] <;> rfl)))
                · refine lv_iload_n hx hb dMo_isTooLittle_148 rfl (lv_at hl 3 rfl) ?_
                  refine lv_if_ne (tgt := 164) hx hb dMo_isTooLittle_149 (by decide) (fun c_7 => ?_) (fun c_7 => ?_)
                  · refine lv_iconst (v := 0) hx hb dMo_isTooLittle_164 (by decide) ?_
                    exact ro_retz hx hb hr rfl hlocks dMo_isTooLittle_165 (Eq.symm (he_128.trans (by rw [f_Mo_isTooLittle_128_eq, if_pos c_2, if_neg c_3, if_pos c_5, if_neg c_6, if_neg c_7] <;> rfl)))
                  · refine lv_goto (tgt := 160) hx hb dMo_isTooLittle_152 (by decide) ?_
                    refine lv_iconst (v := 1) hx hb dMo_isTooLittle_160 (by decide) ?_
                    refine lv_goto (tgt := 165) hx hb dMo_isTooLittle_161 (by decide) ?_
                    exact ro_retz hx hb hr rfl hlocks dMo_isTooLittle_165 (Eq.symm (he_128.trans (by rw [f_Mo_isTooLittle_128_eq, if_pos c_2, if_neg c_3, if_pos c_5, if_neg c_6, if_pos c_7] <;> rfl)))
        refine lv_if_le (tgt := 127) hx hb dMo_isTooLittle_120 (by decide) (fun c_8 => ?_) (fun c_8 => ?_)
        · refine lv_iconst (v := 0) hx hb dMo_isTooLittle_127 (by decide) ?_
          exact J_128 0 (he_12.trans (by rw [f_Mo_isTooLittle_12_eq, if_pos c_1, if_pos c_8] <;> rfl)) ls (lv_sub hl [1, 2, 3, 4] rfl)
        · refine lv_iconst (v := 1) hx hb dMo_isTooLittle_123 (by decide) ?_
          refine lv_goto (tgt := 128) hx hb dMo_isTooLittle_124 (by decide) ?_
          exact J_128 1 (he_12.trans (by rw [f_Mo_isTooLittle_12_eq, if_pos c_1, if_neg c_8] <;> rfl)) ls (lv_sub hl [1, 2, 3, 4] rfl)
      · refine lv_aload_n hx hb dMo_isTooLittle_19 rfl (lv_at hl 0 rfl) ?_
        refine va_get (D := (dC, dI)) (ci := 6) (v := .ref o_men) (C := RMo) (T := TMo) (N := 24) hx hb hB inMo hown hK hP 0 rfl rfl 5 (by decide) (hB _ q5_16) (fun _ h9 => h9) rfl dMo_isTooLittle_20 ?_
        refine lv_iload hx hb dMo_isTooLittle_23 (lv_at hl 5 rfl) ?_
        refine va_iald hx hb hK hP 3 0 rfl rfl (vp_in_iff.mpr (by have z1 := tnle c_1; have y64 : (64 : Int32).toInt = 64 := rfl; omega)) dMo_isTooLittle_25 ?_
        refine ro_goi (va_runS (As := [.int (oS_men v5_12.toNatClampNeg)]) (rest := []) ⟨hx, hb, hml, hown, hB⟩ (c_Mo_kind l dC dI cI cJ cC ad (oS_men v5_12.toNatClampNeg)) ⟨callB_of 1 hB (big_self q4_202) rfl rfl rfl (hB _ q1_15) (hB _ q4_200) (by decide +kernel) ⟨Nat.le_of_ble_eq_true rfl, Nat.le_of_ble_eq_true rfl⟩, (hB _ q4_201)⟩ (ro_preS (GS_ok ad) hK hP hG hS [] rfl) rfl rfl hl.1 rfl (lv_room (Nat.le_of_ble_eq_true rfl)) dMo_isTooLittle_26 ⟨Nat.le_of_ble_eq_true rfl, Nat.le_of_ble_eq_true rfl⟩) ?_
        refine lv_istore (lv' := [(6, .int (f_Mo_kind (oS_men v5_12.toNatClampNeg))), (0, .ref o), (1, .int v1_12), (2, .int v2_12), (3, .int v3_12), (4, .int v4_12), (5, .int v5_12)]) hx hb dMo_isTooLittle_29 hl (by decide) rfl (fun ls hl => ?_)
        refine lv_iload hx hb dMo_isTooLittle_31 (lv_at hl 0 rfl) ?_
        refine lv_iconst (v := 2) hx hb dMo_isTooLittle_33 (by decide) ?_
        have J_44 : ∀ (k0_44 : Int32), f_Mo_isTooLittle oS_men = f_Mo_isTooLittle_44 (f_Mo_isTooLittle_12 oS_men n_12) oS_men v1_12 v2_12 v3_12 v4_12 v5_12 k0_44 → ∀ ls : Array Slot, lv_has ls 7 [(0, .ref o), (2, .int v2_12), (3, .int v3_12), (4, .int v4_12), (5, .int v5_12), (6, .int (f_Mo_kind (oS_men v5_12.toNatClampNeg)))] → W p l e (headSpec wsMo_isTooLittle { frames := 1, cells := 0, slots := 0, locals := 20 }).room s m ([.ref o]).toArray below meth c s.heap [] 0 0 (MQ below (vp_Si (fun r => r = f_Mo_isTooLittle oS_men)) ([.ref o]).toArray s 0 0 (fun _ => False)) (F0 m 44 ls [.int k0_44]) := by
          intro k0_44 he_44 ls hl
          refine lv_istore_n (lv' := [(1, .int k0_44), (0, .ref o), (2, .int v2_12), (3, .int v3_12), (4, .int v4_12), (5, .int v5_12), (6, .int (f_Mo_kind (oS_men v5_12.toNatClampNeg)))]) hx hb dMo_isTooLittle_44 rfl hl (by decide) rfl (fun ls hl => ?_)
          refine lv_iload hx hb dMo_isTooLittle_45 (lv_at hl 6 rfl) ?_
          refine lv_iconst (v := 1) hx hb dMo_isTooLittle_47 (by decide) ?_
          have J_72 : ∀ (k0_72 : Int32), f_Mo_isTooLittle oS_men = f_Mo_isTooLittle_72 (f_Mo_isTooLittle_12 oS_men n_12) oS_men v1_12 v2_12 v3_12 v4_12 v5_12 k0_44 k0_72 → ∀ ls : Array Slot, lv_has ls 7 [(0, .ref o), (1, .int k0_44), (2, .int v2_12), (3, .int v3_12), (5, .int v5_12), (6, .int (f_Mo_kind (oS_men v5_12.toNatClampNeg)))] → W p l e (headSpec wsMo_isTooLittle { frames := 1, cells := 0, slots := 0, locals := 20 }).room s m ([.ref o]).toArray below meth c s.heap [] 0 0 (MQ below (vp_Si (fun r => r = f_Mo_isTooLittle oS_men)) ([.ref o]).toArray s 0 0 (fun _ => False)) (F0 m 72 ls [.int k0_72]) := by
            intro k0_72 he_72 ls hl
            refine lv_istore (lv' := [(4, .int k0_72), (0, .ref o), (1, .int k0_44), (2, .int v2_12), (3, .int v3_12), (5, .int v5_12), (6, .int (f_Mo_kind (oS_men v5_12.toNatClampNeg)))]) hx hb dMo_isTooLittle_72 hl (by decide) rfl (fun ls hl => ?_)
            refine lv_iload hx hb dMo_isTooLittle_74 (lv_at hl 6 rfl) ?_
            refine lv_iconst (v := 3) hx hb dMo_isTooLittle_76 (by decide) ?_
            have J_102 : f_Mo_isTooLittle oS_men = f_Mo_isTooLittle_102 (f_Mo_isTooLittle_12 oS_men n_12) oS_men v1_12 v2_12 v3_12 v4_12 v5_12 k0_44 k0_72 → ∀ ls : Array Slot, lv_has ls 7 [(0, .ref o), (1, .int k0_44), (2, .int v2_12), (3, .int v3_12), (4, .int k0_72), (5, .int v5_12), (6, .int (f_Mo_kind (oS_men v5_12.toNatClampNeg)))] → W p l e (headSpec wsMo_isTooLittle { frames := 1, cells := 0, slots := 0, locals := 20 }).room s m ([.ref o]).toArray below meth c s.heap [] 0 0 (MQ below (vp_Si (fun r => r = f_Mo_isTooLittle oS_men)) ([.ref o]).toArray s 0 0 (fun _ => False)) (F0 m 102 ls []) := by
              intro he_102 ls hl
              refine lv_iload hx hb dMo_isTooLittle_102 (lv_at hl 6 rfl) ?_
              refine lv_iconst (v := 3) hx hb dMo_isTooLittle_104 (by decide) ?_
              refine lv_icmp_ne (tgt := 111) hx hb dMo_isTooLittle_105 (by decide) (fun c_9 => ?_) (fun c_9 => ?_)
              · refine lv_iinc (v := v5_12 + 1) (lv' := [(5, .int (v5_12 + 1)), (0, .ref o), (1, .int k0_44), (2, .int v2_12), (3, .int v3_12), (4, .int k0_72), (6, .int (f_Mo_kind (oS_men v5_12.toNatClampNeg)))]) hx hb dMo_isTooLittle_111 hl (k := 5) rfl rfl (by decide) rfl (fun ls hl => ?_)
                refine lv_goto (tgt := 12) hx hb dMo_isTooLittle_114 (by decide) ?_
                exact ih_12 k0_44 v2_12 v3_12 k0_72 (v5_12 + 1) (he_102.trans (by rw [f_Mo_isTooLittle_102_eq, if_neg c_9] <;> rfl)) (by have z1 := tnle c_1; have z2 := tne c_9; have y3 : (3 : Int32).toInt = 3 := rfl; have y64 : (64 : Int32).toInt = 64 := rfl; have zr := i_rng (64 : Int32); have zs := i_succ9 v5_12 (by omega); omega) ls (lv_sub hl [1, 2, 3, 4, 5, 0] rfl)
              · refine lv_iinc (v := v2_12 + 1) (lv' := [(2, .int (v2_12 + 1)), (0, .ref o), (1, .int k0_44), (3, .int v3_12), (4, .int k0_72), (5, .int v5_12), (6, .int (f_Mo_kind (oS_men v5_12.toNatClampNeg)))]) hx hb dMo_isTooLittle_108 hl (k := 2) rfl rfl (by decide) rfl (fun ls hl => ?_)
                refine lv_iinc (v := v5_12 + 1) (lv' := [(5, .int (v5_12 + 1)), (2, .int (v2_12 + 1)), (0, .ref o), (1, .int k0_44), (3, .int v3_12), (4, .int k0_72), (6, .int (f_Mo_kind (oS_men v5_12.toNatClampNeg)))]) hx hb dMo_isTooLittle_111 hl (k := 5) rfl rfl (by decide) rfl (fun ls hl => ?_)
                refine lv_goto (tgt := 12) hx hb dMo_isTooLittle_114 (by decide) ?_
                exact ih_12 k0_44 (v2_12 + 1) v3_12 k0_72 (v5_12 + 1) (he_102.trans (by rw [f_Mo_isTooLittle_102_eq, if_pos c_9] <;> rfl)) (by have z1 := tnle c_1; have z2 := teq c_9; have y3 : (3 : Int32).toInt = 3 := rfl; have y64 : (64 : Int32).toInt = 64 := rfl; have zr := i_rng (64 : Int32); have zs := i_succ9 v5_12 (by omega); omega) ls (lv_sub hl [2, 3, 1, 4, 5, 0] rfl)
            refine lv_icmp_ne (tgt := 102) hx hb dMo_isTooLittle_77 (by decide) (fun c_10 => ?_) (fun c_10 => ?_)
            · exact J_102 (he_72.trans (by rw [f_Mo_isTooLittle_72_eq, if_neg c_10] <;> rfl)) ls (lv_sub hl [1, 2, 3, 4, 0, 5, 6] rfl)
            · refine lv_iload hx hb dMo_isTooLittle_80 (lv_at hl 5 rfl) ?_
              refine lv_bipush (v := 8) hx hb dMo_isTooLittle_82 (by decide) ?_
              refine lv_irem hx hb dMo_isTooLittle_84 (by decide) ?_
              refine lv_iload hx hb dMo_isTooLittle_85 (lv_at hl 5 rfl) ?_
              refine lv_bipush (v := 8) hx hb dMo_isTooLittle_87 (by decide) ?_
              refine lv_idiv hx hb dMo_isTooLittle_89 (by decide) ?_
              refine lv_iadd hx hb dMo_isTooLittle_90 ?_
              refine lv_iconst (v := 2) hx hb dMo_isTooLittle_91 (by decide) ?_
              refine lv_irem hx hb dMo_isTooLittle_92 (by decide) ?_
              refine lv_if_ne (tgt := 102) hx hb dMo_isTooLittle_93 (by decide) (fun c_11 => ?_) (fun c_11 => ?_)
              · exact J_102 (he_72.trans (by rw [f_Mo_isTooLittle_72_eq, if_pos c_10, if_neg c_11] <;> rfl)) ls (lv_sub hl [1, 2, 3, 4, 0, 5, 6] rfl)
              · refine lv_iinc (v := v3_12 + 1) (lv' := [(3, .int (v3_12 + 1)), (4, .int k0_72), (0, .ref o), (1, .int k0_44), (2, .int v2_12), (5, .int v5_12), (6, .int (f_Mo_kind (oS_men v5_12.toNatClampNeg)))]) hx hb dMo_isTooLittle_96 hl (k := 4) rfl rfl (by decide) rfl (fun ls hl => ?_)
                refine lv_goto (tgt := 111) hx hb dMo_isTooLittle_99 (by decide) ?_
                refine lv_iinc (v := v5_12 + 1) (lv' := [(5, .int (v5_12 + 1)), (3, .int (v3_12 + 1)), (4, .int k0_72), (0, .ref o), (1, .int k0_44), (2, .int v2_12), (6, .int (f_Mo_kind (oS_men v5_12.toNatClampNeg)))]) hx hb dMo_isTooLittle_111 hl (k := 5) rfl rfl (by decide) rfl (fun ls hl => ?_)
                refine lv_goto (tgt := 12) hx hb dMo_isTooLittle_114 (by decide) ?_
                exact ih_12 k0_44 v2_12 (v3_12 + 1) k0_72 (v5_12 + 1) (he_72.trans (by rw [f_Mo_isTooLittle_72_eq, if_pos c_10, if_pos c_11] <;> rfl)) (by have z1 := tnle c_1; have z2 := teq c_10; have z3 := teq c_11; have y0 : (0 : Int32).toInt = 0 := rfl; have y2 : (2 : Int32).toInt = 2 := rfl; have y3 : (3 : Int32).toInt = 3 := rfl; have y8 : (8 : Int32).toInt = 8 := rfl; have y64 : (64 : Int32).toInt = 64 := rfl; have zr := i_rng (64 : Int32); have zs := i_succ9 v5_12 (by omega); omega) ls (lv_sub hl [3, 4, 5, 1, 2, 0] rfl)
          have J_63 : f_Mo_isTooLittle oS_men = f_Mo_isTooLittle_63 (f_Mo_isTooLittle_12 oS_men n_12) oS_men v1_12 v2_12 v3_12 v4_12 v5_12 k0_44 → ∀ ls : Array Slot, lv_has ls 7 [(0, .ref o), (1, .int k0_44), (2, .int v2_12), (3, .int v3_12), (4, .int v4_12), (5, .int v5_12), (6, .int (f_Mo_kind (oS_men v5_12.toNatClampNeg)))] → W p l e (headSpec wsMo_isTooLittle { frames := 1, cells := 0, slots := 0, locals := 20 }).room s m ([.ref o]).toArray below meth c s.heap [] 0 0 (MQ below (vp_Si (fun r => r = f_Mo_isTooLittle oS_men)) ([.ref o]).toArray s 0 0 (fun _ => False)) (F0 m 63 ls []) := by
            intro he_63 ls hl
            refine lv_iload hx hb dMo_isTooLittle_63 (lv_at hl 4 rfl) ?_
            refine lv_iconst (v := 1) hx hb dMo_isTooLittle_65 (by decide) ?_
            refine lv_iadd hx hb dMo_isTooLittle_66 ?_
            refine lv_goto (tgt := 72) hx hb dMo_isTooLittle_67 (by decide) ?_
            exact J_72 (v4_12 + 1) (he_63.trans (by rw [f_Mo_isTooLittle_63_eq] <;> rfl)) ls (lv_sub hl [0, 1, 2, 3, 5, 6] rfl)
          refine lv_icmp_eq (tgt := 63) hx hb dMo_isTooLittle_48 (by decide) (fun c_12 => ?_) (fun c_12 => ?_)
          · exact J_63 (he_44.trans (by rw [f_Mo_isTooLittle_44_eq, if_pos c_12] <;> rfl)) ls (lv_sub hl [1, 0, 2, 3, 4, 5, 6] rfl)
          · refine lv_iload hx hb dMo_isTooLittle_51 (lv_at hl 6 rfl) ?_
            refine lv_iconst (v := 4) hx hb dMo_isTooLittle_53 (by decide) ?_
            refine lv_icmp_eq (tgt := 63) hx hb dMo_isTooLittle_54 (by decide) (fun c_13 => ?_) (fun c_13 => ?_)
            · exact J_63 (he_44.trans (by rw [f_Mo_isTooLittle_44_eq, if_neg c_12, if_pos c_13] <;> rfl)) ls (lv_sub hl [1, 0, 2, 3, 4, 5, 6] rfl)
            · refine lv_iload hx hb dMo_isTooLittle_57 (lv_at hl 6 rfl) ?_
              refine lv_iconst (v := 5) hx hb dMo_isTooLittle_59 (by decide) ?_
              refine lv_icmp_ne (tgt := 70) hx hb dMo_isTooLittle_60 (by decide) (fun c_14 => ?_) (fun c_14 => ?_)
              · refine lv_iload hx hb dMo_isTooLittle_70 (lv_at hl 4 rfl) ?_
                exact J_72 v4_12 (he_44.trans (by rw [f_Mo_isTooLittle_44_eq, if_neg c_12, if_neg c_13, if_neg c_14] <;> rfl)) ls (lv_sub hl [1, 0, 2, 3, 5, 6] rfl)
              · exact J_63 (he_44.trans (by rw [f_Mo_isTooLittle_44_eq, if_neg c_12, if_neg c_13, if_pos c_14] <;> rfl)) ls (lv_sub hl [1, 0, 2, 3, 4, 5, 6] rfl)
        refine lv_icmp_ne (tgt := 43) hx hb dMo_isTooLittle_34 (by decide) (fun c_15 => ?_) (fun c_15 => ?_)
        · refine lv_iload_n hx hb dMo_isTooLittle_43 rfl (lv_at hl 2 rfl) ?_
          exact J_44 v1_12 (he_12.trans (by rw [f_Mo_isTooLittle_12_eq, if_neg c_1, if_neg c_15] <;> rfl)) ls (lv_sub hl [1, 3, 4, 5, 6, 0] rfl)
        · refine lv_iload_n hx hb dMo_isTooLittle_37 rfl (lv_at hl 2 rfl) ?_
          refine lv_iconst (v := 1) hx hb dMo_isTooLittle_38 (by decide) ?_
          refine lv_iadd hx hb dMo_isTooLittle_39 ?_
          refine lv_goto (tgt := 44) hx hb dMo_isTooLittle_40 (by decide) ?_
          exact J_44 (v1_12 + 1) (he_12.trans (by rw [f_Mo_isTooLittle_12_eq, if_neg c_1, if_pos c_15] <;> rfl)) ls (lv_sub hl [1, 3, 4, 5, 6, 0] rfl)
  exact J_12 (65) 0 0 0 0 0 (by rw [f_Mo_isTooLittle_eq] <;> rfl) (by decide) ls (lv_sub hl [5, 4, 3, 2, 1, 0] rfl)

abbrev cMo_cut : ByteArray := prog_11_method_44_code
def yMo_cut : MethodName := ⟨"ChessRulesModel", "cut", "(I)Z"⟩
def wsMo_cut : List Cond := Cond.code yMo_cut cMo_cut 2 (some .boolean) :: BIG
theorem dMo_cut_0 : decode cMo_cut 0 = .ok (.aload_n 0, 1) := by decide +kernel
theorem dMo_cut_1 : decode cMo_cut 1 = .ok (.iconst 0, 1) := by decide +kernel
theorem dMo_cut_2 : decode cMo_cut 2 = .ok (.putfield 70, 3) := by decide +kernel
theorem dMo_cut_5 : decode cMo_cut 5 = .ok (.iload_n 1, 1) := by decide +kernel
theorem dMo_cut_6 : decode cMo_cut 6 = .ok (.ifCond .lt 11, 3) := by decide +kernel
theorem dMo_cut_9 : decode cMo_cut 9 = .ok (.iload_n 1, 1) := by decide +kernel
theorem dMo_cut_10 : decode cMo_cut 10 = .ok (.aload_n 0, 1) := by decide +kernel
theorem dMo_cut_11 : decode cMo_cut 11 = .ok (.getfield 177, 3) := by decide +kernel
theorem dMo_cut_14 : decode cMo_cut 14 = .ok (.if_icmp .le 5, 3) := by decide +kernel
theorem dMo_cut_17 : decode cMo_cut 17 = .ok (.iconst 0, 1) := by decide +kernel
theorem dMo_cut_18 : decode cMo_cut 18 = .ok (.ireturn, 1) := by decide +kernel
theorem dMo_cut_19 : decode cMo_cut 19 = .ok (.aload_n 0, 1) := by decide +kernel
theorem dMo_cut_20 : decode cMo_cut 20 = .ok (.iload_n 1, 1) := by decide +kernel
theorem dMo_cut_21 : decode cMo_cut 21 = .ok (.putfield 177, 3) := by decide +kernel
theorem dMo_cut_24 : decode cMo_cut 24 = .ok (.iconst 1, 1) := by decide +kernel
theorem dMo_cut_25 : decode cMo_cut 25 = .ok (.ireturn, 1) := by decide +kernel

def f_Mo_cut (oS_typed : Int32) (n : Int32) : Int32 × Int32 × Int32 :=
  (if n < 0 then (0, 0, oS_typed) else (if n ≤ oS_typed then (1, 0, n) else (0, 0, oS_typed)))
theorem f_Mo_cut_eq (oS_typed : Int32) (n : Int32) : f_Mo_cut oS_typed n =
  (if n < 0 then (0, 0, oS_typed) else (if n ≤ oS_typed then (1, 0, n) else (0, 0, oS_typed))) := rfl

set_option maxHeartbeats 4000000 in
set_option maxRecDepth 100000 in
theorem c_Mo_cut (l : Launch) (dC : Nat → ClassId) (dI : Nat → Nat → Nat) (cI cJ cC : ClassId) (ad : Nat → Nat) (o o_text o_out o_men o_pastMen o_pastSide o_pastRights o_pastPassed o_pastClock o_pastNumber o_pastTakes o_playedMoves o_keptMen o_keptRest o_lists o_counts : Nat) (sz : Nat) (oS_thrown : Int32) (oS_typed : Int32) (oS_text : Nat → Int32) (oS_told : Int32) (oS_out : Nat → Int32) (oS_men : Nat → Int32) (oS_side : Int32) (oS_rights : Int32) (oS_passed : Int32) (oS_clock : Int32) (oS_number : Int32) (oS_plies : Int32) (oS_pastMen : Nat → Int32) (oS_pastSide : Nat → Int32) (oS_pastRights : Nat → Int32) (oS_pastPassed : Nat → Int32) (oS_pastClock : Nat → Int32) (oS_pastNumber : Nat → Int32) (oS_pastTakes : Nat → Int64) (oS_playedMoves : Nat → Int32) (oS_keptMen : Nat → Int32) (oS_keptRest : Nat → Int32) (oS_lists : Nat → Int32) (oS_counts : Nat → Int32) (n : Int32) : Met l yMo_cut wsMo_cut { frames := 0, cells := 0, slots := 0, locals := 0 } (rwP dC dI (TYS cI cJ cC) [.ref o, .int n] [(o, .inr (6, [.int oS_thrown, .int oS_typed, .ref o_text, .int oS_told, .ref o_out, .ref o_men, .int oS_side, .int oS_rights, .int oS_passed, .int oS_clock, .int oS_number, .int oS_plies, .ref o_pastMen, .ref o_pastSide, .ref o_pastRights, .ref o_pastPassed, .ref o_pastClock, .ref o_pastNumber, .ref o_pastTakes, .ref o_playedMoves, .ref o_keptMen, .ref o_keptRest, .ref o_lists, .ref o_counts])), (o_text, .inl (cC, 100, .inl oS_text)), (o_out, .inl (cC, 100, .inl oS_out)), (o_men, .inl (cI, 64, .inl oS_men)), (o_pastMen, .inl (cI, 25664, .inl oS_pastMen)), (o_pastSide, .inl (cI, 401, .inl oS_pastSide)), (o_pastRights, .inl (cI, 401, .inl oS_pastRights)), (o_pastPassed, .inl (cI, 401, .inl oS_pastPassed)), (o_pastClock, .inl (cI, 401, .inl oS_pastClock)), (o_pastNumber, .inl (cI, 401, .inl oS_pastNumber)), (o_pastTakes, .inl (cJ, 401, .inr (.inl oS_pastTakes))), (o_playedMoves, .inl (cI, 400, .inl oS_playedMoves)), (o_keptMen, .inl (cI, 384, .inl oS_keptMen)), (o_keptRest, .inl (cI, 30, .inl oS_keptRest)), (o_lists, .inl (cI, 8192, .inl oS_lists)), (o_counts, .inl (cI, 4, .inl oS_counts))] sz (GS ad)) (va_Qi (fun r (_ : Unit) => r = (f_Mo_cut oS_typed n).1) (rwB dC dI (TYS cI cJ cC) [(o, .inr (6, [.int ((f_Mo_cut oS_typed n).2.1), .int ((f_Mo_cut oS_typed n).2.2), .ref o_text, .int oS_told, .ref o_out, .ref o_men, .int oS_side, .int oS_rights, .int oS_passed, .int oS_clock, .int oS_number, .int oS_plies, .ref o_pastMen, .ref o_pastSide, .ref o_pastRights, .ref o_pastPassed, .ref o_pastClock, .ref o_pastNumber, .ref o_pastTakes, .ref o_playedMoves, .ref o_keptMen, .ref o_keptRest, .ref o_lists, .ref o_counts])), (o_text, .inl (cC, 100, .inl oS_text)), (o_out, .inl (cC, 100, .inl oS_out)), (o_men, .inl (cI, 64, .inl oS_men)), (o_pastMen, .inl (cI, 25664, .inl oS_pastMen)), (o_pastSide, .inl (cI, 401, .inl oS_pastSide)), (o_pastRights, .inl (cI, 401, .inl oS_pastRights)), (o_pastPassed, .inl (cI, 401, .inl oS_pastPassed)), (o_pastClock, .inl (cI, 401, .inl oS_pastClock)), (o_pastNumber, .inl (cI, 401, .inl oS_pastNumber)), (o_pastTakes, .inl (cJ, 401, .inr (.inl oS_pastTakes))), (o_playedMoves, .inl (cI, 400, .inl oS_playedMoves)), (o_keptMen, .inl (cI, 384, .inl oS_keptMen)), (o_keptRest, .inl (cI, 30, .inl oS_keptRest)), (o_lists, .inl (cI, 8192, .inl oS_lists)), (o_counts, .inl (cI, 4, .inl oS_counts))] (va_A [(o, .inr (6, [.int oS_thrown, .int oS_typed, .ref o_text, .int oS_told, .ref o_out, .ref o_men, .int oS_side, .int oS_rights, .int oS_passed, .int oS_clock, .int oS_number, .int oS_plies, .ref o_pastMen, .ref o_pastSide, .ref o_pastRights, .ref o_pastPassed, .ref o_pastClock, .ref o_pastNumber, .ref o_pastTakes, .ref o_playedMoves, .ref o_keptMen, .ref o_keptRest, .ref o_lists, .ref o_counts])), (o_text, .inl (cC, 100, .inl oS_text)), (o_out, .inl (cC, 100, .inl oS_out)), (o_men, .inl (cI, 64, .inl oS_men)), (o_pastMen, .inl (cI, 25664, .inl oS_pastMen)), (o_pastSide, .inl (cI, 401, .inl oS_pastSide)), (o_pastRights, .inl (cI, 401, .inl oS_pastRights)), (o_pastPassed, .inl (cI, 401, .inl oS_pastPassed)), (o_pastClock, .inl (cI, 401, .inl oS_pastClock)), (o_pastNumber, .inl (cI, 401, .inl oS_pastNumber)), (o_pastTakes, .inl (cJ, 401, .inr (.inl oS_pastTakes))), (o_playedMoves, .inl (cI, 400, .inl oS_playedMoves)), (o_keptMen, .inl (cI, 384, .inl oS_keptMen)), (o_keptRest, .inl (cI, 30, .inl oS_keptRest)), (o_lists, .inl (cI, 8192, .inl oS_lists)), (o_counts, .inl (cI, 4, .inl oS_counts))] sz)) (va_A [(o, .inr (6, [.int oS_thrown, .int oS_typed, .ref o_text, .int oS_told, .ref o_out, .ref o_men, .int oS_side, .int oS_rights, .int oS_passed, .int oS_clock, .int oS_number, .int oS_plies, .ref o_pastMen, .ref o_pastSide, .ref o_pastRights, .ref o_pastPassed, .ref o_pastClock, .ref o_pastNumber, .ref o_pastTakes, .ref o_playedMoves, .ref o_keptMen, .ref o_keptRest, .ref o_lists, .ref o_counts])), (o_text, .inl (cC, 100, .inl oS_text)), (o_out, .inl (cC, 100, .inl oS_out)), (o_men, .inl (cI, 64, .inl oS_men)), (o_pastMen, .inl (cI, 25664, .inl oS_pastMen)), (o_pastSide, .inl (cI, 401, .inl oS_pastSide)), (o_pastRights, .inl (cI, 401, .inl oS_pastRights)), (o_pastPassed, .inl (cI, 401, .inl oS_pastPassed)), (o_pastClock, .inl (cI, 401, .inl oS_pastClock)), (o_pastNumber, .inl (cI, 401, .inl oS_pastNumber)), (o_pastTakes, .inl (cJ, 401, .inr (.inl oS_pastTakes))), (o_playedMoves, .inl (cI, 400, .inl oS_playedMoves)), (o_keptMen, .inl (cI, 384, .inl oS_keptMen)), (o_keptRest, .inl (cI, 30, .inl oS_keptRest)), (o_lists, .inl (cI, 8192, .inl oS_lists)), (o_counts, .inl (cI, 4, .inl oS_counts))] sz)) 0 0 (va_A [(o, .inr (6, [.int oS_thrown, .int oS_typed, .ref o_text, .int oS_told, .ref o_out, .ref o_men, .int oS_side, .int oS_rights, .int oS_passed, .int oS_clock, .int oS_number, .int oS_plies, .ref o_pastMen, .ref o_pastSide, .ref o_pastRights, .ref o_pastPassed, .ref o_pastClock, .ref o_pastNumber, .ref o_pastTakes, .ref o_playedMoves, .ref o_keptMen, .ref o_keptRest, .ref o_lists, .ref o_counts])), (o_text, .inl (cC, 100, .inl oS_text)), (o_out, .inl (cC, 100, .inl oS_out)), (o_men, .inl (cI, 64, .inl oS_men)), (o_pastMen, .inl (cI, 25664, .inl oS_pastMen)), (o_pastSide, .inl (cI, 401, .inl oS_pastSide)), (o_pastRights, .inl (cI, 401, .inl oS_pastRights)), (o_pastPassed, .inl (cI, 401, .inl oS_pastPassed)), (o_pastClock, .inl (cI, 401, .inl oS_pastClock)), (o_pastNumber, .inl (cI, 401, .inl oS_pastNumber)), (o_pastTakes, .inl (cJ, 401, .inr (.inl oS_pastTakes))), (o_playedMoves, .inl (cI, 400, .inl oS_playedMoves)), (o_keptMen, .inl (cI, 384, .inl oS_keptMen)), (o_keptRest, .inl (cI, 30, .inl oS_keptRest)), (o_lists, .inl (cI, 8192, .inl oS_lists)), (o_counts, .inl (cI, 4, .inl oS_counts))] sz) := by
  refine Met.ofW (cc := cMo_cut) (maxL := 2) (ret := (some .boolean)) (by decide) rfl ?_
  intro p e s m args below meth c s₁ B hml hv
  obtain ⟨rfl, hsz, hP, hK, hD0, hG⟩ := hv
  have hx := B.exec
  have hb := B.bytes
  have hr := B.returns
  have hB : ∀ w9 ∈ BIG, w9.before ([.ref o, .int n]).toArray s = true := fun w9 h => atoms_spec (ws := wsMo_cut) B.pre w9 (List.mem_cons_of_mem _ h)
  have hown : s.vm.findClass "ChessRulesModel" = some m.cls := findClass_of_methodNamed B.named
  have hlocks := B.notSynchronized
  subst hsz
  have hD := hD0.self (sz := s.heap.size)
  generalize hAe : va_A [(o, .inr (6, [.int oS_thrown, .int oS_typed, .ref o_text, .int oS_told, .ref o_out, .ref o_men, .int oS_side, .int oS_rights, .int oS_passed, .int oS_clock, .int oS_number, .int oS_plies, .ref o_pastMen, .ref o_pastSide, .ref o_pastRights, .ref o_pastPassed, .ref o_pastClock, .ref o_pastNumber, .ref o_pastTakes, .ref o_playedMoves, .ref o_keptMen, .ref o_keptRest, .ref o_lists, .ref o_counts])), (o_text, .inl (cC, 100, .inl oS_text)), (o_out, .inl (cC, 100, .inl oS_out)), (o_men, .inl (cI, 64, .inl oS_men)), (o_pastMen, .inl (cI, 25664, .inl oS_pastMen)), (o_pastSide, .inl (cI, 401, .inl oS_pastSide)), (o_pastRights, .inl (cI, 401, .inl oS_pastRights)), (o_pastPassed, .inl (cI, 401, .inl oS_pastPassed)), (o_pastClock, .inl (cI, 401, .inl oS_pastClock)), (o_pastNumber, .inl (cI, 401, .inl oS_pastNumber)), (o_pastTakes, .inl (cJ, 401, .inr (.inl oS_pastTakes))), (o_playedMoves, .inl (cI, 400, .inl oS_playedMoves)), (o_keptMen, .inl (cI, 384, .inl oS_keptMen)), (o_keptRest, .inl (cI, 30, .inl oS_keptRest)), (o_lists, .inl (cI, 8192, .inl oS_lists)), (o_counts, .inl (cI, 4, .inl oS_counts))] s.heap.size = A at hD hG ⊢
  have hA : ∀ q : Nat, s.heap.size ≤ q → A q := fun q h => by rw [← hAe]; exact Or.inr h
  have hS : va_S A s.heap s.heap [] := va_S.rf
  have hP : va_P (dC, dI) vwCl [(o, .inr (6, [.int oS_thrown, .int oS_typed, .ref o_text, .int oS_told, .ref o_out, .ref o_men, .int oS_side, .int oS_rights, .int oS_passed, .int oS_clock, .int oS_number, .int oS_plies, .ref o_pastMen, .ref o_pastSide, .ref o_pastRights, .ref o_pastPassed, .ref o_pastClock, .ref o_pastNumber, .ref o_pastTakes, .ref o_playedMoves, .ref o_keptMen, .ref o_keptRest, .ref o_lists, .ref o_counts])), (o_text, .inl (cC, 100, .inl oS_text)), (o_out, .inl (cC, 100, .inl oS_out)), (o_men, .inl (cI, 64, .inl oS_men)), (o_pastMen, .inl (cI, 25664, .inl oS_pastMen)), (o_pastSide, .inl (cI, 401, .inl oS_pastSide)), (o_pastRights, .inl (cI, 401, .inl oS_pastRights)), (o_pastPassed, .inl (cI, 401, .inl oS_pastPassed)), (o_pastClock, .inl (cI, 401, .inl oS_pastClock)), (o_pastNumber, .inl (cI, 401, .inl oS_pastNumber)), (o_pastTakes, .inl (cJ, 401, .inr (.inl oS_pastTakes))), (o_playedMoves, .inl (cI, 400, .inl oS_playedMoves)), (o_keptMen, .inl (cI, 384, .inl oS_keptMen)), (o_keptRest, .inl (cI, 30, .inl oS_keptRest)), (o_lists, .inl (cI, 8192, .inl oS_lists)), (o_counts, .inl (cI, 4, .inl oS_counts))] s.heap := hP
  have hl := lv_entry ([.ref o, .int n]) (n := 2) (Nat.le_of_ble_eq_true rfl)
  rw [lg_entry_eq]
  generalize (lg_sl ([.ref o, .int n]) ++ List.replicate (2 - (lg_sl ([.ref o, .int n])).length) Slot.unset).toArray = ls at hl ⊢
  have hl : lv_has ls 2 [(0, .ref o), (1, .int n)] := hl
  refine lv_aload_n hx hb dMo_cut_0 rfl (lv_at hl 0 rfl) ?_
  refine lv_iconst (v := 0) hx hb dMo_cut_1 (by decide) ?_
  refine va_put (D := (dC, dI)) (ci := 6) (v := .int 0) (ty := .int) (C := RMo) (T := TMo) (N := 24) hx hb hB inMo tyMo tyMo_ok nmMo hown hK hP hD hS 0 rfl rfl 0 (by decide) (hB _ q5_11) (fun _ h9 => h9) rfl (by decide +kernel) rfl rfl (Nat.le_of_ble_eq_true rfl) dMo_cut_2 (fun H locs hP hD hS => ?_)
  have hP : va_P (dC, dI) vwCl [(o, .inr (6, [.int 0, .int oS_typed, .ref o_text, .int oS_told, .ref o_out, .ref o_men, .int oS_side, .int oS_rights, .int oS_passed, .int oS_clock, .int oS_number, .int oS_plies, .ref o_pastMen, .ref o_pastSide, .ref o_pastRights, .ref o_pastPassed, .ref o_pastClock, .ref o_pastNumber, .ref o_pastTakes, .ref o_playedMoves, .ref o_keptMen, .ref o_keptRest, .ref o_lists, .ref o_counts])), (o_text, .inl (cC, 100, .inl oS_text)), (o_out, .inl (cC, 100, .inl oS_out)), (o_men, .inl (cI, 64, .inl oS_men)), (o_pastMen, .inl (cI, 25664, .inl oS_pastMen)), (o_pastSide, .inl (cI, 401, .inl oS_pastSide)), (o_pastRights, .inl (cI, 401, .inl oS_pastRights)), (o_pastPassed, .inl (cI, 401, .inl oS_pastPassed)), (o_pastClock, .inl (cI, 401, .inl oS_pastClock)), (o_pastNumber, .inl (cI, 401, .inl oS_pastNumber)), (o_pastTakes, .inl (cJ, 401, .inr (.inl oS_pastTakes))), (o_playedMoves, .inl (cI, 400, .inl oS_playedMoves)), (o_keptMen, .inl (cI, 384, .inl oS_keptMen)), (o_keptRest, .inl (cI, 30, .inl oS_keptRest)), (o_lists, .inl (cI, 8192, .inl oS_lists)), (o_counts, .inl (cI, 4, .inl oS_counts))] H := hP
  have hD : va_D A [(o, .inr (6, [.int 0, .int oS_typed, .ref o_text, .int oS_told, .ref o_out, .ref o_men, .int oS_side, .int oS_rights, .int oS_passed, .int oS_clock, .int oS_number, .int oS_plies, .ref o_pastMen, .ref o_pastSide, .ref o_pastRights, .ref o_pastPassed, .ref o_pastClock, .ref o_pastNumber, .ref o_pastTakes, .ref o_playedMoves, .ref o_keptMen, .ref o_keptRest, .ref o_lists, .ref o_counts])), (o_text, .inl (cC, 100, .inl oS_text)), (o_out, .inl (cC, 100, .inl oS_out)), (o_men, .inl (cI, 64, .inl oS_men)), (o_pastMen, .inl (cI, 25664, .inl oS_pastMen)), (o_pastSide, .inl (cI, 401, .inl oS_pastSide)), (o_pastRights, .inl (cI, 401, .inl oS_pastRights)), (o_pastPassed, .inl (cI, 401, .inl oS_pastPassed)), (o_pastClock, .inl (cI, 401, .inl oS_pastClock)), (o_pastNumber, .inl (cI, 401, .inl oS_pastNumber)), (o_pastTakes, .inl (cJ, 401, .inr (.inl oS_pastTakes))), (o_playedMoves, .inl (cI, 400, .inl oS_playedMoves)), (o_keptMen, .inl (cI, 384, .inl oS_keptMen)), (o_keptRest, .inl (cI, 30, .inl oS_keptRest)), (o_lists, .inl (cI, 8192, .inl oS_lists)), (o_counts, .inl (cI, 4, .inl oS_counts))] := hD
  refine lv_iload_n hx hb dMo_cut_5 rfl (lv_at hl 1 rfl) ?_
  refine lv_if_lt (tgt := 17) hx hb dMo_cut_6 (by decide) (fun c_1 => ?_) (fun c_1 => ?_)
  · refine lv_iconst (v := 0) hx hb dMo_cut_17 (by decide) ?_
    have hv : f_Mo_cut oS_typed n = (0, 0, oS_typed) := (by rw [f_Mo_cut_eq, if_pos c_1] <;> rfl)
    have hP9 : va_P (dC, dI) vwCl [(o, .inr (6, [.int ((f_Mo_cut oS_typed n).2.1), .int ((f_Mo_cut oS_typed n).2.2), .ref o_text, .int oS_told, .ref o_out, .ref o_men, .int oS_side, .int oS_rights, .int oS_passed, .int oS_clock, .int oS_number, .int oS_plies, .ref o_pastMen, .ref o_pastSide, .ref o_pastRights, .ref o_pastPassed, .ref o_pastClock, .ref o_pastNumber, .ref o_pastTakes, .ref o_playedMoves, .ref o_keptMen, .ref o_keptRest, .ref o_lists, .ref o_counts])), (o_text, .inl (cC, 100, .inl oS_text)), (o_out, .inl (cC, 100, .inl oS_out)), (o_men, .inl (cI, 64, .inl oS_men)), (o_pastMen, .inl (cI, 25664, .inl oS_pastMen)), (o_pastSide, .inl (cI, 401, .inl oS_pastSide)), (o_pastRights, .inl (cI, 401, .inl oS_pastRights)), (o_pastPassed, .inl (cI, 401, .inl oS_pastPassed)), (o_pastClock, .inl (cI, 401, .inl oS_pastClock)), (o_pastNumber, .inl (cI, 401, .inl oS_pastNumber)), (o_pastTakes, .inl (cJ, 401, .inr (.inl oS_pastTakes))), (o_playedMoves, .inl (cI, 400, .inl oS_playedMoves)), (o_keptMen, .inl (cI, 384, .inl oS_keptMen)), (o_keptRest, .inl (cI, 30, .inl oS_keptRest)), (o_lists, .inl (cI, 8192, .inl oS_lists)), (o_counts, .inl (cI, 4, .inl oS_counts))] H := by first | (rw [hv]; exact hP.sub [0, 1, 2, 3, 4, 5, 6, 7, 8, 9, 10, 11, 12, 13, 14, 15] rfl) | exact hP.sub [0, 1, 2, 3, 4, 5, 6, 7, 8, 9, 10, 11, 12, 13, 14, 15] rfl
    have hD9 : va_D A [(o, .inr (6, [.int ((f_Mo_cut oS_typed n).2.1), .int ((f_Mo_cut oS_typed n).2.2), .ref o_text, .int oS_told, .ref o_out, .ref o_men, .int oS_side, .int oS_rights, .int oS_passed, .int oS_clock, .int oS_number, .int oS_plies, .ref o_pastMen, .ref o_pastSide, .ref o_pastRights, .ref o_pastPassed, .ref o_pastClock, .ref o_pastNumber, .ref o_pastTakes, .ref o_playedMoves, .ref o_keptMen, .ref o_keptRest, .ref o_lists, .ref o_counts])), (o_text, .inl (cC, 100, .inl oS_text)), (o_out, .inl (cC, 100, .inl oS_out)), (o_men, .inl (cI, 64, .inl oS_men)), (o_pastMen, .inl (cI, 25664, .inl oS_pastMen)), (o_pastSide, .inl (cI, 401, .inl oS_pastSide)), (o_pastRights, .inl (cI, 401, .inl oS_pastRights)), (o_pastPassed, .inl (cI, 401, .inl oS_pastPassed)), (o_pastClock, .inl (cI, 401, .inl oS_pastClock)), (o_pastNumber, .inl (cI, 401, .inl oS_pastNumber)), (o_pastTakes, .inl (cJ, 401, .inr (.inl oS_pastTakes))), (o_playedMoves, .inl (cI, 400, .inl oS_playedMoves)), (o_keptMen, .inl (cI, 384, .inl oS_keptMen)), (o_keptRest, .inl (cI, 30, .inl oS_keptRest)), (o_lists, .inl (cI, 8192, .inl oS_lists)), (o_counts, .inl (cI, 4, .inl oS_counts))] := by first | (rw [hv]; exact hD.sub [0, 1, 2, 3, 4, 5, 6, 7, 8, 9, 10, 11, 12, 13, 14, 15] (by decide) rfl) | exact hD.sub [0, 1, 2, 3, 4, 5, 6, 7, 8, 9, 10, 11, 12, 13, 14, 15] (by decide) rfl
    exact rw_retz hx hb hr rfl hlocks hK hP9 hD9 hS dMo_cut_18 (by rw [hv])
  · refine lv_iload_n hx hb dMo_cut_9 rfl (lv_at hl 1 rfl) ?_
    refine lv_aload_n hx hb dMo_cut_10 rfl (lv_at hl 0 rfl) ?_
    refine va_get (D := (dC, dI)) (ci := 6) (v := .int oS_typed) (C := RMo) (T := TMo) (N := 24) hx hb hB inMo hown hK hP 0 rfl rfl 1 (by decide) (hB _ q5_12) (fun _ h9 => h9) rfl dMo_cut_11 ?_
    refine lv_icmp_le (tgt := 19) hx hb dMo_cut_14 (by decide) (fun c_2 => ?_) (fun c_2 => ?_)
    · refine lv_aload_n hx hb dMo_cut_19 rfl (lv_at hl 0 rfl) ?_
      refine lv_iload_n hx hb dMo_cut_20 rfl (lv_at hl 1 rfl) ?_
      refine va_put (D := (dC, dI)) (ci := 6) (v := .int n) (ty := .int) (C := RMo) (T := TMo) (N := 24) hx hb hB inMo tyMo tyMo_ok nmMo hown hK hP hD hS 0 rfl rfl 1 (by decide) (hB _ q5_12) (fun _ h9 => h9) rfl (by decide +kernel) rfl rfl (Nat.le_of_ble_eq_true rfl) dMo_cut_21 (fun H locs hP hD hS => ?_)
      have hP : va_P (dC, dI) vwCl [(o, .inr (6, [.int 0, .int n, .ref o_text, .int oS_told, .ref o_out, .ref o_men, .int oS_side, .int oS_rights, .int oS_passed, .int oS_clock, .int oS_number, .int oS_plies, .ref o_pastMen, .ref o_pastSide, .ref o_pastRights, .ref o_pastPassed, .ref o_pastClock, .ref o_pastNumber, .ref o_pastTakes, .ref o_playedMoves, .ref o_keptMen, .ref o_keptRest, .ref o_lists, .ref o_counts])), (o_text, .inl (cC, 100, .inl oS_text)), (o_out, .inl (cC, 100, .inl oS_out)), (o_men, .inl (cI, 64, .inl oS_men)), (o_pastMen, .inl (cI, 25664, .inl oS_pastMen)), (o_pastSide, .inl (cI, 401, .inl oS_pastSide)), (o_pastRights, .inl (cI, 401, .inl oS_pastRights)), (o_pastPassed, .inl (cI, 401, .inl oS_pastPassed)), (o_pastClock, .inl (cI, 401, .inl oS_pastClock)), (o_pastNumber, .inl (cI, 401, .inl oS_pastNumber)), (o_pastTakes, .inl (cJ, 401, .inr (.inl oS_pastTakes))), (o_playedMoves, .inl (cI, 400, .inl oS_playedMoves)), (o_keptMen, .inl (cI, 384, .inl oS_keptMen)), (o_keptRest, .inl (cI, 30, .inl oS_keptRest)), (o_lists, .inl (cI, 8192, .inl oS_lists)), (o_counts, .inl (cI, 4, .inl oS_counts))] H := hP
      have hD : va_D A [(o, .inr (6, [.int 0, .int n, .ref o_text, .int oS_told, .ref o_out, .ref o_men, .int oS_side, .int oS_rights, .int oS_passed, .int oS_clock, .int oS_number, .int oS_plies, .ref o_pastMen, .ref o_pastSide, .ref o_pastRights, .ref o_pastPassed, .ref o_pastClock, .ref o_pastNumber, .ref o_pastTakes, .ref o_playedMoves, .ref o_keptMen, .ref o_keptRest, .ref o_lists, .ref o_counts])), (o_text, .inl (cC, 100, .inl oS_text)), (o_out, .inl (cC, 100, .inl oS_out)), (o_men, .inl (cI, 64, .inl oS_men)), (o_pastMen, .inl (cI, 25664, .inl oS_pastMen)), (o_pastSide, .inl (cI, 401, .inl oS_pastSide)), (o_pastRights, .inl (cI, 401, .inl oS_pastRights)), (o_pastPassed, .inl (cI, 401, .inl oS_pastPassed)), (o_pastClock, .inl (cI, 401, .inl oS_pastClock)), (o_pastNumber, .inl (cI, 401, .inl oS_pastNumber)), (o_pastTakes, .inl (cJ, 401, .inr (.inl oS_pastTakes))), (o_playedMoves, .inl (cI, 400, .inl oS_playedMoves)), (o_keptMen, .inl (cI, 384, .inl oS_keptMen)), (o_keptRest, .inl (cI, 30, .inl oS_keptRest)), (o_lists, .inl (cI, 8192, .inl oS_lists)), (o_counts, .inl (cI, 4, .inl oS_counts))] := hD
      refine lv_iconst (v := 1) hx hb dMo_cut_24 (by decide) ?_
      have hv : f_Mo_cut oS_typed n = (1, 0, n) := (by rw [f_Mo_cut_eq, if_neg c_1, if_pos c_2] <;> rfl)
      have hP9 : va_P (dC, dI) vwCl [(o, .inr (6, [.int ((f_Mo_cut oS_typed n).2.1), .int ((f_Mo_cut oS_typed n).2.2), .ref o_text, .int oS_told, .ref o_out, .ref o_men, .int oS_side, .int oS_rights, .int oS_passed, .int oS_clock, .int oS_number, .int oS_plies, .ref o_pastMen, .ref o_pastSide, .ref o_pastRights, .ref o_pastPassed, .ref o_pastClock, .ref o_pastNumber, .ref o_pastTakes, .ref o_playedMoves, .ref o_keptMen, .ref o_keptRest, .ref o_lists, .ref o_counts])), (o_text, .inl (cC, 100, .inl oS_text)), (o_out, .inl (cC, 100, .inl oS_out)), (o_men, .inl (cI, 64, .inl oS_men)), (o_pastMen, .inl (cI, 25664, .inl oS_pastMen)), (o_pastSide, .inl (cI, 401, .inl oS_pastSide)), (o_pastRights, .inl (cI, 401, .inl oS_pastRights)), (o_pastPassed, .inl (cI, 401, .inl oS_pastPassed)), (o_pastClock, .inl (cI, 401, .inl oS_pastClock)), (o_pastNumber, .inl (cI, 401, .inl oS_pastNumber)), (o_pastTakes, .inl (cJ, 401, .inr (.inl oS_pastTakes))), (o_playedMoves, .inl (cI, 400, .inl oS_playedMoves)), (o_keptMen, .inl (cI, 384, .inl oS_keptMen)), (o_keptRest, .inl (cI, 30, .inl oS_keptRest)), (o_lists, .inl (cI, 8192, .inl oS_lists)), (o_counts, .inl (cI, 4, .inl oS_counts))] H := by first | (rw [hv]; exact hP.sub [0, 1, 2, 3, 4, 5, 6, 7, 8, 9, 10, 11, 12, 13, 14, 15] rfl) | exact hP.sub [0, 1, 2, 3, 4, 5, 6, 7, 8, 9, 10, 11, 12, 13, 14, 15] rfl
      have hD9 : va_D A [(o, .inr (6, [.int ((f_Mo_cut oS_typed n).2.1), .int ((f_Mo_cut oS_typed n).2.2), .ref o_text, .int oS_told, .ref o_out, .ref o_men, .int oS_side, .int oS_rights, .int oS_passed, .int oS_clock, .int oS_number, .int oS_plies, .ref o_pastMen, .ref o_pastSide, .ref o_pastRights, .ref o_pastPassed, .ref o_pastClock, .ref o_pastNumber, .ref o_pastTakes, .ref o_playedMoves, .ref o_keptMen, .ref o_keptRest, .ref o_lists, .ref o_counts])), (o_text, .inl (cC, 100, .inl oS_text)), (o_out, .inl (cC, 100, .inl oS_out)), (o_men, .inl (cI, 64, .inl oS_men)), (o_pastMen, .inl (cI, 25664, .inl oS_pastMen)), (o_pastSide, .inl (cI, 401, .inl oS_pastSide)), (o_pastRights, .inl (cI, 401, .inl oS_pastRights)), (o_pastPassed, .inl (cI, 401, .inl oS_pastPassed)), (o_pastClock, .inl (cI, 401, .inl oS_pastClock)), (o_pastNumber, .inl (cI, 401, .inl oS_pastNumber)), (o_pastTakes, .inl (cJ, 401, .inr (.inl oS_pastTakes))), (o_playedMoves, .inl (cI, 400, .inl oS_playedMoves)), (o_keptMen, .inl (cI, 384, .inl oS_keptMen)), (o_keptRest, .inl (cI, 30, .inl oS_keptRest)), (o_lists, .inl (cI, 8192, .inl oS_lists)), (o_counts, .inl (cI, 4, .inl oS_counts))] := by first | (rw [hv]; exact hD.sub [0, 1, 2, 3, 4, 5, 6, 7, 8, 9, 10, 11, 12, 13, 14, 15] (by decide) rfl) | exact hD.sub [0, 1, 2, 3, 4, 5, 6, 7, 8, 9, 10, 11, 12, 13, 14, 15] (by decide) rfl
      exact rw_retz hx hb hr rfl hlocks hK hP9 hD9 hS dMo_cut_25 (by rw [hv])
    · refine lv_iconst (v := 0) hx hb dMo_cut_17 (by decide) ?_
      have hv : f_Mo_cut oS_typed n = (0, 0, oS_typed) := (by rw [f_Mo_cut_eq, if_neg c_1, if_neg c_2] <;> rfl)
      have hP9 : va_P (dC, dI) vwCl [(o, .inr (6, [.int ((f_Mo_cut oS_typed n).2.1), .int ((f_Mo_cut oS_typed n).2.2), .ref o_text, .int oS_told, .ref o_out, .ref o_men, .int oS_side, .int oS_rights, .int oS_passed, .int oS_clock, .int oS_number, .int oS_plies, .ref o_pastMen, .ref o_pastSide, .ref o_pastRights, .ref o_pastPassed, .ref o_pastClock, .ref o_pastNumber, .ref o_pastTakes, .ref o_playedMoves, .ref o_keptMen, .ref o_keptRest, .ref o_lists, .ref o_counts])), (o_text, .inl (cC, 100, .inl oS_text)), (o_out, .inl (cC, 100, .inl oS_out)), (o_men, .inl (cI, 64, .inl oS_men)), (o_pastMen, .inl (cI, 25664, .inl oS_pastMen)), (o_pastSide, .inl (cI, 401, .inl oS_pastSide)), (o_pastRights, .inl (cI, 401, .inl oS_pastRights)), (o_pastPassed, .inl (cI, 401, .inl oS_pastPassed)), (o_pastClock, .inl (cI, 401, .inl oS_pastClock)), (o_pastNumber, .inl (cI, 401, .inl oS_pastNumber)), (o_pastTakes, .inl (cJ, 401, .inr (.inl oS_pastTakes))), (o_playedMoves, .inl (cI, 400, .inl oS_playedMoves)), (o_keptMen, .inl (cI, 384, .inl oS_keptMen)), (o_keptRest, .inl (cI, 30, .inl oS_keptRest)), (o_lists, .inl (cI, 8192, .inl oS_lists)), (o_counts, .inl (cI, 4, .inl oS_counts))] H := by first | (rw [hv]; exact hP.sub [0, 1, 2, 3, 4, 5, 6, 7, 8, 9, 10, 11, 12, 13, 14, 15] rfl) | exact hP.sub [0, 1, 2, 3, 4, 5, 6, 7, 8, 9, 10, 11, 12, 13, 14, 15] rfl
      have hD9 : va_D A [(o, .inr (6, [.int ((f_Mo_cut oS_typed n).2.1), .int ((f_Mo_cut oS_typed n).2.2), .ref o_text, .int oS_told, .ref o_out, .ref o_men, .int oS_side, .int oS_rights, .int oS_passed, .int oS_clock, .int oS_number, .int oS_plies, .ref o_pastMen, .ref o_pastSide, .ref o_pastRights, .ref o_pastPassed, .ref o_pastClock, .ref o_pastNumber, .ref o_pastTakes, .ref o_playedMoves, .ref o_keptMen, .ref o_keptRest, .ref o_lists, .ref o_counts])), (o_text, .inl (cC, 100, .inl oS_text)), (o_out, .inl (cC, 100, .inl oS_out)), (o_men, .inl (cI, 64, .inl oS_men)), (o_pastMen, .inl (cI, 25664, .inl oS_pastMen)), (o_pastSide, .inl (cI, 401, .inl oS_pastSide)), (o_pastRights, .inl (cI, 401, .inl oS_pastRights)), (o_pastPassed, .inl (cI, 401, .inl oS_pastPassed)), (o_pastClock, .inl (cI, 401, .inl oS_pastClock)), (o_pastNumber, .inl (cI, 401, .inl oS_pastNumber)), (o_pastTakes, .inl (cJ, 401, .inr (.inl oS_pastTakes))), (o_playedMoves, .inl (cI, 400, .inl oS_playedMoves)), (o_keptMen, .inl (cI, 384, .inl oS_keptMen)), (o_keptRest, .inl (cI, 30, .inl oS_keptRest)), (o_lists, .inl (cI, 8192, .inl oS_lists)), (o_counts, .inl (cI, 4, .inl oS_counts))] := by first | (rw [hv]; exact hD.sub [0, 1, 2, 3, 4, 5, 6, 7, 8, 9, 10, 11, 12, 13, 14, 15] (by decide) rfl) | exact hD.sub [0, 1, 2, 3, 4, 5, 6, 7, 8, 9, 10, 11, 12, 13, 14, 15] (by decide) rfl
      exact rw_retz hx hb hr rfl hlocks hK hP9 hD9 hS dMo_cut_18 (by rw [hv])

abbrev cMo_sign : ByteArray := prog_11_method_45_code
def yMo_sign : MethodName := ⟨"ChessRulesModel", "sign", "(I)C"⟩
def wsMo_sign : List Cond := Cond.code yMo_sign cMo_sign 2 (some .char) :: BIG
theorem dMo_sign_0 : decode cMo_sign 0 = .ok (.iload_n 1, 1) := by decide +kernel
theorem dMo_sign_1 : decode cMo_sign 1 = .ok (.aload_n 0, 1) := by decide +kernel
theorem dMo_sign_2 : decode cMo_sign 2 = .ok (.getfield 177, 3) := by decide +kernel
theorem dMo_sign_5 : decode cMo_sign 5 = .ok (.if_icmp .ge 12, 3) := by decide +kernel
theorem dMo_sign_8 : decode cMo_sign 8 = .ok (.aload_n 0, 1) := by decide +kernel
theorem dMo_sign_9 : decode cMo_sign 9 = .ok (.getfield 7, 3) := by decide +kernel
theorem dMo_sign_12 : decode cMo_sign 12 = .ok (.iload_n 1, 1) := by decide +kernel
theorem dMo_sign_13 : decode cMo_sign 13 = .ok (.caload, 1) := by decide +kernel
theorem dMo_sign_14 : decode cMo_sign 14 = .ok (.goto 4, 3) := by decide +kernel
theorem dMo_sign_17 : decode cMo_sign 17 = .ok (.iconst 0, 1) := by decide +kernel
theorem dMo_sign_18 : decode cMo_sign 18 = .ok (.ireturn, 1) := by decide +kernel

def f_Mo_sign (oS_typed : Int32) (oS_text : Nat → Int32) (pp : Int32) : Int32 :=
  (if oS_typed ≤ pp then 0 else oS_text pp.toNatClampNeg)
theorem f_Mo_sign_eq (oS_typed : Int32) (oS_text : Nat → Int32) (pp : Int32) : f_Mo_sign oS_typed oS_text pp =
  (if oS_typed ≤ pp then 0 else oS_text pp.toNatClampNeg) := rfl

set_option maxHeartbeats 4000000 in
set_option maxRecDepth 100000 in
theorem c_Mo_sign (l : Launch) (dC : Nat → ClassId) (dI : Nat → Nat → Nat) (cI cJ cC : ClassId) (ad : Nat → Nat) (o o_text o_out o_men o_pastMen o_pastSide o_pastRights o_pastPassed o_pastClock o_pastNumber o_pastTakes o_playedMoves o_keptMen o_keptRest o_lists o_counts : Nat) (oS_thrown : Int32) (oS_typed : Int32) (oS_text : Nat → Int32) (oS_told : Int32) (oS_out : Nat → Int32) (oS_men : Nat → Int32) (oS_side : Int32) (oS_rights : Int32) (oS_passed : Int32) (oS_clock : Int32) (oS_number : Int32) (oS_plies : Int32) (oS_pastMen : Nat → Int32) (oS_pastSide : Nat → Int32) (oS_pastRights : Nat → Int32) (oS_pastPassed : Nat → Int32) (oS_pastClock : Nat → Int32) (oS_pastNumber : Nat → Int32) (oS_pastTakes : Nat → Int64) (oS_playedMoves : Nat → Int32) (oS_keptMen : Nat → Int32) (oS_keptRest : Nat → Int32) (oS_lists : Nat → Int32) (oS_counts : Nat → Int32) (pp : Int32) (ht : ∀ j : Nat, j < 100 → narrow .char (.int (oS_text j)) = .int (oS_text j)) (hty : 0 ≤ oS_typed.toInt ∧ oS_typed.toInt ≤ 100) (hp : 0 ≤ pp.toInt) : Met l yMo_sign wsMo_sign { frames := 0, cells := 0, slots := 0, locals := 0 } (roP dC dI (TYS cI cJ cC) [.ref o, .int pp] [(o, .inr (6, [.int oS_thrown, .int oS_typed, .ref o_text, .int oS_told, .ref o_out, .ref o_men, .int oS_side, .int oS_rights, .int oS_passed, .int oS_clock, .int oS_number, .int oS_plies, .ref o_pastMen, .ref o_pastSide, .ref o_pastRights, .ref o_pastPassed, .ref o_pastClock, .ref o_pastNumber, .ref o_pastTakes, .ref o_playedMoves, .ref o_keptMen, .ref o_keptRest, .ref o_lists, .ref o_counts])), (o_text, .inl (cC, 100, .inl oS_text)), (o_out, .inl (cC, 100, .inl oS_out)), (o_men, .inl (cI, 64, .inl oS_men)), (o_pastMen, .inl (cI, 25664, .inl oS_pastMen)), (o_pastSide, .inl (cI, 401, .inl oS_pastSide)), (o_pastRights, .inl (cI, 401, .inl oS_pastRights)), (o_pastPassed, .inl (cI, 401, .inl oS_pastPassed)), (o_pastClock, .inl (cI, 401, .inl oS_pastClock)), (o_pastNumber, .inl (cI, 401, .inl oS_pastNumber)), (o_pastTakes, .inl (cJ, 401, .inr (.inl oS_pastTakes))), (o_playedMoves, .inl (cI, 400, .inl oS_playedMoves)), (o_keptMen, .inl (cI, 384, .inl oS_keptMen)), (o_keptRest, .inl (cI, 30, .inl oS_keptRest)), (o_lists, .inl (cI, 8192, .inl oS_lists)), (o_counts, .inl (cI, 4, .inl oS_counts))] (GS ad)) (vp_Si (fun r => r = f_Mo_sign oS_typed oS_text pp)) 0 0 (fun _ => False) := by
  refine Met.ofW (cc := cMo_sign) (maxL := 2) (ret := (some .char)) (by decide) rfl ?_
  intro p e s m args below meth c s₁ B hml hv
  obtain ⟨rfl, hP, hK, hG⟩ := hv
  have hx := B.exec
  have hb := B.bytes
  have hr := B.returns
  have hB : ∀ w9 ∈ BIG, w9.before ([.ref o, .int pp]).toArray s = true := fun w9 h => atoms_spec (ws := wsMo_sign) B.pre w9 (List.mem_cons_of_mem _ h)
  have hown : s.vm.findClass "ChessRulesModel" = some m.cls := findClass_of_methodNamed B.named
  have hlocks := B.notSynchronized
  have hS : va_S (fun _ => False) s.heap s.heap [] := va_S.rf
  have hP : va_P (dC, dI) vwCl [(o, .inr (6, [.int oS_thrown, .int oS_typed, .ref o_text, .int oS_told, .ref o_out, .ref o_men, .int oS_side, .int oS_rights, .int oS_passed, .int oS_clock, .int oS_number, .int oS_plies, .ref o_pastMen, .ref o_pastSide, .ref o_pastRights, .ref o_pastPassed, .ref o_pastClock, .ref o_pastNumber, .ref o_pastTakes, .ref o_playedMoves, .ref o_keptMen, .ref o_keptRest, .ref o_lists, .ref o_counts])), (o_text, .inl (cC, 100, .inl oS_text)), (o_out, .inl (cC, 100, .inl oS_out)), (o_men, .inl (cI, 64, .inl oS_men)), (o_pastMen, .inl (cI, 25664, .inl oS_pastMen)), (o_pastSide, .inl (cI, 401, .inl oS_pastSide)), (o_pastRights, .inl (cI, 401, .inl oS_pastRights)), (o_pastPassed, .inl (cI, 401, .inl oS_pastPassed)), (o_pastClock, .inl (cI, 401, .inl oS_pastClock)), (o_pastNumber, .inl (cI, 401, .inl oS_pastNumber)), (o_pastTakes, .inl (cJ, 401, .inr (.inl oS_pastTakes))), (o_playedMoves, .inl (cI, 400, .inl oS_playedMoves)), (o_keptMen, .inl (cI, 384, .inl oS_keptMen)), (o_keptRest, .inl (cI, 30, .inl oS_keptRest)), (o_lists, .inl (cI, 8192, .inl oS_lists)), (o_counts, .inl (cI, 4, .inl oS_counts))] s.heap := hP
  have hl := lv_entry ([.ref o, .int pp]) (n := 2) (Nat.le_of_ble_eq_true rfl)
  rw [lg_entry_eq]
  generalize (lg_sl ([.ref o, .int pp]) ++ List.replicate (2 - (lg_sl ([.ref o, .int pp])).length) Slot.unset).toArray = ls at hl ⊢
  have hl : lv_has ls 2 [(0, .ref o), (1, .int pp)] := hl
  refine lv_iload_n hx hb dMo_sign_0 rfl (lv_at hl 1 rfl) ?_
  refine lv_aload_n hx hb dMo_sign_1 rfl (lv_at hl 0 rfl) ?_
  refine va_get (D := (dC, dI)) (ci := 6) (v := .int oS_typed) (C := RMo) (T := TMo) (N := 24) hx hb hB inMo hown hK hP 0 rfl rfl 1 (by decide) (hB _ q5_12) (fun _ h9 => h9) rfl dMo_sign_2 ?_
  refine lv_icmp_ge (tgt := 17) hx hb dMo_sign_5 (by decide) (fun c_1 => ?_) (fun c_1 => ?_)
  · refine lv_iconst (v := 0) hx hb dMo_sign_17 (by decide) ?_
    exact ro_retz hx hb hr (by first | rfl | have q := tnle c_1; exact ht _ (by have e : ∃ j : Nat, j < 100 ∧ pp = nI j := vp_in_of (n := 100) (vp_in_iff.mpr (by omega)) (by decide); obtain ⟨j, hj, rfl⟩ := e; rw [nI_clamp (by omega)]; exact hj)) hlocks dMo_sign_18 (Eq.symm (by rw [f_Mo_sign_eq, if_pos c_1] <;> rfl))
  · refine lv_aload_n hx hb dMo_sign_8 rfl (lv_at hl 0 rfl) ?_
    refine va_get (D := (dC, dI)) (ci := 6) (v := .ref o_text) (C := RMo) (T := TMo) (N := 24) hx hb hB inMo hown hK hP 0 rfl rfl 2 (by decide) (hB _ q5_13) (fun _ h9 => h9) rfl dMo_sign_9 ?_
    refine lv_iload_n hx hb dMo_sign_12 rfl (lv_at hl 1 rfl) ?_
    refine va_cald hx hb hK hP 1 2 rfl rfl (vp_in_iff.mpr (by have z0 := tnle c_1; omega)) dMo_sign_13 ?_
    refine lv_goto (tgt := 18) hx hb dMo_sign_14 (by decide) ?_
    exact ro_retz hx hb hr (by first | rfl | have q := tnle c_1; exact ht _ (by have e : ∃ j : Nat, j < 100 ∧ pp = nI j := vp_in_of (n := 100) (vp_in_iff.mpr (by omega)) (by decide); obtain ⟨j, hj, rfl⟩ := e; rw [nI_clamp (by omega)]; exact hj)) hlocks dMo_sign_18 (Eq.symm (by rw [f_Mo_sign_eq, if_neg c_1] <;> rfl))

abbrev cMo_letter : ByteArray := prog_11_method_46_code
def yMo_letter : MethodName := ⟨"ChessRulesModel", "letter", "(I)C"⟩
def wsMo_letter : List Cond := Cond.code yMo_letter cMo_letter 2 (some .char) :: BIG
theorem dMo_letter_0 : decode cMo_letter 0 = .ok (.bipush 80, 2) := by decide +kernel
theorem dMo_letter_2 : decode cMo_letter 2 = .ok (.istore_n 1, 1) := by decide +kernel
theorem dMo_letter_3 : decode cMo_letter 3 = .ok (.iload_n 0, 1) := by decide +kernel
theorem dMo_letter_4 : decode cMo_letter 4 = .ok (.invokestatic 85, 3) := by decide +kernel
theorem dMo_letter_7 : decode cMo_letter 7 = .ok (.tableswitch 63 2 6 #[33, 39, 45, 51, 57], 33) := by decide +kernel
theorem dMo_letter_40 : decode cMo_letter 40 = .ok (.bipush 78, 2) := by decide +kernel
theorem dMo_letter_42 : decode cMo_letter 42 = .ok (.istore_n 1, 1) := by decide +kernel
theorem dMo_letter_43 : decode cMo_letter 43 = .ok (.goto 27, 3) := by decide +kernel
theorem dMo_letter_46 : decode cMo_letter 46 = .ok (.bipush 66, 2) := by decide +kernel
theorem dMo_letter_48 : decode cMo_letter 48 = .ok (.istore_n 1, 1) := by decide +kernel
theorem dMo_letter_49 : decode cMo_letter 49 = .ok (.goto 21, 3) := by decide +kernel
theorem dMo_letter_52 : decode cMo_letter 52 = .ok (.bipush 82, 2) := by decide +kernel
theorem dMo_letter_54 : decode cMo_letter 54 = .ok (.istore_n 1, 1) := by decide +kernel
theorem dMo_letter_55 : decode cMo_letter 55 = .ok (.goto 15, 3) := by decide +kernel
theorem dMo_letter_58 : decode cMo_letter 58 = .ok (.bipush 81, 2) := by decide +kernel
theorem dMo_letter_60 : decode cMo_letter 60 = .ok (.istore_n 1, 1) := by decide +kernel
theorem dMo_letter_61 : decode cMo_letter 61 = .ok (.goto 9, 3) := by decide +kernel
theorem dMo_letter_64 : decode cMo_letter 64 = .ok (.bipush 75, 2) := by decide +kernel
theorem dMo_letter_66 : decode cMo_letter 66 = .ok (.istore_n 1, 1) := by decide +kernel
theorem dMo_letter_67 : decode cMo_letter 67 = .ok (.goto 3, 3) := by decide +kernel
theorem dMo_letter_70 : decode cMo_letter 70 = .ok (.iload_n 0, 1) := by decide +kernel
theorem dMo_letter_71 : decode cMo_letter 71 = .ok (.bipush 8, 2) := by decide +kernel
theorem dMo_letter_73 : decode cMo_letter 73 = .ok (.if_icmp .ge 7, 3) := by decide +kernel
theorem dMo_letter_76 : decode cMo_letter 76 = .ok (.iload_n 1, 1) := by decide +kernel
theorem dMo_letter_77 : decode cMo_letter 77 = .ok (.goto 8, 3) := by decide +kernel
theorem dMo_letter_80 : decode cMo_letter 80 = .ok (.iload_n 1, 1) := by decide +kernel
theorem dMo_letter_81 : decode cMo_letter 81 = .ok (.bipush 32, 2) := by decide +kernel
theorem dMo_letter_83 : decode cMo_letter 83 = .ok (.iadd, 1) := by decide +kernel
theorem dMo_letter_84 : decode cMo_letter 84 = .ok (.i2c, 1) := by decide +kernel
theorem dMo_letter_85 : decode cMo_letter 85 = .ok (.ireturn, 1) := by decide +kernel

def f_Mo_letter_70 (man : Int32) (v1_70 : Int32) : Int32 :=
  (if 8 ≤ man then toChar (v1_70 + 32) else v1_70)
theorem f_Mo_letter_70_eq (man : Int32) (v1_70 : Int32) : f_Mo_letter_70 man v1_70 =
  (if 8 ≤ man then toChar (v1_70 + 32) else v1_70) := rfl

def f_Mo_letter (man : Int32) : Int32 :=
  (if (f_Mo_kind man) = 2 then f_Mo_letter_70 man 78 else (if (f_Mo_kind man) = 3 then f_Mo_letter_70 man 66 else (if (f_Mo_kind man) = 4 then f_Mo_letter_70 man 82 else (if (f_Mo_kind man) = 5 then f_Mo_letter_70 man 81 else (if (f_Mo_kind man) = 6 then f_Mo_letter_70 man 75 else f_Mo_letter_70 man 80)))))
theorem f_Mo_letter_eq (man : Int32) : f_Mo_letter man =
  (if (f_Mo_kind man) = 2 then f_Mo_letter_70 man 78 else (if (f_Mo_kind man) = 3 then f_Mo_letter_70 man 66 else (if (f_Mo_kind man) = 4 then f_Mo_letter_70 man 82 else (if (f_Mo_kind man) = 5 then f_Mo_letter_70 man 81 else (if (f_Mo_kind man) = 6 then f_Mo_letter_70 man 75 else f_Mo_letter_70 man 80))))) := rfl

set_option maxHeartbeats 4000000 in
set_option maxRecDepth 100000 in
theorem c_Mo_letter (l : Launch) (dC : Nat → ClassId) (dI : Nat → Nat → Nat) (cI cJ cC : ClassId) (ad : Nat → Nat) (man : Int32) : Met l yMo_letter wsMo_letter { frames := 1, cells := 0, slots := 0, locals := 20 } (roP dC dI (TYS cI cJ cC) [.int man] [] (GS ad)) (vp_Si (fun r => r = f_Mo_letter man)) 0 0 (fun _ => False) := by
  refine Met.ofW (cc := cMo_letter) (maxL := 2) (ret := (some .char)) (by decide) rfl ?_
  intro p e s m args below meth c s₁ B hml hv
  obtain ⟨rfl, hP, hK, hG⟩ := hv
  have hx := B.exec
  have hb := B.bytes
  have hr := B.returns
  have hB : ∀ w9 ∈ BIG, w9.before ([.int man]).toArray s = true := fun w9 h => atoms_spec (ws := wsMo_letter) B.pre w9 (List.mem_cons_of_mem _ h)
  have hown : s.vm.findClass "ChessRulesModel" = some m.cls := findClass_of_methodNamed B.named
  have hlocks := B.notSynchronized
  have hS : va_S (fun _ => False) s.heap s.heap [] := va_S.rf
  have hP : va_P (dC, dI) vwCl [] s.heap := hP
  have hl := lv_entry ([.int man]) (n := 2) (Nat.le_of_ble_eq_true rfl)
  rw [lg_entry_eq]
  generalize (lg_sl ([.int man]) ++ List.replicate (2 - (lg_sl ([.int man])).length) Slot.unset).toArray = ls at hl ⊢
  have hl : lv_has ls 2 [(0, .int man)] := hl
  refine lv_bipush (v := 80) hx hb dMo_letter_0 (by decide) ?_
  refine lv_istore_n (lv' := [(1, .int 80), (0, .int man)]) hx hb dMo_letter_2 rfl hl (by decide) rfl (fun ls hl => ?_)
  refine lv_iload_n hx hb dMo_letter_3 rfl (lv_at hl 1 rfl) ?_
  refine ro_goi (va_runS (As := [.int man]) (rest := []) ⟨hx, hb, hml, hown, hB⟩ (c_Mo_kind l dC dI cI cJ cC ad man) ⟨callB_of 1 hB (big_self q4_202) rfl rfl rfl (hB _ q1_15) (hB _ q4_200) (by decide +kernel) ⟨Nat.le_of_ble_eq_true rfl, Nat.le_of_ble_eq_true rfl⟩, (hB _ q4_201)⟩ (ro_preS (GS_ok ad) hK hP hG hS [] rfl) rfl rfl hl.1 rfl (lv_room (Nat.le_of_ble_eq_true rfl)) dMo_letter_4 ⟨Nat.le_of_ble_eq_true rfl, Nat.le_of_ble_eq_true rfl⟩) ?_
  have J_70 : ∀ (v1_70 : Int32), f_Mo_letter man = f_Mo_letter_70 man v1_70 → (narrow .char (.int v1_70) = .int v1_70) → ∀ ls : Array Slot, lv_has ls 2 [(0, .int man), (1, .int v1_70)] → W p l e (headSpec wsMo_letter { frames := 1, cells := 0, slots := 0, locals := 20 }).room s m ([.int man]).toArray below meth c s.heap [] 0 0 (MQ below (vp_Si (fun r => r = f_Mo_letter man)) ([.int man]).toArray s 0 0 (fun _ => False)) (F0 m 70 ls []) := by
    intro v1_70 he_70 hi_70 ls hl
    refine lv_iload_n hx hb dMo_letter_70 rfl (lv_at hl 0 rfl) ?_
    refine lv_bipush (v := 8) hx hb dMo_letter_71 (by decide) ?_
    refine lv_icmp_ge (tgt := 80) hx hb dMo_letter_73 (by decide) (fun c_1 => ?_) (fun c_1 => ?_)
    · refine lv_iload_n hx hb dMo_letter_80 rfl (lv_at hl 1 rfl) ?_
      refine lv_bipush (v := 32) hx hb dMo_letter_81 (by decide) ?_
      refine lv_iadd hx hb dMo_letter_83 ?_
      refine lv_i2c (v := toChar (v1_70 + 32)) hx hb dMo_letter_84 rfl ?_
      exact ro_retz hx hb hr (by first | exact hi_70 | exact pk_nc _) hlocks dMo_letter_85 (Eq.symm (he_70.trans (by rw [f_Mo_letter_70_eq, if_pos c_1] <;> rfl)))
    · refine lv_iload_n hx hb dMo_letter_76 rfl (lv_at hl 1 rfl) ?_
      refine lv_goto (tgt := 85) hx hb dMo_letter_77 (by decide) ?_
      exact ro_retz hx hb hr (by first | exact hi_70 | exact pk_nc _) hlocks dMo_letter_85 (Eq.symm (he_70.trans (by rw [f_Mo_letter_70_eq, if_neg c_1] <;> rfl)))
  by_cases c_2 : (f_Mo_kind man) = 2
  · refine lv_tableIn (tgt := 40) (off := 33) hx hb dMo_letter_7 (by rw [c_2]; decide) (by rw [c_2]; decide) (by rw [c_2]; rfl) (by decide) ?_
    refine lv_bipush (v := 78) hx hb dMo_letter_40 (by decide) ?_
    refine lv_istore_n (lv' := [(1, .int 78), (0, .int man)]) hx hb dMo_letter_42 rfl hl (by decide) rfl (fun ls hl => ?_)
    refine lv_goto (tgt := 70) hx hb dMo_letter_43 (by decide) ?_
    exact J_70 78 (by rw [f_Mo_letter_eq, if_pos c_2] <;> rfl) rfl ls (lv_sub hl [1, 0] rfl)
  · by_cases c_3 : (f_Mo_kind man) = 3
    · refine lv_tableIn (tgt := 46) (off := 39) hx hb dMo_letter_7 (by rw [c_3]; decide) (by rw [c_3]; decide) (by rw [c_3]; rfl) (by decide) ?_
      refine lv_bipush (v := 66) hx hb dMo_letter_46 (by decide) ?_
      refine lv_istore_n (lv' := [(1, .int 66), (0, .int man)]) hx hb dMo_letter_48 rfl hl (by decide) rfl (fun ls hl => ?_)
      refine lv_goto (tgt := 70) hx hb dMo_letter_49 (by decide) ?_
      exact J_70 66 (by rw [f_Mo_letter_eq, if_neg c_2, if_pos c_3] <;> rfl) rfl ls (lv_sub hl [1, 0] rfl)
    · by_cases c_4 : (f_Mo_kind man) = 4
      · refine lv_tableIn (tgt := 52) (off := 45) hx hb dMo_letter_7 (by rw [c_4]; decide) (by rw [c_4]; decide) (by rw [c_4]; rfl) (by decide) ?_
        refine lv_bipush (v := 82) hx hb dMo_letter_52 (by decide) ?_
        refine lv_istore_n (lv' := [(1, .int 82), (0, .int man)]) hx hb dMo_letter_54 rfl hl (by decide) rfl (fun ls hl => ?_)
        refine lv_goto (tgt := 70) hx hb dMo_letter_55 (by decide) ?_
        exact J_70 82 (by rw [f_Mo_letter_eq, if_neg c_2, if_neg c_3, if_pos c_4] <;> rfl) rfl ls (lv_sub hl [1, 0] rfl)
      · by_cases c_5 : (f_Mo_kind man) = 5
        · refine lv_tableIn (tgt := 58) (off := 51) hx hb dMo_letter_7 (by rw [c_5]; decide) (by rw [c_5]; decide) (by rw [c_5]; rfl) (by decide) ?_
          refine lv_bipush (v := 81) hx hb dMo_letter_58 (by decide) ?_
          refine lv_istore_n (lv' := [(1, .int 81), (0, .int man)]) hx hb dMo_letter_60 rfl hl (by decide) rfl (fun ls hl => ?_)
          refine lv_goto (tgt := 70) hx hb dMo_letter_61 (by decide) ?_
          exact J_70 81 (by rw [f_Mo_letter_eq, if_neg c_2, if_neg c_3, if_neg c_4, if_pos c_5] <;> rfl) rfl ls (lv_sub hl [1, 0] rfl)
        · by_cases c_6 : (f_Mo_kind man) = 6
          · refine lv_tableIn (tgt := 64) (off := 57) hx hb dMo_letter_7 (by rw [c_6]; decide) (by rw [c_6]; decide) (by rw [c_6]; rfl) (by decide) ?_
            refine lv_bipush (v := 75) hx hb dMo_letter_64 (by decide) ?_
            refine lv_istore_n (lv' := [(1, .int 75), (0, .int man)]) hx hb dMo_letter_66 rfl hl (by decide) rfl (fun ls hl => ?_)
            refine lv_goto (tgt := 70) hx hb dMo_letter_67 (by decide) ?_
            exact J_70 75 (by rw [f_Mo_letter_eq, if_neg c_2, if_neg c_3, if_neg c_4, if_neg c_5, if_pos c_6] <;> rfl) rfl ls (lv_sub hl [1, 0] rfl)
          · refine lv_tableOut (tgt := 70) hx hb dMo_letter_7 (by have q0 := tne c_2; have q1 := tne c_3; have q2 := tne c_4; have q3 := tne c_5; have q4 := tne c_6; have y0 : (2 : Int32).toInt = 2 := rfl; have y1 : (3 : Int32).toInt = 3 := rfl; have y2 : (4 : Int32).toInt = 4 := rfl; have y3 : (5 : Int32).toInt = 5 := rfl; have y4 : (6 : Int32).toInt = 6 := rfl; omega) (by decide) ?_
            exact J_70 80 (by rw [f_Mo_letter_eq, if_neg c_2, if_neg c_3, if_neg c_4, if_neg c_5, if_neg c_6] <;> rfl) rfl ls (lv_sub hl [1, 0] rfl)

abbrev cMo_manOf : ByteArray := prog_11_method_47_code
def yMo_manOf : MethodName := ⟨"ChessRulesModel", "manOf", "(C)I"⟩
def wsMo_manOf : List Cond := Cond.code yMo_manOf cMo_manOf 3 (some .int) :: BIG
theorem dMo_manOf_0 : decode cMo_manOf 0 = .ok (.iconst 0, 1) := by decide +kernel
theorem dMo_manOf_1 : decode cMo_manOf 1 = .ok (.istore_n 1, 1) := by decide +kernel
theorem dMo_manOf_2 : decode cMo_manOf 2 = .ok (.iconst 1, 1) := by decide +kernel
theorem dMo_manOf_3 : decode cMo_manOf 3 = .ok (.istore_n 2, 1) := by decide +kernel
theorem dMo_manOf_4 : decode cMo_manOf 4 = .ok (.iload_n 2, 1) := by decide +kernel
theorem dMo_manOf_5 : decode cMo_manOf 5 = .ok (.bipush 15, 2) := by decide +kernel
theorem dMo_manOf_7 : decode cMo_manOf 7 = .ok (.if_icmp .ge 39, 3) := by decide +kernel
theorem dMo_manOf_10 : decode cMo_manOf 10 = .ok (.iload_n 2, 1) := by decide +kernel
theorem dMo_manOf_11 : decode cMo_manOf 11 = .ok (.invokestatic 85, 3) := by decide +kernel
theorem dMo_manOf_14 : decode cMo_manOf 14 = .ok (.ifCond .le 24, 3) := by decide +kernel
theorem dMo_manOf_17 : decode cMo_manOf 17 = .ok (.iload_n 2, 1) := by decide +kernel
theorem dMo_manOf_18 : decode cMo_manOf 18 = .ok (.invokestatic 85, 3) := by decide +kernel
theorem dMo_manOf_21 : decode cMo_manOf 21 = .ok (.bipush 7, 2) := by decide +kernel
theorem dMo_manOf_23 : decode cMo_manOf 23 = .ok (.if_icmp .ge 15, 3) := by decide +kernel
theorem dMo_manOf_26 : decode cMo_manOf 26 = .ok (.iload_n 2, 1) := by decide +kernel
theorem dMo_manOf_27 : decode cMo_manOf 27 = .ok (.invokestatic 186, 3) := by decide +kernel
theorem dMo_manOf_30 : decode cMo_manOf 30 = .ok (.iload_n 0, 1) := by decide +kernel
theorem dMo_manOf_31 : decode cMo_manOf 31 = .ok (.if_icmp .ne 7, 3) := by decide +kernel
theorem dMo_manOf_34 : decode cMo_manOf 34 = .ok (.iload_n 2, 1) := by decide +kernel
theorem dMo_manOf_35 : decode cMo_manOf 35 = .ok (.goto 4, 3) := by decide +kernel
theorem dMo_manOf_38 : decode cMo_manOf 38 = .ok (.iload_n 1, 1) := by decide +kernel
theorem dMo_manOf_39 : decode cMo_manOf 39 = .ok (.istore_n 1, 1) := by decide +kernel
theorem dMo_manOf_40 : decode cMo_manOf 40 = .ok (.iinc 2 1, 3) := by decide +kernel
theorem dMo_manOf_43 : decode cMo_manOf 43 = .ok (.goto (-39), 3) := by decide +kernel
theorem dMo_manOf_46 : decode cMo_manOf 46 = .ok (.iload_n 1, 1) := by decide +kernel
theorem dMo_manOf_47 : decode cMo_manOf 47 = .ok (.ireturn, 1) := by decide +kernel

def f_Mo_manOf_4 (ch : Int32) : Nat → Int32 → Int32 → Int32
  | 0 => fun _ _ => 0
  | n_4 + 1 => fun v1_4 v2_4 => (if 15 ≤ v2_4 then v1_4 else (if (f_Mo_kind v2_4) ≤ 0 then (f_Mo_manOf_4 ch n_4) v1_4 (v2_4 + 1) else (if 7 ≤ (f_Mo_kind v2_4) then (f_Mo_manOf_4 ch n_4) v1_4 (v2_4 + 1) else (if (f_Mo_letter v2_4) = ch then (f_Mo_manOf_4 ch n_4) v2_4 (v2_4 + 1) else (f_Mo_manOf_4 ch n_4) v1_4 (v2_4 + 1)))))
theorem f_Mo_manOf_4_eq (ch : Int32) (n_4 : Nat) (v1_4 : Int32) (v2_4 : Int32) : f_Mo_manOf_4 ch (n_4 + 1) v1_4 v2_4 =
  (if 15 ≤ v2_4 then v1_4 else (if (f_Mo_kind v2_4) ≤ 0 then (f_Mo_manOf_4 ch n_4) v1_4 (v2_4 + 1) else (if 7 ≤ (f_Mo_kind v2_4) then (f_Mo_manOf_4 ch n_4) v1_4 (v2_4 + 1) else (if (f_Mo_letter v2_4) = ch then (f_Mo_manOf_4 ch n_4) v2_4 (v2_4 + 1) else (f_Mo_manOf_4 ch n_4) v1_4 (v2_4 + 1))))) := rfl

def f_Mo_manOf (ch : Int32) : Int32 :=
  f_Mo_manOf_4 ch (15) 0 1
theorem f_Mo_manOf_eq (ch : Int32) : f_Mo_manOf ch =
  f_Mo_manOf_4 ch (15) 0 1 := rfl

set_option maxHeartbeats 4000000 in
set_option maxRecDepth 100000 in
theorem c_Mo_manOf (l : Launch) (dC : Nat → ClassId) (dI : Nat → Nat → Nat) (cI cJ cC : ClassId) (ad : Nat → Nat) (ch : Int32) : Met l yMo_manOf wsMo_manOf { frames := 2, cells := 0, slots := 0, locals := 41 } (roP dC dI (TYS cI cJ cC) [.int ch] [] (GS ad)) (vp_Si (fun r => r = f_Mo_manOf ch)) 0 0 (fun _ => False) := by
  refine Met.ofW (cc := cMo_manOf) (maxL := 3) (ret := (some .int)) (by decide) rfl ?_
  intro p e s m args below meth c s₁ B hml hv
  obtain ⟨rfl, hP, hK, hG⟩ := hv
  have hx := B.exec
  have hb := B.bytes
  have hr := B.returns
  have hB : ∀ w9 ∈ BIG, w9.before ([.int ch]).toArray s = true := fun w9 h => atoms_spec (ws := wsMo_manOf) B.pre w9 (List.mem_cons_of_mem _ h)
  have hown : s.vm.findClass "ChessRulesModel" = some m.cls := findClass_of_methodNamed B.named
  have hlocks := B.notSynchronized
  have hS : va_S (fun _ => False) s.heap s.heap [] := va_S.rf
  have hP : va_P (dC, dI) vwCl [] s.heap := hP
  have hl := lv_entry ([.int ch]) (n := 3) (Nat.le_of_ble_eq_true rfl)
  rw [lg_entry_eq]
  generalize (lg_sl ([.int ch]) ++ List.replicate (3 - (lg_sl ([.int ch])).length) Slot.unset).toArray = ls at hl ⊢
  have hl : lv_has ls 3 [(0, .int ch)] := hl
  refine lv_iconst (v := 0) hx hb dMo_manOf_0 (by decide) ?_
  refine lv_istore_n (lv' := [(1, .int 0), (0, .int ch)]) hx hb dMo_manOf_1 rfl hl (by decide) rfl (fun ls hl => ?_)
  refine lv_iconst (v := 1) hx hb dMo_manOf_2 (by decide) ?_
  refine lv_istore_n (lv' := [(2, .int 1), (1, .int 0), (0, .int ch)]) hx hb dMo_manOf_3 rfl hl (by decide) rfl (fun ls hl => ?_)
  have J_4 : ∀ (n_4 : Nat) (v1_4 : Int32) (v2_4 : Int32), f_Mo_manOf ch = f_Mo_manOf_4 ch n_4 v1_4 v2_4 → ((1 : Int) ≤ v2_4.toInt ∧ (15 : Int32).toInt - v2_4.toInt + 1 ≤ (n_4 : Int) ∧ (1 : Int) ≤ (n_4 : Int)) → ∀ ls : Array Slot, lv_has ls 3 [(0, .int ch), (1, .int v1_4), (2, .int v2_4)] → W p l e (headSpec wsMo_manOf { frames := 2, cells := 0, slots := 0, locals := 41 }).room s m ([.int ch]).toArray below meth c s.heap [] 0 0 (MQ below (vp_Si (fun r => r = f_Mo_manOf ch)) ([.int ch]).toArray s 0 0 (fun _ => False)) (F0 m 4 ls []) := by
    intro n_4
    induction n_4 with
    | zero => intro v1_4 v2_4 _ hm_4; exact absurd hm_4 (by omega)
    | succ n_4 ih_4 =>
      intro v1_4 v2_4 he_4 hm_4 ls hl
      refine lv_iload_n hx hb dMo_manOf_4 rfl (lv_at hl 2 rfl) ?_
      refine lv_bipush (v := 15) hx hb dMo_manOf_5 (by decide) ?_
      refine lv_icmp_ge (tgt := 46) hx hb dMo_manOf_7 (by decide) (fun c_1 => ?_) (fun c_1 => ?_)
      · refine lv_iload_n hx hb dMo_manOf_46 rfl (lv_at hl 1 rfl) ?_
        exact ro_reti hx hb hr hlocks dMo_manOf_47 (Eq.symm (he_4.trans (by rw [f_Mo_manOf_4_eq, if_pos c_1] <;> rfl)))
      · refine lv_iload_n hx hb dMo_manOf_10 rfl (lv_at hl 2 rfl) ?_
        refine ro_goi (va_runS (As := [.int v2_4]) (rest := []) ⟨hx, hb, hml, hown, hB⟩ (c_Mo_kind l dC dI cI cJ cC ad v2_4) ⟨callB_of 1 hB (big_self q4_202) rfl rfl rfl (hB _ q1_15) (hB _ q4_200) (by decide +kernel) ⟨Nat.le_of_ble_eq_true rfl, Nat.le_of_ble_eq_true rfl⟩, (hB _ q4_201)⟩ (ro_preS (GS_ok ad) hK hP hG hS [] rfl) rfl rfl hl.1 rfl (lv_room (Nat.le_of_ble_eq_true rfl)) dMo_manOf_11 ⟨Nat.le_of_ble_eq_true rfl, Nat.le_of_ble_eq_true rfl⟩) ?_
        refine lv_if_le (tgt := 38) hx hb dMo_manOf_14 (by decide) (fun c_2 => ?_) (fun c_2 => ?_)
        · refine lv_iload_n hx hb dMo_manOf_38 rfl (lv_at hl 1 rfl) ?_
          refine lv_istore_n (lv' := [(1, .int v1_4), (0, .int ch), (2, .int v2_4)]) hx hb dMo_manOf_39 rfl hl (by decide) rfl (fun ls hl => ?_)
          refine lv_iinc (v := v2_4 + 1) (lv' := [(2, .int (v2_4 + 1)), (1, .int v1_4), (0, .int ch)]) hx hb dMo_manOf_40 hl (k := 2) rfl rfl (by decide) rfl (fun ls hl => ?_)
          refine lv_goto (tgt := 4) hx hb dMo_manOf_43 (by decide) ?_
          exact ih_4 v1_4 (v2_4 + 1) (he_4.trans (by rw [f_Mo_manOf_4_eq, if_neg c_1, if_pos c_2] <;> rfl)) (by have z1 := tnle c_1; have z2 := tle c_2; have y0 : (0 : Int32).toInt = 0 := rfl; have y15 : (15 : Int32).toInt = 15 := rfl; have zr := i_rng (15 : Int32); have zs := i_succ9 v2_4 (by omega); omega) ls (lv_sub hl [2, 1, 0] rfl)
        · refine lv_iload_n hx hb dMo_manOf_17 rfl (lv_at hl 2 rfl) ?_
          refine ro_goi (va_runS (As := [.int v2_4]) (rest := []) ⟨hx, hb, hml, hown, hB⟩ (c_Mo_kind l dC dI cI cJ cC ad v2_4) ⟨callB_of 1 hB (big_self q4_202) rfl rfl rfl (hB _ q1_15) (hB _ q4_200) (by decide +kernel) ⟨Nat.le_of_ble_eq_true rfl, Nat.le_of_ble_eq_true rfl⟩, (hB _ q4_201)⟩ (ro_preS (GS_ok ad) hK hP hG hS [] rfl) rfl rfl hl.1 rfl (lv_room (Nat.le_of_ble_eq_true rfl)) dMo_manOf_18 ⟨Nat.le_of_ble_eq_true rfl, Nat.le_of_ble_eq_true rfl⟩) ?_
          refine lv_bipush (v := 7) hx hb dMo_manOf_21 (by decide) ?_
          refine lv_icmp_ge (tgt := 38) hx hb dMo_manOf_23 (by decide) (fun c_3 => ?_) (fun c_3 => ?_)
          · refine lv_iload_n hx hb dMo_manOf_38 rfl (lv_at hl 1 rfl) ?_
            refine lv_istore_n (lv' := [(1, .int v1_4), (0, .int ch), (2, .int v2_4)]) hx hb dMo_manOf_39 rfl hl (by decide) rfl (fun ls hl => ?_)
            refine lv_iinc (v := v2_4 + 1) (lv' := [(2, .int (v2_4 + 1)), (1, .int v1_4), (0, .int ch)]) hx hb dMo_manOf_40 hl (k := 2) rfl rfl (by decide) rfl (fun ls hl => ?_)
            refine lv_goto (tgt := 4) hx hb dMo_manOf_43 (by decide) ?_
            exact ih_4 v1_4 (v2_4 + 1) (he_4.trans (by rw [f_Mo_manOf_4_eq, if_neg c_1, if_neg c_2, if_pos c_3] <;> rfl)) (by have z1 := tnle c_1; have z2 := tnle c_2; have z3 := tle c_3; have y0 : (0 : Int32).toInt = 0 := rfl; have y7 : (7 : Int32).toInt = 7 := rfl; have y15 : (15 : Int32).toInt = 15 := rfl; have zr := i_rng (15 : Int32); have zs := i_succ9 v2_4 (by omega); omega) ls (lv_sub hl [2, 1, 0] rfl)
          · refine lv_iload_n hx hb dMo_manOf_26 rfl (lv_at hl 2 rfl) ?_
            refine ro_goi (va_runS (As := [.int v2_4]) (rest := []) ⟨hx, hb, hml, hown, hB⟩ (c_Mo_letter l dC dI cI cJ cC ad v2_4) ⟨callB_of 1 hB (big_self q5_213) rfl rfl rfl (hB _ q1_15) (hB _ q5_211) (by decide +kernel) ⟨Nat.le_of_ble_eq_true rfl, Nat.le_of_ble_eq_true rfl⟩, (hB _ q5_212)⟩ (ro_preS (GS_ok ad) hK hP hG hS [] rfl) rfl rfl hl.1 rfl (lv_room (Nat.le_of_ble_eq_true rfl)) dMo_manOf_27 ⟨Nat.le_of_ble_eq_true rfl, Nat.le_of_ble_eq_true rfl⟩) ?_
            refine lv_iload_n hx hb dMo_manOf_30 rfl (lv_at hl 0 rfl) ?_
            refine lv_icmp_ne (tgt := 38) hx hb dMo_manOf_31 (by decide) (fun c_4 => ?_) (fun c_4 => ?_)
            · refine lv_iload_n hx hb dMo_manOf_38 rfl (lv_at hl 1 rfl) ?_
              refine lv_istore_n (lv' := [(1, .int v1_4), (0, .int ch), (2, .int v2_4)]) hx hb dMo_manOf_39 rfl hl (by decide) rfl (fun ls hl => ?_)
              refine lv_iinc (v := v2_4 + 1) (lv' := [(2, .int (v2_4 + 1)), (1, .int v1_4), (0, .int ch)]) hx hb dMo_manOf_40 hl (k := 2) rfl rfl (by decide) rfl (fun ls hl => ?_)
              refine lv_goto (tgt := 4) hx hb dMo_manOf_43 (by decide) ?_
              exact ih_4 v1_4 (v2_4 + 1) (he_4.trans (by rw [f_Mo_manOf_4_eq, if_neg c_1, if_neg c_2, if_neg c_3, if_neg c_4] <;> rfl)) (by have z1 := tnle c_1; have z2 := tnle c_2; have z3 := tnle c_3; have z4 := tne c_4; have y0 : (0 : Int32).toInt = 0 := rfl; have y7 : (7 : Int32).toInt = 7 := rfl; have y15 : (15 : Int32).toInt = 15 := rfl; have zr := i_rng (15 : Int32); have zs := i_succ9 v2_4 (by omega); omega) ls (lv_sub hl [2, 1, 0] rfl)
            · refine lv_iload_n hx hb dMo_manOf_34 rfl (lv_at hl 2 rfl) ?_
              refine lv_goto (tgt := 39) hx hb dMo_manOf_35 (by decide) ?_
              refine lv_istore_n (lv' := [(1, .int v2_4), (0, .int ch), (2, .int v2_4)]) hx hb dMo_manOf_39 rfl hl (by decide) rfl (fun ls hl => ?_)
              refine lv_iinc (v := v2_4 + 1) (lv' := [(2, .int (v2_4 + 1)), (1, .int v2_4), (0, .int ch)]) hx hb dMo_manOf_40 hl (k := 2) rfl rfl (by decide) rfl (fun ls hl => ?_)
              refine lv_goto (tgt := 4) hx hb dMo_manOf_43 (by decide) ?_
              exact ih_4 v2_4 (v2_4 + 1) (he_4.trans (by rw [f_Mo_manOf_4_eq, if_neg c_1, if_neg c_2, if_neg c_3, if_pos c_4] <;> rfl)) (by have z1 := tnle c_1; have z2 := tnle c_2; have z3 := tnle c_3; have z4 := teq c_4; have y0 : (0 : Int32).toInt = 0 := rfl; have y7 : (7 : Int32).toInt = 7 := rfl; have y15 : (15 : Int32).toInt = 15 := rfl; have zr := i_rng (15 : Int32); have zs := i_succ9 v2_4 (by omega); omega) ls (lv_sub hl [2, 1, 0] rfl)
  exact J_4 (15) 0 1 (by rw [f_Mo_manOf_eq] <;> rfl) (by decide) ls (lv_sub hl [2, 1, 0] rfl)

abbrev cMo_lengthOf : ByteArray := prog_11_method_50_code
def yMo_lengthOf : MethodName := ⟨"ChessRulesModel", "lengthOf", "(I)I"⟩
def wsMo_lengthOf : List Cond := Cond.code yMo_lengthOf cMo_lengthOf 1 (some .int) :: BIG
theorem dMo_lengthOf_0 : decode cMo_lengthOf 0 = .ok (.iload_n 0, 1) := by decide +kernel
theorem dMo_lengthOf_1 : decode cMo_lengthOf 1 = .ok (.bipush 10, 2) := by decide +kernel
theorem dMo_lengthOf_3 : decode cMo_lengthOf 3 = .ok (.if_icmp .ge 7, 3) := by decide +kernel
theorem dMo_lengthOf_6 : decode cMo_lengthOf 6 = .ok (.iconst 1, 1) := by decide +kernel
theorem dMo_lengthOf_7 : decode cMo_lengthOf 7 = .ok (.goto 14, 3) := by decide +kernel
theorem dMo_lengthOf_10 : decode cMo_lengthOf 10 = .ok (.iload_n 0, 1) := by decide +kernel
theorem dMo_lengthOf_11 : decode cMo_lengthOf 11 = .ok (.bipush 100, 2) := by decide +kernel
theorem dMo_lengthOf_13 : decode cMo_lengthOf 13 = .ok (.if_icmp .ge 7, 3) := by decide +kernel
theorem dMo_lengthOf_16 : decode cMo_lengthOf 16 = .ok (.iconst 2, 1) := by decide +kernel
theorem dMo_lengthOf_17 : decode cMo_lengthOf 17 = .ok (.goto 4, 3) := by decide +kernel
theorem dMo_lengthOf_20 : decode cMo_lengthOf 20 = .ok (.iconst 3, 1) := by decide +kernel
theorem dMo_lengthOf_21 : decode cMo_lengthOf 21 = .ok (.ireturn, 1) := by decide +kernel

def f_Mo_lengthOf (n : Int32) : Int32 :=
  (if 10 ≤ n then (if 100 ≤ n then 3 else 2) else 1)
theorem f_Mo_lengthOf_eq (n : Int32) : f_Mo_lengthOf n =
  (if 10 ≤ n then (if 100 ≤ n then 3 else 2) else 1) := rfl

set_option maxHeartbeats 4000000 in
set_option maxRecDepth 100000 in
theorem c_Mo_lengthOf (l : Launch) (dC : Nat → ClassId) (dI : Nat → Nat → Nat) (cI cJ cC : ClassId) (ad : Nat → Nat) (n : Int32) : Met l yMo_lengthOf wsMo_lengthOf { frames := 0, cells := 0, slots := 0, locals := 0 } (roP dC dI (TYS cI cJ cC) [.int n] [] (GS ad)) (vp_Si (fun r => r = f_Mo_lengthOf n)) 0 0 (fun _ => False) := by
  refine Met.ofW (cc := cMo_lengthOf) (maxL := 1) (ret := (some .int)) (by decide) rfl ?_
  intro p e s m args below meth c s₁ B hml hv
  obtain ⟨rfl, hP, hK, hG⟩ := hv
  have hx := B.exec
  have hb := B.bytes
  have hr := B.returns
  have hB : ∀ w9 ∈ BIG, w9.before ([.int n]).toArray s = true := fun w9 h => atoms_spec (ws := wsMo_lengthOf) B.pre w9 (List.mem_cons_of_mem _ h)
  have hown : s.vm.findClass "ChessRulesModel" = some m.cls := findClass_of_methodNamed B.named
  have hlocks := B.notSynchronized
  have hS : va_S (fun _ => False) s.heap s.heap [] := va_S.rf
  have hP : va_P (dC, dI) vwCl [] s.heap := hP
  have hl := lv_entry ([.int n]) (n := 1) (Nat.le_of_ble_eq_true rfl)
  rw [lg_entry_eq]
  generalize (lg_sl ([.int n]) ++ List.replicate (1 - (lg_sl ([.int n])).length) Slot.unset).toArray = ls at hl ⊢
  have hl : lv_has ls 1 [(0, .int n)] := hl
  refine lv_iload_n hx hb dMo_lengthOf_0 rfl (lv_at hl 0 rfl) ?_
  refine lv_bipush (v := 10) hx hb dMo_lengthOf_1 (by decide) ?_
  refine lv_icmp_ge (tgt := 10) hx hb dMo_lengthOf_3 (by decide) (fun c_1 => ?_) (fun c_1 => ?_)
  · refine lv_iload_n hx hb dMo_lengthOf_10 rfl (lv_at hl 0 rfl) ?_
    refine lv_bipush (v := 100) hx hb dMo_lengthOf_11 (by decide) ?_
    refine lv_icmp_ge (tgt := 20) hx hb dMo_lengthOf_13 (by decide) (fun c_2 => ?_) (fun c_2 => ?_)
    · refine lv_iconst (v := 3) hx hb dMo_lengthOf_20 (by decide) ?_
      exact ro_reti hx hb hr hlocks dMo_lengthOf_21 (Eq.symm (by rw [f_Mo_lengthOf_eq, if_pos c_1, if_pos c_2] <;> rfl))
    · refine lv_iconst (v := 2) hx hb dMo_lengthOf_16 (by decide) ?_
      refine lv_goto (tgt := 21) hx hb dMo_lengthOf_17 (by decide) ?_
      exact ro_reti hx hb hr hlocks dMo_lengthOf_21 (Eq.symm (by rw [f_Mo_lengthOf_eq, if_pos c_1, if_neg c_2] <;> rfl))
  · refine lv_iconst (v := 1) hx hb dMo_lengthOf_6 (by decide) ?_
    refine lv_goto (tgt := 21) hx hb dMo_lengthOf_7 (by decide) ?_
    exact ro_reti hx hb hr hlocks dMo_lengthOf_21 (Eq.symm (by rw [f_Mo_lengthOf_eq, if_neg c_1] <;> rfl))

abbrev cMo_countOf : ByteArray := prog_11_method_52_code
def yMo_countOf : MethodName := ⟨"ChessRulesModel", "countOf", "(I)I"⟩
def wsMo_countOf : List Cond := Cond.code yMo_countOf cMo_countOf 4 (some .int) :: BIG
theorem dMo_countOf_0 : decode cMo_countOf 0 = .ok (.iconst 0, 1) := by decide +kernel
theorem dMo_countOf_1 : decode cMo_countOf 1 = .ok (.istore_n 2, 1) := by decide +kernel
theorem dMo_countOf_2 : decode cMo_countOf 2 = .ok (.iconst 0, 1) := by decide +kernel
theorem dMo_countOf_3 : decode cMo_countOf 3 = .ok (.istore_n 3, 1) := by decide +kernel
theorem dMo_countOf_4 : decode cMo_countOf 4 = .ok (.iload_n 3, 1) := by decide +kernel
theorem dMo_countOf_5 : decode cMo_countOf 5 = .ok (.bipush 64, 2) := by decide +kernel
theorem dMo_countOf_7 : decode cMo_countOf 7 = .ok (.if_icmp .ge 27, 3) := by decide +kernel
theorem dMo_countOf_10 : decode cMo_countOf 10 = .ok (.aload_n 0, 1) := by decide +kernel
theorem dMo_countOf_11 : decode cMo_countOf 11 = .ok (.getfield 16, 3) := by decide +kernel
theorem dMo_countOf_14 : decode cMo_countOf 14 = .ok (.iload_n 3, 1) := by decide +kernel
theorem dMo_countOf_15 : decode cMo_countOf 15 = .ok (.iaload, 1) := by decide +kernel
theorem dMo_countOf_16 : decode cMo_countOf 16 = .ok (.iload_n 1, 1) := by decide +kernel
theorem dMo_countOf_17 : decode cMo_countOf 17 = .ok (.if_icmp .ne 9, 3) := by decide +kernel
theorem dMo_countOf_20 : decode cMo_countOf 20 = .ok (.iload_n 2, 1) := by decide +kernel
theorem dMo_countOf_21 : decode cMo_countOf 21 = .ok (.iconst 1, 1) := by decide +kernel
theorem dMo_countOf_22 : decode cMo_countOf 22 = .ok (.iadd, 1) := by decide +kernel
theorem dMo_countOf_23 : decode cMo_countOf 23 = .ok (.goto 4, 3) := by decide +kernel
theorem dMo_countOf_26 : decode cMo_countOf 26 = .ok (.iload_n 2, 1) := by decide +kernel
theorem dMo_countOf_27 : decode cMo_countOf 27 = .ok (.istore_n 2, 1) := by decide +kernel
theorem dMo_countOf_28 : decode cMo_countOf 28 = .ok (.iinc 3 1, 3) := by decide +kernel
theorem dMo_countOf_31 : decode cMo_countOf 31 = .ok (.goto (-27), 3) := by decide +kernel
theorem dMo_countOf_34 : decode cMo_countOf 34 = .ok (.iload_n 2, 1) := by decide +kernel
theorem dMo_countOf_35 : decode cMo_countOf 35 = .ok (.ireturn, 1) := by decide +kernel

def f_Mo_countOf_4 (oS_men : Nat → Int32) (man : Int32) : Nat → Int32 → Int32 → Int32
  | 0 => fun _ _ => 0
  | n_4 + 1 => fun v2_4 v3_4 => (if 64 ≤ v3_4 then v2_4 else (if (oS_men v3_4.toNatClampNeg) = man then (f_Mo_countOf_4 oS_men man n_4) (v2_4 + 1) (v3_4 + 1) else (f_Mo_countOf_4 oS_men man n_4) v2_4 (v3_4 + 1)))
theorem f_Mo_countOf_4_eq (oS_men : Nat → Int32) (man : Int32) (n_4 : Nat) (v2_4 : Int32) (v3_4 : Int32) : f_Mo_countOf_4 oS_men man (n_4 + 1) v2_4 v3_4 =
  (if 64 ≤ v3_4 then v2_4 else (if (oS_men v3_4.toNatClampNeg) = man then (f_Mo_countOf_4 oS_men man n_4) (v2_4 + 1) (v3_4 + 1) else (f_Mo_countOf_4 oS_men man n_4) v2_4 (v3_4 + 1))) := rfl

def f_Mo_countOf (oS_men : Nat → Int32) (man : Int32) : Int32 :=
  f_Mo_countOf_4 oS_men man (65) 0 0
theorem f_Mo_countOf_eq (oS_men : Nat → Int32) (man : Int32) : f_Mo_countOf oS_men man =
  f_Mo_countOf_4 oS_men man (65) 0 0 := rfl

set_option maxHeartbeats 4000000 in
set_option maxRecDepth 100000 in
theorem c_Mo_countOf (l : Launch) (dC : Nat → ClassId) (dI : Nat → Nat → Nat) (cI cJ cC : ClassId) (ad : Nat → Nat) (o o_text o_out o_men o_pastMen o_pastSide o_pastRights o_pastPassed o_pastClock o_pastNumber o_pastTakes o_playedMoves o_keptMen o_keptRest o_lists o_counts : Nat) (oS_thrown : Int32) (oS_typed : Int32) (oS_text : Nat → Int32) (oS_told : Int32) (oS_out : Nat → Int32) (oS_men : Nat → Int32) (oS_side : Int32) (oS_rights : Int32) (oS_passed : Int32) (oS_clock : Int32) (oS_number : Int32) (oS_plies : Int32) (oS_pastMen : Nat → Int32) (oS_pastSide : Nat → Int32) (oS_pastRights : Nat → Int32) (oS_pastPassed : Nat → Int32) (oS_pastClock : Nat → Int32) (oS_pastNumber : Nat → Int32) (oS_pastTakes : Nat → Int64) (oS_playedMoves : Nat → Int32) (oS_keptMen : Nat → Int32) (oS_keptRest : Nat → Int32) (oS_lists : Nat → Int32) (oS_counts : Nat → Int32) (man : Int32) : Met l yMo_countOf wsMo_countOf { frames := 0, cells := 0, slots := 0, locals := 0 } (roP dC dI (TYS cI cJ cC) [.ref o, .int man] [(o, .inr (6, [.int oS_thrown, .int oS_typed, .ref o_text, .int oS_told, .ref o_out, .ref o_men, .int oS_side, .int oS_rights, .int oS_passed, .int oS_clock, .int oS_number, .int oS_plies, .ref o_pastMen, .ref o_pastSide, .ref o_pastRights, .ref o_pastPassed, .ref o_pastClock, .ref o_pastNumber, .ref o_pastTakes, .ref o_playedMoves, .ref o_keptMen, .ref o_keptRest, .ref o_lists, .ref o_counts])), (o_text, .inl (cC, 100, .inl oS_text)), (o_out, .inl (cC, 100, .inl oS_out)), (o_men, .inl (cI, 64, .inl oS_men)), (o_pastMen, .inl (cI, 25664, .inl oS_pastMen)), (o_pastSide, .inl (cI, 401, .inl oS_pastSide)), (o_pastRights, .inl (cI, 401, .inl oS_pastRights)), (o_pastPassed, .inl (cI, 401, .inl oS_pastPassed)), (o_pastClock, .inl (cI, 401, .inl oS_pastClock)), (o_pastNumber, .inl (cI, 401, .inl oS_pastNumber)), (o_pastTakes, .inl (cJ, 401, .inr (.inl oS_pastTakes))), (o_playedMoves, .inl (cI, 400, .inl oS_playedMoves)), (o_keptMen, .inl (cI, 384, .inl oS_keptMen)), (o_keptRest, .inl (cI, 30, .inl oS_keptRest)), (o_lists, .inl (cI, 8192, .inl oS_lists)), (o_counts, .inl (cI, 4, .inl oS_counts))] (GS ad)) (vp_Si (fun r => r = f_Mo_countOf oS_men man)) 0 0 (fun _ => False) := by
  refine Met.ofW (cc := cMo_countOf) (maxL := 4) (ret := (some .int)) (by decide) rfl ?_
  intro p e s m args below meth c s₁ B hml hv
  obtain ⟨rfl, hP, hK, hG⟩ := hv
  have hx := B.exec
  have hb := B.bytes
  have hr := B.returns
  have hB : ∀ w9 ∈ BIG, w9.before ([.ref o, .int man]).toArray s = true := fun w9 h => atoms_spec (ws := wsMo_countOf) B.pre w9 (List.mem_cons_of_mem _ h)
  have hown : s.vm.findClass "ChessRulesModel" = some m.cls := findClass_of_methodNamed B.named
  have hlocks := B.notSynchronized
  have hS : va_S (fun _ => False) s.heap s.heap [] := va_S.rf
  have hP : va_P (dC, dI) vwCl [(o, .inr (6, [.int oS_thrown, .int oS_typed, .ref o_text, .int oS_told, .ref o_out, .ref o_men, .int oS_side, .int oS_rights, .int oS_passed, .int oS_clock, .int oS_number, .int oS_plies, .ref o_pastMen, .ref o_pastSide, .ref o_pastRights, .ref o_pastPassed, .ref o_pastClock, .ref o_pastNumber, .ref o_pastTakes, .ref o_playedMoves, .ref o_keptMen, .ref o_keptRest, .ref o_lists, .ref o_counts])), (o_text, .inl (cC, 100, .inl oS_text)), (o_out, .inl (cC, 100, .inl oS_out)), (o_men, .inl (cI, 64, .inl oS_men)), (o_pastMen, .inl (cI, 25664, .inl oS_pastMen)), (o_pastSide, .inl (cI, 401, .inl oS_pastSide)), (o_pastRights, .inl (cI, 401, .inl oS_pastRights)), (o_pastPassed, .inl (cI, 401, .inl oS_pastPassed)), (o_pastClock, .inl (cI, 401, .inl oS_pastClock)), (o_pastNumber, .inl (cI, 401, .inl oS_pastNumber)), (o_pastTakes, .inl (cJ, 401, .inr (.inl oS_pastTakes))), (o_playedMoves, .inl (cI, 400, .inl oS_playedMoves)), (o_keptMen, .inl (cI, 384, .inl oS_keptMen)), (o_keptRest, .inl (cI, 30, .inl oS_keptRest)), (o_lists, .inl (cI, 8192, .inl oS_lists)), (o_counts, .inl (cI, 4, .inl oS_counts))] s.heap := hP
  have hl := lv_entry ([.ref o, .int man]) (n := 4) (Nat.le_of_ble_eq_true rfl)
  rw [lg_entry_eq]
  generalize (lg_sl ([.ref o, .int man]) ++ List.replicate (4 - (lg_sl ([.ref o, .int man])).length) Slot.unset).toArray = ls at hl ⊢
  have hl : lv_has ls 4 [(0, .ref o), (1, .int man)] := hl
  refine lv_iconst (v := 0) hx hb dMo_countOf_0 (by decide) ?_
  refine lv_istore_n (lv' := [(2, .int 0), (0, .ref o), (1, .int man)]) hx hb dMo_countOf_1 rfl hl (by decide) rfl (fun ls hl => ?_)
  refine lv_iconst (v := 0) hx hb dMo_countOf_2 (by decide) ?_
  refine lv_istore_n (lv' := [(3, .int 0), (2, .int 0), (0, .ref o), (1, .int man)]) hx hb dMo_countOf_3 rfl hl (by decide) rfl (fun ls hl => ?_)
  have J_4 : ∀ (n_4 : Nat) (v2_4 : Int32) (v3_4 : Int32), f_Mo_countOf oS_men man = f_Mo_countOf_4 oS_men man n_4 v2_4 v3_4 → ((0 : Int) ≤ v3_4.toInt ∧ (64 : Int32).toInt - v3_4.toInt + 1 ≤ (n_4 : Int) ∧ (1 : Int) ≤ (n_4 : Int)) → ∀ ls : Array Slot, lv_has ls 4 [(0, .ref o), (1, .int man), (2, .int v2_4), (3, .int v3_4)] → W p l e (headSpec wsMo_countOf { frames := 0, cells := 0, slots := 0, locals := 0 }).room s m ([.ref o, .int man]).toArray below meth c s.heap [] 0 0 (MQ below (vp_Si (fun r => r = f_Mo_countOf oS_men man)) ([.ref o, .int man]).toArray s 0 0 (fun _ => False)) (F0 m 4 ls []) := by
    intro n_4
    induction n_4 with
    | zero => intro v2_4 v3_4 _ hm_4; exact absurd hm_4 (by omega)
    | succ n_4 ih_4 =>
      intro v2_4 v3_4 he_4 hm_4 ls hl
      refine lv_iload_n hx hb dMo_countOf_4 rfl (lv_at hl 3 rfl) ?_
      refine lv_bipush (v := 64) hx hb dMo_countOf_5 (by decide) ?_
      refine lv_icmp_ge (tgt := 34) hx hb dMo_countOf_7 (by decide) (fun c_1 => ?_) (fun c_1 => ?_)
      · refine lv_iload_n hx hb dMo_countOf_34 rfl (lv_at hl 2 rfl) ?_
        exact ro_reti hx hb hr hlocks dMo_countOf_35 (Eq.symm (he_4.trans (by rw [f_Mo_countOf_4_eq, if_pos c_1] <;> rfl)))
      · refine lv_aload_n hx hb dMo_countOf_10 rfl (lv_at hl 0 rfl) ?_
        refine va_get (D := (dC, dI)) (ci := 6) (v := .ref o_men) (C := RMo) (T := TMo) (N := 24) hx hb hB inMo hown hK hP 0 rfl rfl 5 (by decide) (hB _ q5_16) (fun _ h9 => h9) rfl dMo_countOf_11 ?_
        refine lv_iload_n hx hb dMo_countOf_14 rfl (lv_at hl 3 rfl) ?_
        refine va_iald hx hb hK hP 3 0 rfl rfl (vp_in_iff.mpr (by have z1 := tnle c_1; have y64 : (64 : Int32).toInt = 64 := rfl; omega)) dMo_countOf_15 ?_
        refine lv_iload_n hx hb dMo_countOf_16 rfl (lv_at hl 1 rfl) ?_
        refine lv_icmp_ne (tgt := 26) hx hb dMo_countOf_17 (by decide) (fun c_2 => ?_) (fun c_2 => ?_)
        · refine lv_iload_n hx hb dMo_countOf_26 rfl (lv_at hl 2 rfl) ?_
          refine lv_istore_n (lv' := [(2, .int v2_4), (0, .ref o), (1, .int man), (3, .int v3_4)]) hx hb dMo_countOf_27 rfl hl (by decide) rfl (fun ls hl => ?_)
          refine lv_iinc (v := v3_4 + 1) (lv' := [(3, .int (v3_4 + 1)), (2, .int v2_4), (0, .ref o), (1, .int man)]) hx hb dMo_countOf_28 hl (k := 3) rfl rfl (by decide) rfl (fun ls hl => ?_)
          refine lv_goto (tgt := 4) hx hb dMo_countOf_31 (by decide) ?_
          exact ih_4 v2_4 (v3_4 + 1) (he_4.trans (by rw [f_Mo_countOf_4_eq, if_neg c_1, if_neg c_2] <;> rfl)) (by have z1 := tnle c_1; have z2 := tne c_2; have y64 : (64 : Int32).toInt = 64 := rfl; have zr := i_rng (64 : Int32); have zs := i_succ9 v3_4 (by omega); omega) ls (lv_sub hl [2, 3, 1, 0] rfl)
        · refine lv_iload_n hx hb dMo_countOf_20 rfl (lv_at hl 2 rfl) ?_
          refine lv_iconst (v := 1) hx hb dMo_countOf_21 (by decide) ?_
          refine lv_iadd hx hb dMo_countOf_22 ?_
          refine lv_goto (tgt := 27) hx hb dMo_countOf_23 (by decide) ?_
          refine lv_istore_n (lv' := [(2, .int (v2_4 + 1)), (0, .ref o), (1, .int man), (3, .int v3_4)]) hx hb dMo_countOf_27 rfl hl (by decide) rfl (fun ls hl => ?_)
          refine lv_iinc (v := v3_4 + 1) (lv' := [(3, .int (v3_4 + 1)), (2, .int (v2_4 + 1)), (0, .ref o), (1, .int man)]) hx hb dMo_countOf_28 hl (k := 3) rfl rfl (by decide) rfl (fun ls hl => ?_)
          refine lv_goto (tgt := 4) hx hb dMo_countOf_31 (by decide) ?_
          exact ih_4 (v2_4 + 1) (v3_4 + 1) (he_4.trans (by rw [f_Mo_countOf_4_eq, if_neg c_1, if_pos c_2] <;> rfl)) (by have z1 := tnle c_1; have z2 := teq c_2; have y64 : (64 : Int32).toInt = 64 := rfl; have zr := i_rng (64 : Int32); have zs := i_succ9 v3_4 (by omega); omega) ls (lv_sub hl [2, 3, 1, 0] rfl)
  exact J_4 (65) 0 0 (by rw [f_Mo_countOf_eq] <;> rfl) (by decide) ls (lv_sub hl [2, 3, 1, 0] rfl)

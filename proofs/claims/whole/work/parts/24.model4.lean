theorem i_pk {x : Int32} (k : Int32) (h : 0 ≤ x.toInt ∧ x.toInt ≤ 1000) (hk : 0 ≤ k.toInt ∧ k.toInt ≤ 1000) : (x + k).toInt = x.toInt + k.toInt := i_add (by omega) (by omega)
theorem i_p1 {x : Int32} (h : 0 ≤ x.toInt ∧ x.toInt ≤ 1000) : (x + 1).toInt = x.toInt + 1 := i_pk 1 h (by decide)
theorem i_p2 {x : Int32} (h : 0 ≤ x.toInt ∧ x.toInt ≤ 1000) : (x + 2).toInt = x.toInt + 2 := i_pk 2 h (by decide)
theorem i_p3 {x : Int32} (h : 0 ≤ x.toInt ∧ x.toInt ≤ 1000) : (x + 3).toInt = x.toInt + 3 := i_pk 3 h (by decide)
theorem i_p4 {x : Int32} (h : 0 ≤ x.toInt ∧ x.toInt ≤ 1000) : (x + 4).toInt = x.toInt + 4 := i_pk 4 h (by decide)
theorem four_of {x : Int32} (h : 0 ≤ x.toInt ∧ x.toInt < 4) : ∃ j : Nat, j < 4 ∧ x = nI j := vp_in_of (vp_in_iff.mpr h) (by decide)
theorem rk_all : ∀ j, j < 4 → ∀ c ∈ ([7, 0, 4] : List Int32), ¬ ((56 * (nI j / 2)) + c < 0 ∨ 64 ≤ ((56 * (nI j / 2)) + c).toNatClampNeg) := by decide +kernel
theorem rk_in {k c : Int32} (h : 0 ≤ k.toInt ∧ k.toInt < 4) (hc : c ∈ ([7, 0, 4] : List Int32)) : vp_in ((56 * (k / 2)) + c) 64 := by
  obtain ⟨j, hj, rfl⟩ := four_of h
  exact rk_all j hj c hc
theorem pw_all : ∀ j, j < 64 → (nI j / 8 = 5 → ¬ (nI j - 8 < 0 ∨ 64 ≤ (nI j - 8).toNatClampNeg) ∧ ¬ (nI j + 8 < 0 ∨ 64 ≤ (nI j + 8).toNatClampNeg)) ∧ (nI j / 8 = 2 → ¬ (nI j - (-8) < 0 ∨ 64 ≤ (nI j - (-8)).toNatClampNeg) ∧ ¬ (nI j + (-8) < 0 ∨ 64 ≤ (nI j + (-8)).toNatClampNeg)) := by decide +kernel
theorem pw_in {p9 k b sd : Int32} (hp : 0 ≤ p9.toInt ∧ p9.toInt < 64) (h1 : (sd = 0 ∧ k = 5) ∨ (¬ sd = 0 ∧ k = 2)) (h2 : (sd = 0 ∧ b = 8) ∨ (¬ sd = 0 ∧ b = (-8))) (h3 : p9 / 8 = k) : vp_in (p9 - b) 64 ∧ vp_in (p9 + b) 64 := by
  obtain ⟨j, hj, rfl⟩ := sq_of hp
  rcases h1 with ⟨e, rfl⟩ | ⟨e, rfl⟩ <;> rcases h2 with ⟨e2, rfl⟩ | ⟨e2, rfl⟩
  · exact (pw_all j hj).1 h3
  · exact absurd e e2
  · exact absurd e2 e
  · exact (pw_all j hj).2 h3

abbrev cMo_type : ByteArray := prog_11_method_43_code
def yMo_type : MethodName := ⟨"ChessRulesModel", "type", "(JI)Z"⟩
def wsMo_type : List Cond := Cond.code yMo_type cMo_type 7 (some .boolean) :: BIG
theorem dMo_type_0 : decode cMo_type 0 = .ok (.aload_n 0, 1) := by decide +kernel
theorem dMo_type_1 : decode cMo_type 1 = .ok (.iconst 0, 1) := by decide +kernel
theorem dMo_type_2 : decode cMo_type 2 = .ok (.putfield 70, 3) := by decide +kernel
theorem dMo_type_5 : decode cMo_type 5 = .ok (.iload_n 3, 1) := by decide +kernel
theorem dMo_type_6 : decode cMo_type 6 = .ok (.iconst 1, 1) := by decide +kernel
theorem dMo_type_7 : decode cMo_type 7 = .ok (.if_icmp .lt 20, 3) := by decide +kernel
theorem dMo_type_10 : decode cMo_type 10 = .ok (.iload_n 3, 1) := by decide +kernel
theorem dMo_type_11 : decode cMo_type 11 = .ok (.bipush 8, 2) := by decide +kernel
theorem dMo_type_13 : decode cMo_type 13 = .ok (.if_icmp .gt 14, 3) := by decide +kernel
theorem dMo_type_16 : decode cMo_type 16 = .ok (.aload_n 0, 1) := by decide +kernel
theorem dMo_type_17 : decode cMo_type 17 = .ok (.getfield 177, 3) := by decide +kernel
theorem dMo_type_20 : decode cMo_type 20 = .ok (.iload_n 3, 1) := by decide +kernel
theorem dMo_type_21 : decode cMo_type 21 = .ok (.iadd, 1) := by decide +kernel
theorem dMo_type_22 : decode cMo_type 22 = .ok (.bipush 100, 2) := by decide +kernel
theorem dMo_type_24 : decode cMo_type 24 = .ok (.if_icmp .le 5, 3) := by decide +kernel
theorem dMo_type_27 : decode cMo_type 27 = .ok (.iconst 0, 1) := by decide +kernel
theorem dMo_type_28 : decode cMo_type 28 = .ok (.ireturn, 1) := by decide +kernel
theorem dMo_type_29 : decode cMo_type 29 = .ok (.iconst 0, 1) := by decide +kernel
theorem dMo_type_30 : decode cMo_type 30 = .ok (.istore 4, 2) := by decide +kernel
theorem dMo_type_32 : decode cMo_type 32 = .ok (.iload 4, 2) := by decide +kernel
theorem dMo_type_34 : decode cMo_type 34 = .ok (.iload_n 3, 1) := by decide +kernel
theorem dMo_type_35 : decode cMo_type 35 = .ok (.if_icmp .ge 42, 3) := by decide +kernel
theorem dMo_type_38 : decode cMo_type 38 = .ok (.lload_n 1, 1) := by decide +kernel
theorem dMo_type_39 : decode cMo_type 39 = .ok (.bipush 8, 2) := by decide +kernel
theorem dMo_type_41 : decode cMo_type 41 = .ok (.iload 4, 2) := by decide +kernel
theorem dMo_type_43 : decode cMo_type 43 = .ok (.imul, 1) := by decide +kernel
theorem dMo_type_44 : decode cMo_type 44 = .ok (.lshr, 1) := by decide +kernel
theorem dMo_type_45 : decode cMo_type 45 = .ok (.ldc2_w 180, 3) := by decide +kernel
theorem dMo_type_48 : decode cMo_type 48 = .ok (.land, 1) := by decide +kernel
theorem dMo_type_49 : decode cMo_type 49 = .ok (.lstore 5, 2) := by decide +kernel
theorem dMo_type_51 : decode cMo_type 51 = .ok (.lload 5, 2) := by decide +kernel
theorem dMo_type_53 : decode cMo_type 53 = .ok (.ldc2_w 182, 3) := by decide +kernel
theorem dMo_type_56 : decode cMo_type 56 = .ok (.lcmp, 1) := by decide +kernel
theorem dMo_type_57 : decode cMo_type 57 = .ok (.ifCond .lt 12, 3) := by decide +kernel
theorem dMo_type_60 : decode cMo_type 60 = .ok (.lload 5, 2) := by decide +kernel
theorem dMo_type_62 : decode cMo_type 62 = .ok (.ldc2_w 184, 3) := by decide +kernel
theorem dMo_type_65 : decode cMo_type 65 = .ok (.lcmp, 1) := by decide +kernel
theorem dMo_type_66 : decode cMo_type 66 = .ok (.ifCond .le 5, 3) := by decide +kernel
theorem dMo_type_69 : decode cMo_type 69 = .ok (.iconst 0, 1) := by decide +kernel
theorem dMo_type_70 : decode cMo_type 70 = .ok (.ireturn, 1) := by decide +kernel
theorem dMo_type_71 : decode cMo_type 71 = .ok (.iinc 4 1, 3) := by decide +kernel
theorem dMo_type_74 : decode cMo_type 74 = .ok (.goto (-42), 3) := by decide +kernel
theorem dMo_type_77 : decode cMo_type 77 = .ok (.iconst 0, 1) := by decide +kernel
theorem dMo_type_78 : decode cMo_type 78 = .ok (.istore 4, 2) := by decide +kernel
theorem dMo_type_80 : decode cMo_type 80 = .ok (.iload 4, 2) := by decide +kernel
theorem dMo_type_82 : decode cMo_type 82 = .ok (.iload_n 3, 1) := by decide +kernel
theorem dMo_type_83 : decode cMo_type 83 = .ok (.if_icmp .ge 41, 3) := by decide +kernel
theorem dMo_type_86 : decode cMo_type 86 = .ok (.aload_n 0, 1) := by decide +kernel
theorem dMo_type_87 : decode cMo_type 87 = .ok (.getfield 7, 3) := by decide +kernel
theorem dMo_type_90 : decode cMo_type 90 = .ok (.aload_n 0, 1) := by decide +kernel
theorem dMo_type_91 : decode cMo_type 91 = .ok (.getfield 177, 3) := by decide +kernel
theorem dMo_type_94 : decode cMo_type 94 = .ok (.lload_n 1, 1) := by decide +kernel
theorem dMo_type_95 : decode cMo_type 95 = .ok (.bipush 8, 2) := by decide +kernel
theorem dMo_type_97 : decode cMo_type 97 = .ok (.iload 4, 2) := by decide +kernel
theorem dMo_type_99 : decode cMo_type 99 = .ok (.imul, 1) := by decide +kernel
theorem dMo_type_100 : decode cMo_type 100 = .ok (.lshr, 1) := by decide +kernel
theorem dMo_type_101 : decode cMo_type 101 = .ok (.ldc2_w 180, 3) := by decide +kernel
theorem dMo_type_104 : decode cMo_type 104 = .ok (.land, 1) := by decide +kernel
theorem dMo_type_105 : decode cMo_type 105 = .ok (.l2i, 1) := by decide +kernel
theorem dMo_type_106 : decode cMo_type 106 = .ok (.i2c, 1) := by decide +kernel
theorem dMo_type_107 : decode cMo_type 107 = .ok (.castore, 1) := by decide +kernel
theorem dMo_type_108 : decode cMo_type 108 = .ok (.aload_n 0, 1) := by decide +kernel
theorem dMo_type_109 : decode cMo_type 109 = .ok (.dup, 1) := by decide +kernel
theorem dMo_type_110 : decode cMo_type 110 = .ok (.getfield 177, 3) := by decide +kernel
theorem dMo_type_113 : decode cMo_type 113 = .ok (.iconst 1, 1) := by decide +kernel
theorem dMo_type_114 : decode cMo_type 114 = .ok (.iadd, 1) := by decide +kernel
theorem dMo_type_115 : decode cMo_type 115 = .ok (.putfield 177, 3) := by decide +kernel
theorem dMo_type_118 : decode cMo_type 118 = .ok (.iinc 4 1, 3) := by decide +kernel
theorem dMo_type_121 : decode cMo_type 121 = .ok (.goto (-41), 3) := by decide +kernel
theorem dMo_type_124 : decode cMo_type 124 = .ok (.iconst 1, 1) := by decide +kernel
theorem dMo_type_125 : decode cMo_type 125 = .ok (.ireturn, 1) := by decide +kernel

def f_Mo_type_80 (oS_thrown : Int32) (oS_typed : Int32) (oS_text : Nat → Int32) (w : Int64) (n : Int32) (v4_32 : Int32) : Nat → Int32 → Int32 → (Nat → Int32) → (Int32 × Int32 × Int32 × (Nat → Int32))
  | 0 => fun _ _ _ => (0, oS_thrown, oS_typed, oS_text)
  | n_80 + 1 => fun v4_80 W_o_typed_80 W_o_text_80 => (if n ≤ v4_80 then (1, 0, W_o_typed_80, W_o_text_80) else (f_Mo_type_80 oS_thrown oS_typed oS_text w n v4_32 n_80) (v4_80 + 1) (W_o_typed_80 + 1) (upd W_o_text_80 W_o_typed_80.toNatClampNeg (vp_nar .char (toChar (((shr64 w (8 * v4_80)) &&& 255).toInt32)))))
theorem f_Mo_type_80_eq (oS_thrown : Int32) (oS_typed : Int32) (oS_text : Nat → Int32) (w : Int64) (n : Int32) (v4_32 : Int32) (n_80 : Nat) (v4_80 : Int32) (W_o_typed_80 : Int32) (W_o_text_80 : (Nat → Int32)) : f_Mo_type_80 oS_thrown oS_typed oS_text w n v4_32 (n_80 + 1) v4_80 W_o_typed_80 W_o_text_80 =
  (if n ≤ v4_80 then (1, 0, W_o_typed_80, W_o_text_80) else (f_Mo_type_80 oS_thrown oS_typed oS_text w n v4_32 n_80) (v4_80 + 1) (W_o_typed_80 + 1) (upd W_o_text_80 W_o_typed_80.toNatClampNeg (vp_nar .char (toChar (((shr64 w (8 * v4_80)) &&& 255).toInt32))))) := rfl

def f_Mo_type_32 (oS_thrown : Int32) (oS_typed : Int32) (oS_text : Nat → Int32) (w : Int64) (n : Int32) : Nat → Int32 → (Int32 × Int32 × Int32 × (Nat → Int32))
  | 0 => fun _ => (0, oS_thrown, oS_typed, oS_text)
  | n_32 + 1 => fun v4_32 => (if n ≤ v4_32 then f_Mo_type_80 oS_thrown oS_typed oS_text w n v4_32 (((n : Int32).toInt - 0).toNat + 1) 0 oS_typed oS_text else (if ((shr64 w (8 * v4_32)) &&& 255) < 32 then (0, 0, oS_typed, oS_text) else (if ((shr64 w (8 * v4_32)) &&& 255) ≤ 126 then (f_Mo_type_32 oS_thrown oS_typed oS_text w n n_32) (v4_32 + 1) else (0, 0, oS_typed, oS_text))))
theorem f_Mo_type_32_eq (oS_thrown : Int32) (oS_typed : Int32) (oS_text : Nat → Int32) (w : Int64) (n : Int32) (n_32 : Nat) (v4_32 : Int32) : f_Mo_type_32 oS_thrown oS_typed oS_text w n (n_32 + 1) v4_32 =
  (if n ≤ v4_32 then f_Mo_type_80 oS_thrown oS_typed oS_text w n v4_32 (((n : Int32).toInt - 0).toNat + 1) 0 oS_typed oS_text else (if ((shr64 w (8 * v4_32)) &&& 255) < 32 then (0, 0, oS_typed, oS_text) else (if ((shr64 w (8 * v4_32)) &&& 255) ≤ 126 then (f_Mo_type_32 oS_thrown oS_typed oS_text w n n_32) (v4_32 + 1) else (0, 0, oS_typed, oS_text)))) := rfl

def f_Mo_type (oS_thrown : Int32) (oS_typed : Int32) (oS_text : Nat → Int32) (w : Int64) (n : Int32) : Int32 × Int32 × Int32 × (Nat → Int32) :=
  (if n < 1 then (0, 0, oS_typed, oS_text) else (if 8 < n then (0, 0, oS_typed, oS_text) else (if (oS_typed + n) ≤ 100 then f_Mo_type_32 oS_thrown oS_typed oS_text w n (((n : Int32).toInt - 0).toNat + 1) 0 else (0, 0, oS_typed, oS_text))))
theorem f_Mo_type_eq (oS_thrown : Int32) (oS_typed : Int32) (oS_text : Nat → Int32) (w : Int64) (n : Int32) : f_Mo_type oS_thrown oS_typed oS_text w n =
  (if n < 1 then (0, 0, oS_typed, oS_text) else (if 8 < n then (0, 0, oS_typed, oS_text) else (if (oS_typed + n) ≤ 100 then f_Mo_type_32 oS_thrown oS_typed oS_text w n (((n : Int32).toInt - 0).toNat + 1) 0 else (0, 0, oS_typed, oS_text)))) := rfl

set_option maxHeartbeats 4000000 in
set_option maxRecDepth 100000 in
theorem c_Mo_type (l : Launch) (dC : Nat → ClassId) (dI : Nat → Nat → Nat) (cI cJ cC : ClassId) (ad : Nat → Nat) (o o_text o_out o_men o_pastMen o_pastSide o_pastRights o_pastPassed o_pastClock o_pastNumber o_pastTakes o_playedMoves o_keptMen o_keptRest o_lists o_counts : Nat) (sz : Nat) (oS_thrown : Int32) (oS_typed : Int32) (oS_text : Nat → Int32) (oS_told : Int32) (oS_out : Nat → Int32) (oS_men : Nat → Int32) (oS_side : Int32) (oS_rights : Int32) (oS_passed : Int32) (oS_clock : Int32) (oS_number : Int32) (oS_plies : Int32) (oS_pastMen : Nat → Int32) (oS_pastSide : Nat → Int32) (oS_pastRights : Nat → Int32) (oS_pastPassed : Nat → Int32) (oS_pastClock : Nat → Int32) (oS_pastNumber : Nat → Int32) (oS_pastTakes : Nat → Int64) (oS_playedMoves : Nat → Int32) (oS_keptMen : Nat → Int32) (oS_keptRest : Nat → Int32) (oS_lists : Nat → Int32) (oS_counts : Nat → Int32) (w : Int64) (n : Int32) (hty : 0 ≤ oS_typed.toInt ∧ oS_typed.toInt ≤ 100) : Met l yMo_type wsMo_type { frames := 0, cells := 0, slots := 0, locals := 0 } (rwP dC dI (TYS cI cJ cC) [.ref o, .long w, .int n] [(o, .inr (6, [.int oS_thrown, .int oS_typed, .ref o_text, .int oS_told, .ref o_out, .ref o_men, .int oS_side, .int oS_rights, .int oS_passed, .int oS_clock, .int oS_number, .int oS_plies, .ref o_pastMen, .ref o_pastSide, .ref o_pastRights, .ref o_pastPassed, .ref o_pastClock, .ref o_pastNumber, .ref o_pastTakes, .ref o_playedMoves, .ref o_keptMen, .ref o_keptRest, .ref o_lists, .ref o_counts])), (o_text, .inl (cC, 100, .inl oS_text)), (o_out, .inl (cC, 100, .inl oS_out)), (o_men, .inl (cI, 64, .inl oS_men)), (o_pastMen, .inl (cI, 25664, .inl oS_pastMen)), (o_pastSide, .inl (cI, 401, .inl oS_pastSide)), (o_pastRights, .inl (cI, 401, .inl oS_pastRights)), (o_pastPassed, .inl (cI, 401, .inl oS_pastPassed)), (o_pastClock, .inl (cI, 401, .inl oS_pastClock)), (o_pastNumber, .inl (cI, 401, .inl oS_pastNumber)), (o_pastTakes, .inl (cJ, 401, .inr (.inl oS_pastTakes))), (o_playedMoves, .inl (cI, 400, .inl oS_playedMoves)), (o_keptMen, .inl (cI, 384, .inl oS_keptMen)), (o_keptRest, .inl (cI, 30, .inl oS_keptRest)), (o_lists, .inl (cI, 8192, .inl oS_lists)), (o_counts, .inl (cI, 4, .inl oS_counts))] sz (GS ad)) (va_Qi (fun r (_ : Unit) => r = (f_Mo_type oS_thrown oS_typed oS_text w n).1) (rwB dC dI (TYS cI cJ cC) [(o, .inr (6, [.int ((f_Mo_type oS_thrown oS_typed oS_text w n).2.1), .int ((f_Mo_type oS_thrown oS_typed oS_text w n).2.2.1), .ref o_text, .int oS_told, .ref o_out, .ref o_men, .int oS_side, .int oS_rights, .int oS_passed, .int oS_clock, .int oS_number, .int oS_plies, .ref o_pastMen, .ref o_pastSide, .ref o_pastRights, .ref o_pastPassed, .ref o_pastClock, .ref o_pastNumber, .ref o_pastTakes, .ref o_playedMoves, .ref o_keptMen, .ref o_keptRest, .ref o_lists, .ref o_counts])), (o_text, .inl (cC, 100, .inl ((f_Mo_type oS_thrown oS_typed oS_text w n).2.2.2))), (o_out, .inl (cC, 100, .inl oS_out)), (o_men, .inl (cI, 64, .inl oS_men)), (o_pastMen, .inl (cI, 25664, .inl oS_pastMen)), (o_pastSide, .inl (cI, 401, .inl oS_pastSide)), (o_pastRights, .inl (cI, 401, .inl oS_pastRights)), (o_pastPassed, .inl (cI, 401, .inl oS_pastPassed)), (o_pastClock, .inl (cI, 401, .inl oS_pastClock)), (o_pastNumber, .inl (cI, 401, .inl oS_pastNumber)), (o_pastTakes, .inl (cJ, 401, .inr (.inl oS_pastTakes))), (o_playedMoves, .inl (cI, 400, .inl oS_playedMoves)), (o_keptMen, .inl (cI, 384, .inl oS_keptMen)), (o_keptRest, .inl (cI, 30, .inl oS_keptRest)), (o_lists, .inl (cI, 8192, .inl oS_lists)), (o_counts, .inl (cI, 4, .inl oS_counts))] (va_A [(o, .inr (6, [.int oS_thrown, .int oS_typed, .ref o_text, .int oS_told, .ref o_out, .ref o_men, .int oS_side, .int oS_rights, .int oS_passed, .int oS_clock, .int oS_number, .int oS_plies, .ref o_pastMen, .ref o_pastSide, .ref o_pastRights, .ref o_pastPassed, .ref o_pastClock, .ref o_pastNumber, .ref o_pastTakes, .ref o_playedMoves, .ref o_keptMen, .ref o_keptRest, .ref o_lists, .ref o_counts])), (o_text, .inl (cC, 100, .inl oS_text)), (o_out, .inl (cC, 100, .inl oS_out)), (o_men, .inl (cI, 64, .inl oS_men)), (o_pastMen, .inl (cI, 25664, .inl oS_pastMen)), (o_pastSide, .inl (cI, 401, .inl oS_pastSide)), (o_pastRights, .inl (cI, 401, .inl oS_pastRights)), (o_pastPassed, .inl (cI, 401, .inl oS_pastPassed)), (o_pastClock, .inl (cI, 401, .inl oS_pastClock)), (o_pastNumber, .inl (cI, 401, .inl oS_pastNumber)), (o_pastTakes, .inl (cJ, 401, .inr (.inl oS_pastTakes))), (o_playedMoves, .inl (cI, 400, .inl oS_playedMoves)), (o_keptMen, .inl (cI, 384, .inl oS_keptMen)), (o_keptRest, .inl (cI, 30, .inl oS_keptRest)), (o_lists, .inl (cI, 8192, .inl oS_lists)), (o_counts, .inl (cI, 4, .inl oS_counts))] sz)) (va_A [(o, .inr (6, [.int oS_thrown, .int oS_typed, .ref o_text, .int oS_told, .ref o_out, .ref o_men, .int oS_side, .int oS_rights, .int oS_passed, .int oS_clock, .int oS_number, .int oS_plies, .ref o_pastMen, .ref o_pastSide, .ref o_pastRights, .ref o_pastPassed, .ref o_pastClock, .ref o_pastNumber, .ref o_pastTakes, .ref o_playedMoves, .ref o_keptMen, .ref o_keptRest, .ref o_lists, .ref o_counts])), (o_text, .inl (cC, 100, .inl oS_text)), (o_out, .inl (cC, 100, .inl oS_out)), (o_men, .inl (cI, 64, .inl oS_men)), (o_pastMen, .inl (cI, 25664, .inl oS_pastMen)), (o_pastSide, .inl (cI, 401, .inl oS_pastSide)), (o_pastRights, .inl (cI, 401, .inl oS_pastRights)), (o_pastPassed, .inl (cI, 401, .inl oS_pastPassed)), (o_pastClock, .inl (cI, 401, .inl oS_pastClock)), (o_pastNumber, .inl (cI, 401, .inl oS_pastNumber)), (o_pastTakes, .inl (cJ, 401, .inr (.inl oS_pastTakes))), (o_playedMoves, .inl (cI, 400, .inl oS_playedMoves)), (o_keptMen, .inl (cI, 384, .inl oS_keptMen)), (o_keptRest, .inl (cI, 30, .inl oS_keptRest)), (o_lists, .inl (cI, 8192, .inl oS_lists)), (o_counts, .inl (cI, 4, .inl oS_counts))] sz)) 0 0 (va_A [(o, .inr (6, [.int oS_thrown, .int oS_typed, .ref o_text, .int oS_told, .ref o_out, .ref o_men, .int oS_side, .int oS_rights, .int oS_passed, .int oS_clock, .int oS_number, .int oS_plies, .ref o_pastMen, .ref o_pastSide, .ref o_pastRights, .ref o_pastPassed, .ref o_pastClock, .ref o_pastNumber, .ref o_pastTakes, .ref o_playedMoves, .ref o_keptMen, .ref o_keptRest, .ref o_lists, .ref o_counts])), (o_text, .inl (cC, 100, .inl oS_text)), (o_out, .inl (cC, 100, .inl oS_out)), (o_men, .inl (cI, 64, .inl oS_men)), (o_pastMen, .inl (cI, 25664, .inl oS_pastMen)), (o_pastSide, .inl (cI, 401, .inl oS_pastSide)), (o_pastRights, .inl (cI, 401, .inl oS_pastRights)), (o_pastPassed, .inl (cI, 401, .inl oS_pastPassed)), (o_pastClock, .inl (cI, 401, .inl oS_pastClock)), (o_pastNumber, .inl (cI, 401, .inl oS_pastNumber)), (o_pastTakes, .inl (cJ, 401, .inr (.inl oS_pastTakes))), (o_playedMoves, .inl (cI, 400, .inl oS_playedMoves)), (o_keptMen, .inl (cI, 384, .inl oS_keptMen)), (o_keptRest, .inl (cI, 30, .inl oS_keptRest)), (o_lists, .inl (cI, 8192, .inl oS_lists)), (o_counts, .inl (cI, 4, .inl oS_counts))] sz) := by
  refine Met.ofW (cc := cMo_type) (maxL := 7) (ret := (some .boolean)) (by decide) rfl ?_
  intro p e s m args below meth c s₁ B hml hv
  obtain ⟨rfl, hsz, hP, hK, hD0, hG⟩ := hv
  have hx := B.exec
  have hb := B.bytes
  have hr := B.returns
  have hB : ∀ w9 ∈ BIG, w9.before ([.ref o, .long w, .int n]).toArray s = true := fun w9 h => atoms_spec (ws := wsMo_type) B.pre w9 (List.mem_cons_of_mem _ h)
  have hown : s.vm.findClass "ChessRulesModel" = some m.cls := findClass_of_methodNamed B.named
  have hlocks := B.notSynchronized
  subst hsz
  have hD := hD0.self (sz := s.heap.size)
  generalize hAe : va_A [(o, .inr (6, [.int oS_thrown, .int oS_typed, .ref o_text, .int oS_told, .ref o_out, .ref o_men, .int oS_side, .int oS_rights, .int oS_passed, .int oS_clock, .int oS_number, .int oS_plies, .ref o_pastMen, .ref o_pastSide, .ref o_pastRights, .ref o_pastPassed, .ref o_pastClock, .ref o_pastNumber, .ref o_pastTakes, .ref o_playedMoves, .ref o_keptMen, .ref o_keptRest, .ref o_lists, .ref o_counts])), (o_text, .inl (cC, 100, .inl oS_text)), (o_out, .inl (cC, 100, .inl oS_out)), (o_men, .inl (cI, 64, .inl oS_men)), (o_pastMen, .inl (cI, 25664, .inl oS_pastMen)), (o_pastSide, .inl (cI, 401, .inl oS_pastSide)), (o_pastRights, .inl (cI, 401, .inl oS_pastRights)), (o_pastPassed, .inl (cI, 401, .inl oS_pastPassed)), (o_pastClock, .inl (cI, 401, .inl oS_pastClock)), (o_pastNumber, .inl (cI, 401, .inl oS_pastNumber)), (o_pastTakes, .inl (cJ, 401, .inr (.inl oS_pastTakes))), (o_playedMoves, .inl (cI, 400, .inl oS_playedMoves)), (o_keptMen, .inl (cI, 384, .inl oS_keptMen)), (o_keptRest, .inl (cI, 30, .inl oS_keptRest)), (o_lists, .inl (cI, 8192, .inl oS_lists)), (o_counts, .inl (cI, 4, .inl oS_counts))] s.heap.size = A at hD hG ⊢
  have hA : ∀ q : Nat, s.heap.size ≤ q → A q := fun q h => by rw [← hAe]; exact Or.inr h
  have hS : va_S A s.heap s.heap [] := va_S.rf
  have hP : va_P (dC, dI) vwCl [(o, .inr (6, [.int oS_thrown, .int oS_typed, .ref o_text, .int oS_told, .ref o_out, .ref o_men, .int oS_side, .int oS_rights, .int oS_passed, .int oS_clock, .int oS_number, .int oS_plies, .ref o_pastMen, .ref o_pastSide, .ref o_pastRights, .ref o_pastPassed, .ref o_pastClock, .ref o_pastNumber, .ref o_pastTakes, .ref o_playedMoves, .ref o_keptMen, .ref o_keptRest, .ref o_lists, .ref o_counts])), (o_text, .inl (cC, 100, .inl oS_text)), (o_out, .inl (cC, 100, .inl oS_out)), (o_men, .inl (cI, 64, .inl oS_men)), (o_pastMen, .inl (cI, 25664, .inl oS_pastMen)), (o_pastSide, .inl (cI, 401, .inl oS_pastSide)), (o_pastRights, .inl (cI, 401, .inl oS_pastRights)), (o_pastPassed, .inl (cI, 401, .inl oS_pastPassed)), (o_pastClock, .inl (cI, 401, .inl oS_pastClock)), (o_pastNumber, .inl (cI, 401, .inl oS_pastNumber)), (o_pastTakes, .inl (cJ, 401, .inr (.inl oS_pastTakes))), (o_playedMoves, .inl (cI, 400, .inl oS_playedMoves)), (o_keptMen, .inl (cI, 384, .inl oS_keptMen)), (o_keptRest, .inl (cI, 30, .inl oS_keptRest)), (o_lists, .inl (cI, 8192, .inl oS_lists)), (o_counts, .inl (cI, 4, .inl oS_counts))] s.heap := hP
  have hl := lv_entry ([.ref o, .long w, .int n]) (n := 7) (Nat.le_of_ble_eq_true rfl)
  rw [lg_entry_eq]
  generalize (lg_sl ([.ref o, .long w, .int n]) ++ List.replicate (7 - (lg_sl ([.ref o, .long w, .int n])).length) Slot.unset).toArray = ls at hl ⊢
  have hl : lv_has ls 7 [(0, .ref o), (1, .long w), (3, .int n)] := hl
  refine lv_aload_n hx hb dMo_type_0 rfl (lv_at hl 0 rfl) ?_
  refine lv_iconst (v := 0) hx hb dMo_type_1 (by decide) ?_
  refine va_put (D := (dC, dI)) (ci := 6) (v := .int 0) (ty := .int) (C := RMo) (T := TMo) (N := 24) hx hb hB inMo tyMo tyMo_ok nmMo hown hK hP hD hS 0 rfl rfl 0 (by decide) (hB _ q5_11) (fun _ h9 => h9) rfl (by decide +kernel) rfl rfl (Nat.le_of_ble_eq_true rfl) dMo_type_2 (fun H locs hP hD hS => ?_)
  have hP : va_P (dC, dI) vwCl [(o, .inr (6, [.int 0, .int oS_typed, .ref o_text, .int oS_told, .ref o_out, .ref o_men, .int oS_side, .int oS_rights, .int oS_passed, .int oS_clock, .int oS_number, .int oS_plies, .ref o_pastMen, .ref o_pastSide, .ref o_pastRights, .ref o_pastPassed, .ref o_pastClock, .ref o_pastNumber, .ref o_pastTakes, .ref o_playedMoves, .ref o_keptMen, .ref o_keptRest, .ref o_lists, .ref o_counts])), (o_text, .inl (cC, 100, .inl oS_text)), (o_out, .inl (cC, 100, .inl oS_out)), (o_men, .inl (cI, 64, .inl oS_men)), (o_pastMen, .inl (cI, 25664, .inl oS_pastMen)), (o_pastSide, .inl (cI, 401, .inl oS_pastSide)), (o_pastRights, .inl (cI, 401, .inl oS_pastRights)), (o_pastPassed, .inl (cI, 401, .inl oS_pastPassed)), (o_pastClock, .inl (cI, 401, .inl oS_pastClock)), (o_pastNumber, .inl (cI, 401, .inl oS_pastNumber)), (o_pastTakes, .inl (cJ, 401, .inr (.inl oS_pastTakes))), (o_playedMoves, .inl (cI, 400, .inl oS_playedMoves)), (o_keptMen, .inl (cI, 384, .inl oS_keptMen)), (o_keptRest, .inl (cI, 30, .inl oS_keptRest)), (o_lists, .inl (cI, 8192, .inl oS_lists)), (o_counts, .inl (cI, 4, .inl oS_counts))] H := hP
  have hD : va_D A [(o, .inr (6, [.int 0, .int oS_typed, .ref o_text, .int oS_told, .ref o_out, .ref o_men, .int oS_side, .int oS_rights, .int oS_passed, .int oS_clock, .int oS_number, .int oS_plies, .ref o_pastMen, .ref o_pastSide, .ref o_pastRights, .ref o_pastPassed, .ref o_pastClock, .ref o_pastNumber, .ref o_pastTakes, .ref o_playedMoves, .ref o_keptMen, .ref o_keptRest, .ref o_lists, .ref o_counts])), (o_text, .inl (cC, 100, .inl oS_text)), (o_out, .inl (cC, 100, .inl oS_out)), (o_men, .inl (cI, 64, .inl oS_men)), (o_pastMen, .inl (cI, 25664, .inl oS_pastMen)), (o_pastSide, .inl (cI, 401, .inl oS_pastSide)), (o_pastRights, .inl (cI, 401, .inl oS_pastRights)), (o_pastPassed, .inl (cI, 401, .inl oS_pastPassed)), (o_pastClock, .inl (cI, 401, .inl oS_pastClock)), (o_pastNumber, .inl (cI, 401, .inl oS_pastNumber)), (o_pastTakes, .inl (cJ, 401, .inr (.inl oS_pastTakes))), (o_playedMoves, .inl (cI, 400, .inl oS_playedMoves)), (o_keptMen, .inl (cI, 384, .inl oS_keptMen)), (o_keptRest, .inl (cI, 30, .inl oS_keptRest)), (o_lists, .inl (cI, 8192, .inl oS_lists)), (o_counts, .inl (cI, 4, .inl oS_counts))] := hD
  refine lv_iload_n hx hb dMo_type_5 rfl (lv_at hl 2 rfl) ?_
  refine lv_iconst (v := 1) hx hb dMo_type_6 (by decide) ?_
  refine lv_icmp_lt (tgt := 27) hx hb dMo_type_7 (by decide) (fun c_1 => ?_) (fun c_1 => ?_)
  · refine lv_iconst (v := 0) hx hb dMo_type_27 (by decide) ?_
    have hv : f_Mo_type oS_thrown oS_typed oS_text w n = (0, 0, oS_typed, oS_text) := (by rw [f_Mo_type_eq, if_pos c_1] <;> rfl)
    have hP9 : va_P (dC, dI) vwCl [(o, .inr (6, [.int ((f_Mo_type oS_thrown oS_typed oS_text w n).2.1), .int ((f_Mo_type oS_thrown oS_typed oS_text w n).2.2.1), .ref o_text, .int oS_told, .ref o_out, .ref o_men, .int oS_side, .int oS_rights, .int oS_passed, .int oS_clock, .int oS_number, .int oS_plies, .ref o_pastMen, .ref o_pastSide, .ref o_pastRights, .ref o_pastPassed, .ref o_pastClock, .ref o_pastNumber, .ref o_pastTakes, .ref o_playedMoves, .ref o_keptMen, .ref o_keptRest, .ref o_lists, .ref o_counts])), (o_text, .inl (cC, 100, .inl ((f_Mo_type oS_thrown oS_typed oS_text w n).2.2.2))), (o_out, .inl (cC, 100, .inl oS_out)), (o_men, .inl (cI, 64, .inl oS_men)), (o_pastMen, .inl (cI, 25664, .inl oS_pastMen)), (o_pastSide, .inl (cI, 401, .inl oS_pastSide)), (o_pastRights, .inl (cI, 401, .inl oS_pastRights)), (o_pastPassed, .inl (cI, 401, .inl oS_pastPassed)), (o_pastClock, .inl (cI, 401, .inl oS_pastClock)), (o_pastNumber, .inl (cI, 401, .inl oS_pastNumber)), (o_pastTakes, .inl (cJ, 401, .inr (.inl oS_pastTakes))), (o_playedMoves, .inl (cI, 400, .inl oS_playedMoves)), (o_keptMen, .inl (cI, 384, .inl oS_keptMen)), (o_keptRest, .inl (cI, 30, .inl oS_keptRest)), (o_lists, .inl (cI, 8192, .inl oS_lists)), (o_counts, .inl (cI, 4, .inl oS_counts))] H := by first | (rw [hv]; exact hP.sub [0, 1, 2, 3, 4, 5, 6, 7, 8, 9, 10, 11, 12, 13, 14, 15] rfl) | exact hP.sub [0, 1, 2, 3, 4, 5, 6, 7, 8, 9, 10, 11, 12, 13, 14, 15] rfl
    have hD9 : va_D A [(o, .inr (6, [.int ((f_Mo_type oS_thrown oS_typed oS_text w n).2.1), .int ((f_Mo_type oS_thrown oS_typed oS_text w n).2.2.1), .ref o_text, .int oS_told, .ref o_out, .ref o_men, .int oS_side, .int oS_rights, .int oS_passed, .int oS_clock, .int oS_number, .int oS_plies, .ref o_pastMen, .ref o_pastSide, .ref o_pastRights, .ref o_pastPassed, .ref o_pastClock, .ref o_pastNumber, .ref o_pastTakes, .ref o_playedMoves, .ref o_keptMen, .ref o_keptRest, .ref o_lists, .ref o_counts])), (o_text, .inl (cC, 100, .inl ((f_Mo_type oS_thrown oS_typed oS_text w n).2.2.2))), (o_out, .inl (cC, 100, .inl oS_out)), (o_men, .inl (cI, 64, .inl oS_men)), (o_pastMen, .inl (cI, 25664, .inl oS_pastMen)), (o_pastSide, .inl (cI, 401, .inl oS_pastSide)), (o_pastRights, .inl (cI, 401, .inl oS_pastRights)), (o_pastPassed, .inl (cI, 401, .inl oS_pastPassed)), (o_pastClock, .inl (cI, 401, .inl oS_pastClock)), (o_pastNumber, .inl (cI, 401, .inl oS_pastNumber)), (o_pastTakes, .inl (cJ, 401, .inr (.inl oS_pastTakes))), (o_playedMoves, .inl (cI, 400, .inl oS_playedMoves)), (o_keptMen, .inl (cI, 384, .inl oS_keptMen)), (o_keptRest, .inl (cI, 30, .inl oS_keptRest)), (o_lists, .inl (cI, 8192, .inl oS_lists)), (o_counts, .inl (cI, 4, .inl oS_counts))] := by first | (rw [hv]; exact hD.sub [0, 1, 2, 3, 4, 5, 6, 7, 8, 9, 10, 11, 12, 13, 14, 15] (by decide) rfl) | exact hD.sub [0, 1, 2, 3, 4, 5, 6, 7, 8, 9, 10, 11, 12, 13, 14, 15] (by decide) rfl
    exact rw_retz hx hb hr rfl hlocks hK hP9 hD9 hS dMo_type_28 (by rw [hv])
  · refine lv_iload_n hx hb dMo_type_10 rfl (lv_at hl 2 rfl) ?_
    refine lv_bipush (v := 8) hx hb dMo_type_11 (by decide) ?_
    refine lv_icmp_gt (tgt := 27) hx hb dMo_type_13 (by decide) (fun c_2 => ?_) (fun c_2 => ?_)
    · refine lv_iconst (v := 0) hx hb dMo_type_27 (by decide) ?_
      have hv : f_Mo_type oS_thrown oS_typed oS_text w n = (0, 0, oS_typed, oS_text) := (by rw [f_Mo_type_eq, if_neg c_1, if_pos c_2] <;> rfl)
      have hP9 : va_P (dC, dI) vwCl [(o, .inr (6, [.int ((f_Mo_type oS_thrown oS_typed oS_text w n).2.1), .int ((f_Mo_type oS_thrown oS_typed oS_text w n).2.2.1), .ref o_text, .int oS_told, .ref o_out, .ref o_men, .int oS_side, .int oS_rights, .int oS_passed, .int oS_clock, .int oS_number, .int oS_plies, .ref o_pastMen, .ref o_pastSide, .ref o_pastRights, .ref o_pastPassed, .ref o_pastClock, .ref o_pastNumber, .ref o_pastTakes, .ref o_playedMoves, .ref o_keptMen, .ref o_keptRest, .ref o_lists, .ref o_counts])), (o_text, .inl (cC, 100, .inl ((f_Mo_type oS_thrown oS_typed oS_text w n).2.2.2))), (o_out, .inl (cC, 100, .inl oS_out)), (o_men, .inl (cI, 64, .inl oS_men)), (o_pastMen, .inl (cI, 25664, .inl oS_pastMen)), (o_pastSide, .inl (cI, 401, .inl oS_pastSide)), (o_pastRights, .inl (cI, 401, .inl oS_pastRights)), (o_pastPassed, .inl (cI, 401, .inl oS_pastPassed)), (o_pastClock, .inl (cI, 401, .inl oS_pastClock)), (o_pastNumber, .inl (cI, 401, .inl oS_pastNumber)), (o_pastTakes, .inl (cJ, 401, .inr (.inl oS_pastTakes))), (o_playedMoves, .inl (cI, 400, .inl oS_playedMoves)), (o_keptMen, .inl (cI, 384, .inl oS_keptMen)), (o_keptRest, .inl (cI, 30, .inl oS_keptRest)), (o_lists, .inl (cI, 8192, .inl oS_lists)), (o_counts, .inl (cI, 4, .inl oS_counts))] H := by first | (rw [hv]; exact hP.sub [0, 1, 2, 3, 4, 5, 6, 7, 8, 9, 10, 11, 12, 13, 14, 15] rfl) | exact hP.sub [0, 1, 2, 3, 4, 5, 6, 7, 8, 9, 10, 11, 12, 13, 14, 15] rfl
      have hD9 : va_D A [(o, .inr (6, [.int ((f_Mo_type oS_thrown oS_typed oS_text w n).2.1), .int ((f_Mo_type oS_thrown oS_typed oS_text w n).2.2.1), .ref o_text, .int oS_told, .ref o_out, .ref o_men, .int oS_side, .int oS_rights, .int oS_passed, .int oS_clock, .int oS_number, .int oS_plies, .ref o_pastMen, .ref o_pastSide, .ref o_pastRights, .ref o_pastPassed, .ref o_pastClock, .ref o_pastNumber, .ref o_pastTakes, .ref o_playedMoves, .ref o_keptMen, .ref o_keptRest, .ref o_lists, .ref o_counts])), (o_text, .inl (cC, 100, .inl ((f_Mo_type oS_thrown oS_typed oS_text w n).2.2.2))), (o_out, .inl (cC, 100, .inl oS_out)), (o_men, .inl (cI, 64, .inl oS_men)), (o_pastMen, .inl (cI, 25664, .inl oS_pastMen)), (o_pastSide, .inl (cI, 401, .inl oS_pastSide)), (o_pastRights, .inl (cI, 401, .inl oS_pastRights)), (o_pastPassed, .inl (cI, 401, .inl oS_pastPassed)), (o_pastClock, .inl (cI, 401, .inl oS_pastClock)), (o_pastNumber, .inl (cI, 401, .inl oS_pastNumber)), (o_pastTakes, .inl (cJ, 401, .inr (.inl oS_pastTakes))), (o_playedMoves, .inl (cI, 400, .inl oS_playedMoves)), (o_keptMen, .inl (cI, 384, .inl oS_keptMen)), (o_keptRest, .inl (cI, 30, .inl oS_keptRest)), (o_lists, .inl (cI, 8192, .inl oS_lists)), (o_counts, .inl (cI, 4, .inl oS_counts))] := by first | (rw [hv]; exact hD.sub [0, 1, 2, 3, 4, 5, 6, 7, 8, 9, 10, 11, 12, 13, 14, 15] (by decide) rfl) | exact hD.sub [0, 1, 2, 3, 4, 5, 6, 7, 8, 9, 10, 11, 12, 13, 14, 15] (by decide) rfl
      exact rw_retz hx hb hr rfl hlocks hK hP9 hD9 hS dMo_type_28 (by rw [hv])
    · refine lv_aload_n hx hb dMo_type_16 rfl (lv_at hl 0 rfl) ?_
      refine va_get (D := (dC, dI)) (ci := 6) (v := .int oS_typed) (C := RMo) (T := TMo) (N := 24) hx hb hB inMo hown hK hP 0 rfl rfl 1 (by decide) (hB _ q5_12) (fun _ h9 => h9) rfl dMo_type_17 ?_
      refine lv_iload_n hx hb dMo_type_20 rfl (lv_at hl 2 rfl) ?_
      refine lv_iadd hx hb dMo_type_21 ?_
      refine lv_bipush (v := 100) hx hb dMo_type_22 (by decide) ?_
      refine lv_icmp_le (tgt := 29) hx hb dMo_type_24 (by decide) (fun c_3 => ?_) (fun c_3 => ?_)
      · refine lv_iconst (v := 0) hx hb dMo_type_29 (by decide) ?_
        refine lv_istore (lv' := [(4, .int 0), (0, .ref o), (1, .long w), (3, .int n)]) hx hb dMo_type_30 hl (by decide) rfl (fun ls hl => ?_)
        have J_32 : ∀ (n_32 : Nat) (v4_32 : Int32), f_Mo_type oS_thrown oS_typed oS_text w n = f_Mo_type_32 oS_thrown oS_typed oS_text w n n_32 v4_32 → ((0 : Int) ≤ v4_32.toInt ∧ (n : Int32).toInt - v4_32.toInt + 1 ≤ (n_32 : Int) ∧ (1 : Int) ≤ (n_32 : Int)) → ∀ (H : Heap) (locs : List Loc), va_P (dC, dI) vwCl [(o, .inr (6, [.int 0, .int oS_typed, .ref o_text, .int oS_told, .ref o_out, .ref o_men, .int oS_side, .int oS_rights, .int oS_passed, .int oS_clock, .int oS_number, .int oS_plies, .ref o_pastMen, .ref o_pastSide, .ref o_pastRights, .ref o_pastPassed, .ref o_pastClock, .ref o_pastNumber, .ref o_pastTakes, .ref o_playedMoves, .ref o_keptMen, .ref o_keptRest, .ref o_lists, .ref o_counts])), (o_text, .inl (cC, 100, .inl oS_text)), (o_out, .inl (cC, 100, .inl oS_out)), (o_men, .inl (cI, 64, .inl oS_men)), (o_pastMen, .inl (cI, 25664, .inl oS_pastMen)), (o_pastSide, .inl (cI, 401, .inl oS_pastSide)), (o_pastRights, .inl (cI, 401, .inl oS_pastRights)), (o_pastPassed, .inl (cI, 401, .inl oS_pastPassed)), (o_pastClock, .inl (cI, 401, .inl oS_pastClock)), (o_pastNumber, .inl (cI, 401, .inl oS_pastNumber)), (o_pastTakes, .inl (cJ, 401, .inr (.inl oS_pastTakes))), (o_playedMoves, .inl (cI, 400, .inl oS_playedMoves)), (o_keptMen, .inl (cI, 384, .inl oS_keptMen)), (o_keptRest, .inl (cI, 30, .inl oS_keptRest)), (o_lists, .inl (cI, 8192, .inl oS_lists)), (o_counts, .inl (cI, 4, .inl oS_counts))] H → va_D A [(o, .inr (6, [.int 0, .int oS_typed, .ref o_text, .int oS_told, .ref o_out, .ref o_men, .int oS_side, .int oS_rights, .int oS_passed, .int oS_clock, .int oS_number, .int oS_plies, .ref o_pastMen, .ref o_pastSide, .ref o_pastRights, .ref o_pastPassed, .ref o_pastClock, .ref o_pastNumber, .ref o_pastTakes, .ref o_playedMoves, .ref o_keptMen, .ref o_keptRest, .ref o_lists, .ref o_counts])), (o_text, .inl (cC, 100, .inl oS_text)), (o_out, .inl (cC, 100, .inl oS_out)), (o_men, .inl (cI, 64, .inl oS_men)), (o_pastMen, .inl (cI, 25664, .inl oS_pastMen)), (o_pastSide, .inl (cI, 401, .inl oS_pastSide)), (o_pastRights, .inl (cI, 401, .inl oS_pastRights)), (o_pastPassed, .inl (cI, 401, .inl oS_pastPassed)), (o_pastClock, .inl (cI, 401, .inl oS_pastClock)), (o_pastNumber, .inl (cI, 401, .inl oS_pastNumber)), (o_pastTakes, .inl (cJ, 401, .inr (.inl oS_pastTakes))), (o_playedMoves, .inl (cI, 400, .inl oS_playedMoves)), (o_keptMen, .inl (cI, 384, .inl oS_keptMen)), (o_keptRest, .inl (cI, 30, .inl oS_keptRest)), (o_lists, .inl (cI, 8192, .inl oS_lists)), (o_counts, .inl (cI, 4, .inl oS_counts))] → va_S A s.heap H locs → ∀ ls : Array Slot, lv_has ls 7 [(0, .ref o), (1, .long w), (3, .int n), (4, .int v4_32)] → W p l e (headSpec wsMo_type { frames := 0, cells := 0, slots := 0, locals := 0 }).room s m ([.ref o, .long w, .int n]).toArray below meth c H locs 0 0 (MQ below (va_Qi (fun r (_ : Unit) => r = (f_Mo_type oS_thrown oS_typed oS_text w n).1) (rwB dC dI (TYS cI cJ cC) [(o, .inr (6, [.int ((f_Mo_type oS_thrown oS_typed oS_text w n).2.1), .int ((f_Mo_type oS_thrown oS_typed oS_text w n).2.2.1), .ref o_text, .int oS_told, .ref o_out, .ref o_men, .int oS_side, .int oS_rights, .int oS_passed, .int oS_clock, .int oS_number, .int oS_plies, .ref o_pastMen, .ref o_pastSide, .ref o_pastRights, .ref o_pastPassed, .ref o_pastClock, .ref o_pastNumber, .ref o_pastTakes, .ref o_playedMoves, .ref o_keptMen, .ref o_keptRest, .ref o_lists, .ref o_counts])), (o_text, .inl (cC, 100, .inl ((f_Mo_type oS_thrown oS_typed oS_text w n).2.2.2))), (o_out, .inl (cC, 100, .inl oS_out)), (o_men, .inl (cI, 64, .inl oS_men)), (o_pastMen, .inl (cI, 25664, .inl oS_pastMen)), (o_pastSide, .inl (cI, 401, .inl oS_pastSide)), (o_pastRights, .inl (cI, 401, .inl oS_pastRights)), (o_pastPassed, .inl (cI, 401, .inl oS_pastPassed)), (o_pastClock, .inl (cI, 401, .inl oS_pastClock)), (o_pastNumber, .inl (cI, 401, .inl oS_pastNumber)), (o_pastTakes, .inl (cJ, 401, .inr (.inl oS_pastTakes))), (o_playedMoves, .inl (cI, 400, .inl oS_playedMoves)), (o_keptMen, .inl (cI, 384, .inl oS_keptMen)), (o_keptRest, .inl (cI, 30, .inl oS_keptRest)), (o_lists, .inl (cI, 8192, .inl oS_lists)), (o_counts, .inl (cI, 4, .inl oS_counts))] A) A) ([.ref o, .long w, .int n]).toArray s 0 0 A) (F0 m 32 ls []) := by
          intro n_32
          induction n_32 with
          | zero => intro v4_32 _ hm_32; exact absurd hm_32 (by omega)
          | succ n_32 ih_32 =>
            intro v4_32 he_32 hm_32 H locs hP hD hS ls hl
            refine lv_iload hx hb dMo_type_32 (lv_at hl 3 rfl) ?_
            refine lv_iload_n hx hb dMo_type_34 rfl (lv_at hl 2 rfl) ?_
            refine lv_icmp_ge (tgt := 77) hx hb dMo_type_35 (by decide) (fun c_4 => ?_) (fun c_4 => ?_)
            · refine lv_iconst (v := 0) hx hb dMo_type_77 (by decide) ?_
              refine lv_istore (lv' := [(4, .int 0), (0, .ref o), (1, .long w), (3, .int n)]) hx hb dMo_type_78 hl (by decide) rfl (fun ls hl => ?_)
              have J_80 : ∀ (n_80 : Nat) (v4_80 : Int32) (W_o_typed_80 : Int32) (W_o_text_80 : (Nat → Int32)), f_Mo_type oS_thrown oS_typed oS_text w n = f_Mo_type_80 oS_thrown oS_typed oS_text w n v4_32 n_80 v4_80 W_o_typed_80 W_o_text_80 → ((0 : Int) ≤ v4_80.toInt ∧ (n : Int32).toInt - v4_80.toInt + 1 ≤ (n_80 : Int) ∧ (1 : Int) ≤ (n_80 : Int)) → (W_o_typed_80.toInt = oS_typed.toInt + v4_80.toInt) → ∀ (H : Heap) (locs : List Loc), va_P (dC, dI) vwCl [(o, .inr (6, [.int 0, .int W_o_typed_80, .ref o_text, .int oS_told, .ref o_out, .ref o_men, .int oS_side, .int oS_rights, .int oS_passed, .int oS_clock, .int oS_number, .int oS_plies, .ref o_pastMen, .ref o_pastSide, .ref o_pastRights, .ref o_pastPassed, .ref o_pastClock, .ref o_pastNumber, .ref o_pastTakes, .ref o_playedMoves, .ref o_keptMen, .ref o_keptRest, .ref o_lists, .ref o_counts])), (o_text, .inl (cC, 100, .inl W_o_text_80)), (o_out, .inl (cC, 100, .inl oS_out)), (o_men, .inl (cI, 64, .inl oS_men)), (o_pastMen, .inl (cI, 25664, .inl oS_pastMen)), (o_pastSide, .inl (cI, 401, .inl oS_pastSide)), (o_pastRights, .inl (cI, 401, .inl oS_pastRights)), (o_pastPassed, .inl (cI, 401, .inl oS_pastPassed)), (o_pastClock, .inl (cI, 401, .inl oS_pastClock)), (o_pastNumber, .inl (cI, 401, .inl oS_pastNumber)), (o_pastTakes, .inl (cJ, 401, .inr (.inl oS_pastTakes))), (o_playedMoves, .inl (cI, 400, .inl oS_playedMoves)), (o_keptMen, .inl (cI, 384, .inl oS_keptMen)), (o_keptRest, .inl (cI, 30, .inl oS_keptRest)), (o_lists, .inl (cI, 8192, .inl oS_lists)), (o_counts, .inl (cI, 4, .inl oS_counts))] H → va_D A [(o, .inr (6, [.int 0, .int W_o_typed_80, .ref o_text, .int oS_told, .ref o_out, .ref o_men, .int oS_side, .int oS_rights, .int oS_passed, .int oS_clock, .int oS_number, .int oS_plies, .ref o_pastMen, .ref o_pastSide, .ref o_pastRights, .ref o_pastPassed, .ref o_pastClock, .ref o_pastNumber, .ref o_pastTakes, .ref o_playedMoves, .ref o_keptMen, .ref o_keptRest, .ref o_lists, .ref o_counts])), (o_text, .inl (cC, 100, .inl W_o_text_80)), (o_out, .inl (cC, 100, .inl oS_out)), (o_men, .inl (cI, 64, .inl oS_men)), (o_pastMen, .inl (cI, 25664, .inl oS_pastMen)), (o_pastSide, .inl (cI, 401, .inl oS_pastSide)), (o_pastRights, .inl (cI, 401, .inl oS_pastRights)), (o_pastPassed, .inl (cI, 401, .inl oS_pastPassed)), (o_pastClock, .inl (cI, 401, .inl oS_pastClock)), (o_pastNumber, .inl (cI, 401, .inl oS_pastNumber)), (o_pastTakes, .inl (cJ, 401, .inr (.inl oS_pastTakes))), (o_playedMoves, .inl (cI, 400, .inl oS_playedMoves)), (o_keptMen, .inl (cI, 384, .inl oS_keptMen)), (o_keptRest, .inl (cI, 30, .inl oS_keptRest)), (o_lists, .inl (cI, 8192, .inl oS_lists)), (o_counts, .inl (cI, 4, .inl oS_counts))] → va_S A s.heap H locs → ∀ ls : Array Slot, lv_has ls 7 [(0, .ref o), (1, .long w), (3, .int n), (4, .int v4_80)] → W p l e (headSpec wsMo_type { frames := 0, cells := 0, slots := 0, locals := 0 }).room s m ([.ref o, .long w, .int n]).toArray below meth c H locs 0 0 (MQ below (va_Qi (fun r (_ : Unit) => r = (f_Mo_type oS_thrown oS_typed oS_text w n).1) (rwB dC dI (TYS cI cJ cC) [(o, .inr (6, [.int ((f_Mo_type oS_thrown oS_typed oS_text w n).2.1), .int ((f_Mo_type oS_thrown oS_typed oS_text w n).2.2.1), .ref o_text, .int oS_told, .ref o_out, .ref o_men, .int oS_side, .int oS_rights, .int oS_passed, .int oS_clock, .int oS_number, .int oS_plies, .ref o_pastMen, .ref o_pastSide, .ref o_pastRights, .ref o_pastPassed, .ref o_pastClock, .ref o_pastNumber, .ref o_pastTakes, .ref o_playedMoves, .ref o_keptMen, .ref o_keptRest, .ref o_lists, .ref o_counts])), (o_text, .inl (cC, 100, .inl ((f_Mo_type oS_thrown oS_typed oS_text w n).2.2.2))), (o_out, .inl (cC, 100, .inl oS_out)), (o_men, .inl (cI, 64, .inl oS_men)), (o_pastMen, .inl (cI, 25664, .inl oS_pastMen)), (o_pastSide, .inl (cI, 401, .inl oS_pastSide)), (o_pastRights, .inl (cI, 401, .inl oS_pastRights)), (o_pastPassed, .inl (cI, 401, .inl oS_pastPassed)), (o_pastClock, .inl (cI, 401, .inl oS_pastClock)), (o_pastNumber, .inl (cI, 401, .inl oS_pastNumber)), (o_pastTakes, .inl (cJ, 401, .inr (.inl oS_pastTakes))), (o_playedMoves, .inl (cI, 400, .inl oS_playedMoves)), (o_keptMen, .inl (cI, 384, .inl oS_keptMen)), (o_keptRest, .inl (cI, 30, .inl oS_keptRest)), (o_lists, .inl (cI, 8192, .inl oS_lists)), (o_counts, .inl (cI, 4, .inl oS_counts))] A) A) ([.ref o, .long w, .int n]).toArray s 0 0 A) (F0 m 80 ls []) := by
                intro n_80
                induction n_80 with
                | zero => intro v4_80 W_o_typed_80 W_o_text_80 _ hm_80; exact absurd hm_80 (by omega)
                | succ n_80 ih_80 =>
                  intro v4_80 W_o_typed_80 W_o_text_80 he_80 hm_80 hi_80 H locs hP hD hS ls hl
                  refine lv_iload hx hb dMo_type_80 (lv_at hl 3 rfl) ?_
                  refine lv_iload_n hx hb dMo_type_82 rfl (lv_at hl 2 rfl) ?_
                  refine lv_icmp_ge (tgt := 124) hx hb dMo_type_83 (by decide) (fun c_5 => ?_) (fun c_5 => ?_)
                  · refine lv_iconst (v := 1) hx hb dMo_type_124 (by decide) ?_
                    have hv : f_Mo_type oS_thrown oS_typed oS_text w n = (1, 0, W_o_typed_80, W_o_text_80) := (he_80.trans (by rw [f_Mo_type_80_eq, if_pos c_5] <;> rfl))
                    have hP9 : va_P (dC, dI) vwCl [(o, .inr (6, [.int ((f_Mo_type oS_thrown oS_typed oS_text w n).2.1), .int ((f_Mo_type oS_thrown oS_typed oS_text w n).2.2.1), .ref o_text, .int oS_told, .ref o_out, .ref o_men, .int oS_side, .int oS_rights, .int oS_passed, .int oS_clock, .int oS_number, .int oS_plies, .ref o_pastMen, .ref o_pastSide, .ref o_pastRights, .ref o_pastPassed, .ref o_pastClock, .ref o_pastNumber, .ref o_pastTakes, .ref o_playedMoves, .ref o_keptMen, .ref o_keptRest, .ref o_lists, .ref o_counts])), (o_text, .inl (cC, 100, .inl ((f_Mo_type oS_thrown oS_typed oS_text w n).2.2.2))), (o_out, .inl (cC, 100, .inl oS_out)), (o_men, .inl (cI, 64, .inl oS_men)), (o_pastMen, .inl (cI, 25664, .inl oS_pastMen)), (o_pastSide, .inl (cI, 401, .inl oS_pastSide)), (o_pastRights, .inl (cI, 401, .inl oS_pastRights)), (o_pastPassed, .inl (cI, 401, .inl oS_pastPassed)), (o_pastClock, .inl (cI, 401, .inl oS_pastClock)), (o_pastNumber, .inl (cI, 401, .inl oS_pastNumber)), (o_pastTakes, .inl (cJ, 401, .inr (.inl oS_pastTakes))), (o_playedMoves, .inl (cI, 400, .inl oS_playedMoves)), (o_keptMen, .inl (cI, 384, .inl oS_keptMen)), (o_keptRest, .inl (cI, 30, .inl oS_keptRest)), (o_lists, .inl (cI, 8192, .inl oS_lists)), (o_counts, .inl (cI, 4, .inl oS_counts))] H := by first | (rw [hv]; exact hP.sub [0, 1, 2, 3, 4, 5, 6, 7, 8, 9, 10, 11, 12, 13, 14, 15] rfl) | exact hP.sub [0, 1, 2, 3, 4, 5, 6, 7, 8, 9, 10, 11, 12, 13, 14, 15] rfl
                    have hD9 : va_D A [(o, .inr (6, [.int ((f_Mo_type oS_thrown oS_typed oS_text w n).2.1), .int ((f_Mo_type oS_thrown oS_typed oS_text w n).2.2.1), .ref o_text, .int oS_told, .ref o_out, .ref o_men, .int oS_side, .int oS_rights, .int oS_passed, .int oS_clock, .int oS_number, .int oS_plies, .ref o_pastMen, .ref o_pastSide, .ref o_pastRights, .ref o_pastPassed, .ref o_pastClock, .ref o_pastNumber, .ref o_pastTakes, .ref o_playedMoves, .ref o_keptMen, .ref o_keptRest, .ref o_lists, .ref o_counts])), (o_text, .inl (cC, 100, .inl ((f_Mo_type oS_thrown oS_typed oS_text w n).2.2.2))), (o_out, .inl (cC, 100, .inl oS_out)), (o_men, .inl (cI, 64, .inl oS_men)), (o_pastMen, .inl (cI, 25664, .inl oS_pastMen)), (o_pastSide, .inl (cI, 401, .inl oS_pastSide)), (o_pastRights, .inl (cI, 401, .inl oS_pastRights)), (o_pastPassed, .inl (cI, 401, .inl oS_pastPassed)), (o_pastClock, .inl (cI, 401, .inl oS_pastClock)), (o_pastNumber, .inl (cI, 401, .inl oS_pastNumber)), (o_pastTakes, .inl (cJ, 401, .inr (.inl oS_pastTakes))), (o_playedMoves, .inl (cI, 400, .inl oS_playedMoves)), (o_keptMen, .inl (cI, 384, .inl oS_keptMen)), (o_keptRest, .inl (cI, 30, .inl oS_keptRest)), (o_lists, .inl (cI, 8192, .inl oS_lists)), (o_counts, .inl (cI, 4, .inl oS_counts))] := by first | (rw [hv]; exact hD.sub [0, 1, 2, 3, 4, 5, 6, 7, 8, 9, 10, 11, 12, 13, 14, 15] (by decide) rfl) | exact hD.sub [0, 1, 2, 3, 4, 5, 6, 7, 8, 9, 10, 11, 12, 13, 14, 15] (by decide) rfl
                    exact rw_retz hx hb hr rfl hlocks hK hP9 hD9 hS dMo_type_125 (by rw [hv])
                  · refine lv_aload_n hx hb dMo_type_86 rfl (lv_at hl 0 rfl) ?_
                    refine va_get (D := (dC, dI)) (ci := 6) (v := .ref o_text) (C := RMo) (T := TMo) (N := 24) hx hb hB inMo hown hK hP 0 rfl rfl 2 (by decide) (hB _ q5_13) (fun _ h9 => h9) rfl dMo_type_87 ?_
                    refine lv_aload_n hx hb dMo_type_90 rfl (lv_at hl 0 rfl) ?_
                    refine va_get (D := (dC, dI)) (ci := 6) (v := .int W_o_typed_80) (C := RMo) (T := TMo) (N := 24) hx hb hB inMo hown hK hP 0 rfl rfl 1 (by decide) (hB _ q5_12) (fun _ h9 => h9) rfl dMo_type_91 ?_
                    refine lv_lload_n hx hb dMo_type_94 rfl (lv_at hl 1 rfl) ?_
                    refine lv_bipush (v := 8) hx hb dMo_type_95 (by decide) ?_
                    refine lv_iload hx hb dMo_type_97 (lv_at hl 3 rfl) ?_
                    refine lv_imul hx hb dMo_type_99 ?_
                    refine lv_lshr (v := shr64 w (8 * v4_80)) hx hb dMo_type_100 rfl ?_
                    refine lv_ldc2 (v := 255) hx hb hown (hB _ q5_185) dMo_type_101 ?_
                    refine lv_land hx hb dMo_type_104 ?_
                    refine lv_l2i (v := ((shr64 w (8 * v4_80)) &&& 255).toInt32) hx hb dMo_type_105 rfl ?_
                    refine lv_i2c (v := toChar (((shr64 w (8 * v4_80)) &&& 255).toInt32)) hx hb dMo_type_106 rfl ?_
                    refine va_cast hx hb hK hP hD hS 1 2 rfl rfl (vp_in_iff.mpr (by have z0 := tnl c_1; have z1 := tnl c_2; have z2 := tle c_3; have z4 := tle c_4; have z6 := tnle c_5; have y1 : (1 : Int32).toInt = 1 := rfl; have y8 : (8 : Int32).toInt = 8 := rfl; have y100 : (100 : Int32).toInt = 100 := rfl; have qa := i_add (x := oS_typed) (y := n) (by omega) (by omega); omega)) dMo_type_107 (fun H locs hP hD hS => ?_)
                    have hP : va_P (dC, dI) vwCl [(o, .inr (6, [.int 0, .int W_o_typed_80, .ref o_text, .int oS_told, .ref o_out, .ref o_men, .int oS_side, .int oS_rights, .int oS_passed, .int oS_clock, .int oS_number, .int oS_plies, .ref o_pastMen, .ref o_pastSide, .ref o_pastRights, .ref o_pastPassed, .ref o_pastClock, .ref o_pastNumber, .ref o_pastTakes, .ref o_playedMoves, .ref o_keptMen, .ref o_keptRest, .ref o_lists, .ref o_counts])), (o_text, .inl (cC, 100, .inl (upd W_o_text_80 W_o_typed_80.toNatClampNeg (vp_nar .char (toChar (((shr64 w (8 * v4_80)) &&& 255).toInt32)))))), (o_out, .inl (cC, 100, .inl oS_out)), (o_men, .inl (cI, 64, .inl oS_men)), (o_pastMen, .inl (cI, 25664, .inl oS_pastMen)), (o_pastSide, .inl (cI, 401, .inl oS_pastSide)), (o_pastRights, .inl (cI, 401, .inl oS_pastRights)), (o_pastPassed, .inl (cI, 401, .inl oS_pastPassed)), (o_pastClock, .inl (cI, 401, .inl oS_pastClock)), (o_pastNumber, .inl (cI, 401, .inl oS_pastNumber)), (o_pastTakes, .inl (cJ, 401, .inr (.inl oS_pastTakes))), (o_playedMoves, .inl (cI, 400, .inl oS_playedMoves)), (o_keptMen, .inl (cI, 384, .inl oS_keptMen)), (o_keptRest, .inl (cI, 30, .inl oS_keptRest)), (o_lists, .inl (cI, 8192, .inl oS_lists)), (o_counts, .inl (cI, 4, .inl oS_counts))] H := hP
                    have hD : va_D A [(o, .inr (6, [.int 0, .int W_o_typed_80, .ref o_text, .int oS_told, .ref o_out, .ref o_men, .int oS_side, .int oS_rights, .int oS_passed, .int oS_clock, .int oS_number, .int oS_plies, .ref o_pastMen, .ref o_pastSide, .ref o_pastRights, .ref o_pastPassed, .ref o_pastClock, .ref o_pastNumber, .ref o_pastTakes, .ref o_playedMoves, .ref o_keptMen, .ref o_keptRest, .ref o_lists, .ref o_counts])), (o_text, .inl (cC, 100, .inl (upd W_o_text_80 W_o_typed_80.toNatClampNeg (vp_nar .char (toChar (((shr64 w (8 * v4_80)) &&& 255).toInt32)))))), (o_out, .inl (cC, 100, .inl oS_out)), (o_men, .inl (cI, 64, .inl oS_men)), (o_pastMen, .inl (cI, 25664, .inl oS_pastMen)), (o_pastSide, .inl (cI, 401, .inl oS_pastSide)), (o_pastRights, .inl (cI, 401, .inl oS_pastRights)), (o_pastPassed, .inl (cI, 401, .inl oS_pastPassed)), (o_pastClock, .inl (cI, 401, .inl oS_pastClock)), (o_pastNumber, .inl (cI, 401, .inl oS_pastNumber)), (o_pastTakes, .inl (cJ, 401, .inr (.inl oS_pastTakes))), (o_playedMoves, .inl (cI, 400, .inl oS_playedMoves)), (o_keptMen, .inl (cI, 384, .inl oS_keptMen)), (o_keptRest, .inl (cI, 30, .inl oS_keptRest)), (o_lists, .inl (cI, 8192, .inl oS_lists)), (o_counts, .inl (cI, 4, .inl oS_counts))] := hD
                    refine lv_aload_n hx hb dMo_type_108 rfl (lv_at hl 0 rfl) ?_
                    refine lv_dup hx hb dMo_type_109 rfl ?_
                    refine va_get (D := (dC, dI)) (ci := 6) (v := .int W_o_typed_80) (C := RMo) (T := TMo) (N := 24) hx hb hB inMo hown hK hP 0 rfl rfl 1 (by decide) (hB _ q5_12) (fun _ h9 => h9) rfl dMo_type_110 ?_
                    refine lv_iconst (v := 1) hx hb dMo_type_113 (by decide) ?_
                    refine lv_iadd hx hb dMo_type_114 ?_
                    refine va_put (D := (dC, dI)) (ci := 6) (v := .int (W_o_typed_80 + 1)) (ty := .int) (C := RMo) (T := TMo) (N := 24) hx hb hB inMo tyMo tyMo_ok nmMo hown hK hP hD hS 0 rfl rfl 1 (by decide) (hB _ q5_12) (fun _ h9 => h9) rfl (by decide +kernel) rfl rfl (Nat.le_of_ble_eq_true rfl) dMo_type_115 (fun H locs hP hD hS => ?_)
                    have hP : va_P (dC, dI) vwCl [(o, .inr (6, [.int 0, .int (W_o_typed_80 + 1), .ref o_text, .int oS_told, .ref o_out, .ref o_men, .int oS_side, .int oS_rights, .int oS_passed, .int oS_clock, .int oS_number, .int oS_plies, .ref o_pastMen, .ref o_pastSide, .ref o_pastRights, .ref o_pastPassed, .ref o_pastClock, .ref o_pastNumber, .ref o_pastTakes, .ref o_playedMoves, .ref o_keptMen, .ref o_keptRest, .ref o_lists, .ref o_counts])), (o_text, .inl (cC, 100, .inl (upd W_o_text_80 W_o_typed_80.toNatClampNeg (vp_nar .char (toChar (((shr64 w (8 * v4_80)) &&& 255).toInt32)))))), (o_out, .inl (cC, 100, .inl oS_out)), (o_men, .inl (cI, 64, .inl oS_men)), (o_pastMen, .inl (cI, 25664, .inl oS_pastMen)), (o_pastSide, .inl (cI, 401, .inl oS_pastSide)), (o_pastRights, .inl (cI, 401, .inl oS_pastRights)), (o_pastPassed, .inl (cI, 401, .inl oS_pastPassed)), (o_pastClock, .inl (cI, 401, .inl oS_pastClock)), (o_pastNumber, .inl (cI, 401, .inl oS_pastNumber)), (o_pastTakes, .inl (cJ, 401, .inr (.inl oS_pastTakes))), (o_playedMoves, .inl (cI, 400, .inl oS_playedMoves)), (o_keptMen, .inl (cI, 384, .inl oS_keptMen)), (o_keptRest, .inl (cI, 30, .inl oS_keptRest)), (o_lists, .inl (cI, 8192, .inl oS_lists)), (o_counts, .inl (cI, 4, .inl oS_counts))] H := hP
                    have hD : va_D A [(o, .inr (6, [.int 0, .int (W_o_typed_80 + 1), .ref o_text, .int oS_told, .ref o_out, .ref o_men, .int oS_side, .int oS_rights, .int oS_passed, .int oS_clock, .int oS_number, .int oS_plies, .ref o_pastMen, .ref o_pastSide, .ref o_pastRights, .ref o_pastPassed, .ref o_pastClock, .ref o_pastNumber, .ref o_pastTakes, .ref o_playedMoves, .ref o_keptMen, .ref o_keptRest, .ref o_lists, .ref o_counts])), (o_text, .inl (cC, 100, .inl (upd W_o_text_80 W_o_typed_80.toNatClampNeg (vp_nar .char (toChar (((shr64 w (8 * v4_80)) &&& 255).toInt32)))))), (o_out, .inl (cC, 100, .inl oS_out)), (o_men, .inl (cI, 64, .inl oS_men)), (o_pastMen, .inl (cI, 25664, .inl oS_pastMen)), (o_pastSide, .inl (cI, 401, .inl oS_pastSide)), (o_pastRights, .inl (cI, 401, .inl oS_pastRights)), (o_pastPassed, .inl (cI, 401, .inl oS_pastPassed)), (o_pastClock, .inl (cI, 401, .inl oS_pastClock)), (o_pastNumber, .inl (cI, 401, .inl oS_pastNumber)), (o_pastTakes, .inl (cJ, 401, .inr (.inl oS_pastTakes))), (o_playedMoves, .inl (cI, 400, .inl oS_playedMoves)), (o_keptMen, .inl (cI, 384, .inl oS_keptMen)), (o_keptRest, .inl (cI, 30, .inl oS_keptRest)), (o_lists, .inl (cI, 8192, .inl oS_lists)), (o_counts, .inl (cI, 4, .inl oS_counts))] := hD
                    refine lv_iinc (v := v4_80 + 1) (lv' := [(4, .int (v4_80 + 1)), (0, .ref o), (1, .long w), (3, .int n)]) hx hb dMo_type_118 hl (k := 3) rfl rfl (by decide) rfl (fun ls hl => ?_)
                    refine lv_goto (tgt := 80) hx hb dMo_type_121 (by decide) ?_
                    exact ih_80 (v4_80 + 1) (W_o_typed_80 + 1) (upd W_o_text_80 W_o_typed_80.toNatClampNeg (vp_nar .char (toChar (((shr64 w (8 * v4_80)) &&& 255).toInt32)))) (he_80.trans (by rw [f_Mo_type_80_eq, if_neg c_5] <;> rfl)) (by have z0 := tnl c_1; have z1 := tnl c_2; have z2 := tle c_3; have z4 := tle c_4; have z6 := tnle c_5; have y1 : (1 : Int32).toInt = 1 := rfl; have y8 : (8 : Int32).toInt = 8 := rfl; have y100 : (100 : Int32).toInt = 100 := rfl; have zr := i_rng (n : Int32); have zs := i_succ9 v4_80 (by omega); omega) (by have z0 := tnl c_1; have z1 := tnl c_2; have z2 := tle c_3; have z4 := tle c_4; have z6 := tnle c_5; have y1 : (1 : Int32).toInt = 1 := rfl; have y8 : (8 : Int32).toInt = 8 := rfl; have y100 : (100 : Int32).toInt = 100 := rfl; have qa := i_add (x := oS_typed) (y := n) (by omega) (by omega); have q1 := i_succ9 W_o_typed_80 (by omega); have q2 := i_succ9 v4_80 (by omega); omega) _ _ (hP.sub [0, 1, 2, 3, 4, 5, 6, 7, 8, 9, 10, 11, 12, 13, 14, 15] rfl) (hD.sub [0, 1, 2, 3, 4, 5, 6, 7, 8, 9, 10, 11, 12, 13, 14, 15] (by decide) rfl) hS ls (lv_sub hl [1, 2, 3, 0] rfl)
              exact J_80 (((n : Int32).toInt - 0).toNat + 1) 0 oS_typed oS_text (he_32.trans (by rw [f_Mo_type_32_eq, if_pos c_4] <;> rfl)) (by have z0 := tnl c_1; have z1 := tnl c_2; have z2 := tle c_3; have z4 := tle c_4; have y0 : (0 : Int32).toInt = 0 := rfl; have y1 : (1 : Int32).toInt = 1 := rfl; have y8 : (8 : Int32).toInt = 8 := rfl; have y100 : (100 : Int32).toInt = 100 := rfl; omega) (by have y0 : (0 : Int32).toInt = 0 := rfl; omega) _ _ (hP.sub [0, 1, 2, 3, 4, 5, 6, 7, 8, 9, 10, 11, 12, 13, 14, 15] rfl) (hD.sub [0, 1, 2, 3, 4, 5, 6, 7, 8, 9, 10, 11, 12, 13, 14, 15] (by decide) rfl) hS ls (lv_sub hl [1, 2, 3, 0] rfl)
            · refine lv_lload_n hx hb dMo_type_38 rfl (lv_at hl 1 rfl) ?_
              refine lv_bipush (v := 8) hx hb dMo_type_39 (by decide) ?_
              refine lv_iload hx hb dMo_type_41 (lv_at hl 3 rfl) ?_
              refine lv_imul hx hb dMo_type_43 ?_
              refine lv_lshr (v := shr64 w (8 * v4_32)) hx hb dMo_type_44 rfl ?_
              refine lv_ldc2 (v := 255) hx hb hown (hB _ q5_185) dMo_type_45 ?_
              refine lv_land hx hb dMo_type_48 ?_
              refine lv_lstore (lv' := [(5, .long ((shr64 w (8 * v4_32)) &&& 255)), (0, .ref o), (1, .long w), (3, .int n), (4, .int v4_32)]) hx hb dMo_type_49 hl (by decide) rfl (fun ls hl => ?_)
              refine lv_lload hx hb dMo_type_51 (lv_at hl 0 rfl) ?_
              refine lv_ldc2 (v := 32) hx hb hown (hB _ q5_186) dMo_type_53 ?_
              refine W.lcmp hx hb dMo_type_56 ?_
              refine lv_if_lt (tgt := 69) hx hb dMo_type_57 (by decide) (fun q => let_c (h := ((shr64 w (8 * v4_32)) &&& 255) < 32) (lgc_lt.1 q) (fun c_6 => ?_)) (fun q => let_c (h := ¬ ((shr64 w (8 * v4_32)) &&& 255) < 32) (lgc_lt.2 q) (fun c_6 => ?_))
              · refine lv_iconst (v := 0) hx hb dMo_type_69 (by decide) ?_
                have hv : f_Mo_type oS_thrown oS_typed oS_text w n = (0, 0, oS_typed, oS_text) := (he_32.trans (by rw [f_Mo_type_32_eq, if_neg c_4, if_pos c_6] <;> rfl))
                have hP9 : va_P (dC, dI) vwCl [(o, .inr (6, [.int ((f_Mo_type oS_thrown oS_typed oS_text w n).2.1), .int ((f_Mo_type oS_thrown oS_typed oS_text w n).2.2.1), .ref o_text, .int oS_told, .ref o_out, .ref o_men, .int oS_side, .int oS_rights, .int oS_passed, .int oS_clock, .int oS_number, .int oS_plies, .ref o_pastMen, .ref o_pastSide, .ref o_pastRights, .ref o_pastPassed, .ref o_pastClock, .ref o_pastNumber, .ref o_pastTakes, .ref o_playedMoves, .ref o_keptMen, .ref o_keptRest, .ref o_lists, .ref o_counts])), (o_text, .inl (cC, 100, .inl ((f_Mo_type oS_thrown oS_typed oS_text w n).2.2.2))), (o_out, .inl (cC, 100, .inl oS_out)), (o_men, .inl (cI, 64, .inl oS_men)), (o_pastMen, .inl (cI, 25664, .inl oS_pastMen)), (o_pastSide, .inl (cI, 401, .inl oS_pastSide)), (o_pastRights, .inl (cI, 401, .inl oS_pastRights)), (o_pastPassed, .inl (cI, 401, .inl oS_pastPassed)), (o_pastClock, .inl (cI, 401, .inl oS_pastClock)), (o_pastNumber, .inl (cI, 401, .inl oS_pastNumber)), (o_pastTakes, .inl (cJ, 401, .inr (.inl oS_pastTakes))), (o_playedMoves, .inl (cI, 400, .inl oS_playedMoves)), (o_keptMen, .inl (cI, 384, .inl oS_keptMen)), (o_keptRest, .inl (cI, 30, .inl oS_keptRest)), (o_lists, .inl (cI, 8192, .inl oS_lists)), (o_counts, .inl (cI, 4, .inl oS_counts))] H := by first | (rw [hv]; exact hP.sub [0, 1, 2, 3, 4, 5, 6, 7, 8, 9, 10, 11, 12, 13, 14, 15] rfl) | exact hP.sub [0, 1, 2, 3, 4, 5, 6, 7, 8, 9, 10, 11, 12, 13, 14, 15] rfl
                have hD9 : va_D A [(o, .inr (6, [.int ((f_Mo_type oS_thrown oS_typed oS_text w n).2.1), .int ((f_Mo_type oS_thrown oS_typed oS_text w n).2.2.1), .ref o_text, .int oS_told, .ref o_out, .ref o_men, .int oS_side, .int oS_rights, .int oS_passed, .int oS_clock, .int oS_number, .int oS_plies, .ref o_pastMen, .ref o_pastSide, .ref o_pastRights, .ref o_pastPassed, .ref o_pastClock, .ref o_pastNumber, .ref o_pastTakes, .ref o_playedMoves, .ref o_keptMen, .ref o_keptRest, .ref o_lists, .ref o_counts])), (o_text, .inl (cC, 100, .inl ((f_Mo_type oS_thrown oS_typed oS_text w n).2.2.2))), (o_out, .inl (cC, 100, .inl oS_out)), (o_men, .inl (cI, 64, .inl oS_men)), (o_pastMen, .inl (cI, 25664, .inl oS_pastMen)), (o_pastSide, .inl (cI, 401, .inl oS_pastSide)), (o_pastRights, .inl (cI, 401, .inl oS_pastRights)), (o_pastPassed, .inl (cI, 401, .inl oS_pastPassed)), (o_pastClock, .inl (cI, 401, .inl oS_pastClock)), (o_pastNumber, .inl (cI, 401, .inl oS_pastNumber)), (o_pastTakes, .inl (cJ, 401, .inr (.inl oS_pastTakes))), (o_playedMoves, .inl (cI, 400, .inl oS_playedMoves)), (o_keptMen, .inl (cI, 384, .inl oS_keptMen)), (o_keptRest, .inl (cI, 30, .inl oS_keptRest)), (o_lists, .inl (cI, 8192, .inl oS_lists)), (o_counts, .inl (cI, 4, .inl oS_counts))] := by first | (rw [hv]; exact hD.sub [0, 1, 2, 3, 4, 5, 6, 7, 8, 9, 10, 11, 12, 13, 14, 15] (by decide) rfl) | exact hD.sub [0, 1, 2, 3, 4, 5, 6, 7, 8, 9, 10, 11, 12, 13, 14, 15] (by decide) rfl
                exact rw_retz hx hb hr rfl hlocks hK hP9 hD9 hS dMo_type_70 (by rw [hv])
              · refine lv_lload hx hb dMo_type_60 (lv_at hl 0 rfl) ?_
                refine lv_ldc2 (v := 126) hx hb hown (hB _ q5_187) dMo_type_62 ?_
                refine W.lcmp hx hb dMo_type_65 ?_
                refine lv_if_le (tgt := 71) hx hb dMo_type_66 (by decide) (fun q => let_c (h := ((shr64 w (8 * v4_32)) &&& 255) ≤ 126) (lgc_le.1 q) (fun c_7 => ?_)) (fun q => let_c (h := ¬ ((shr64 w (8 * v4_32)) &&& 255) ≤ 126) (lgc_le.2 q) (fun c_7 => ?_))
                · refine lv_iinc (v := v4_32 + 1) (lv' := [(4, .int (v4_32 + 1)), (5, .long ((shr64 w (8 * v4_32)) &&& 255)), (0, .ref o), (1, .long w), (3, .int n)]) hx hb dMo_type_71 hl (k := 4) rfl rfl (by decide) rfl (fun ls hl => ?_)
                  refine lv_goto (tgt := 32) hx hb dMo_type_74 (by decide) ?_
                  exact ih_32 (v4_32 + 1) (he_32.trans (by rw [f_Mo_type_32_eq, if_neg c_4, if_neg c_6, if_pos c_7] <;> rfl)) (by have z0 := tnl c_1; have z1 := tnl c_2; have z2 := tle c_3; have z4 := tnle c_4; have y1 : (1 : Int32).toInt = 1 := rfl; have y8 : (8 : Int32).toInt = 8 := rfl; have y100 : (100 : Int32).toInt = 100 := rfl; have zr := i_rng (n : Int32); have zs := i_succ9 v4_32 (by omega); omega) _ _ (hP.sub [0, 1, 2, 3, 4, 5, 6, 7, 8, 9, 10, 11, 12, 13, 14, 15] rfl) (hD.sub [0, 1, 2, 3, 4, 5, 6, 7, 8, 9, 10, 11, 12, 13, 14, 15] (by decide) rfl) hS ls (lv_sub hl [2, 3, 4, 0] rfl)
                · refine lv_iconst (v := 0) hx hb dMo_type_69 (by decide) ?_
                  have hv : f_Mo_type oS_thrown oS_typed oS_text w n = (0, 0, oS_typed, oS_text) := (he_32.trans (by rw [f_Mo_type_32_eq, if_neg c_4, if_neg c_6, if_neg c_7] <;> rfl))
                  have hP9 : va_P (dC, dI) vwCl [(o, .inr (6, [.int ((f_Mo_type oS_thrown oS_typed oS_text w n).2.1), .int ((f_Mo_type oS_thrown oS_typed oS_text w n).2.2.1), .ref o_text, .int oS_told, .ref o_out, .ref o_men, .int oS_side, .int oS_rights, .int oS_passed, .int oS_clock, .int oS_number, .int oS_plies, .ref o_pastMen, .ref o_pastSide, .ref o_pastRights, .ref o_pastPassed, .ref o_pastClock, .ref o_pastNumber, .ref o_pastTakes, .ref o_playedMoves, .ref o_keptMen, .ref o_keptRest, .ref o_lists, .ref o_counts])), (o_text, .inl (cC, 100, .inl ((f_Mo_type oS_thrown oS_typed oS_text w n).2.2.2))), (o_out, .inl (cC, 100, .inl oS_out)), (o_men, .inl (cI, 64, .inl oS_men)), (o_pastMen, .inl (cI, 25664, .inl oS_pastMen)), (o_pastSide, .inl (cI, 401, .inl oS_pastSide)), (o_pastRights, .inl (cI, 401, .inl oS_pastRights)), (o_pastPassed, .inl (cI, 401, .inl oS_pastPassed)), (o_pastClock, .inl (cI, 401, .inl oS_pastClock)), (o_pastNumber, .inl (cI, 401, .inl oS_pastNumber)), (o_pastTakes, .inl (cJ, 401, .inr (.inl oS_pastTakes))), (o_playedMoves, .inl (cI, 400, .inl oS_playedMoves)), (o_keptMen, .inl (cI, 384, .inl oS_keptMen)), (o_keptRest, .inl (cI, 30, .inl oS_keptRest)), (o_lists, .inl (cI, 8192, .inl oS_lists)), (o_counts, .inl (cI, 4, .inl oS_counts))] H := by first | (rw [hv]; exact hP.sub [0, 1, 2, 3, 4, 5, 6, 7, 8, 9, 10, 11, 12, 13, 14, 15] rfl) | exact hP.sub [0, 1, 2, 3, 4, 5, 6, 7, 8, 9, 10, 11, 12, 13, 14, 15] rfl
                  have hD9 : va_D A [(o, .inr (6, [.int ((f_Mo_type oS_thrown oS_typed oS_text w n).2.1), .int ((f_Mo_type oS_thrown oS_typed oS_text w n).2.2.1), .ref o_text, .int oS_told, .ref o_out, .ref o_men, .int oS_side, .int oS_rights, .int oS_passed, .int oS_clock, .int oS_number, .int oS_plies, .ref o_pastMen, .ref o_pastSide, .ref o_pastRights, .ref o_pastPassed, .ref o_pastClock, .ref o_pastNumber, .ref o_pastTakes, .ref o_playedMoves, .ref o_keptMen, .ref o_keptRest, .ref o_lists, .ref o_counts])), (o_text, .inl (cC, 100, .inl ((f_Mo_type oS_thrown oS_typed oS_text w n).2.2.2))), (o_out, .inl (cC, 100, .inl oS_out)), (o_men, .inl (cI, 64, .inl oS_men)), (o_pastMen, .inl (cI, 25664, .inl oS_pastMen)), (o_pastSide, .inl (cI, 401, .inl oS_pastSide)), (o_pastRights, .inl (cI, 401, .inl oS_pastRights)), (o_pastPassed, .inl (cI, 401, .inl oS_pastPassed)), (o_pastClock, .inl (cI, 401, .inl oS_pastClock)), (o_pastNumber, .inl (cI, 401, .inl oS_pastNumber)), (o_pastTakes, .inl (cJ, 401, .inr (.inl oS_pastTakes))), (o_playedMoves, .inl (cI, 400, .inl oS_playedMoves)), (o_keptMen, .inl (cI, 384, .inl oS_keptMen)), (o_keptRest, .inl (cI, 30, .inl oS_keptRest)), (o_lists, .inl (cI, 8192, .inl oS_lists)), (o_counts, .inl (cI, 4, .inl oS_counts))] := by first | (rw [hv]; exact hD.sub [0, 1, 2, 3, 4, 5, 6, 7, 8, 9, 10, 11, 12, 13, 14, 15] (by decide) rfl) | exact hD.sub [0, 1, 2, 3, 4, 5, 6, 7, 8, 9, 10, 11, 12, 13, 14, 15] (by decide) rfl
                  exact rw_retz hx hb hr rfl hlocks hK hP9 hD9 hS dMo_type_70 (by rw [hv])
        exact J_32 (((n : Int32).toInt - 0).toNat + 1) 0 (by rw [f_Mo_type_eq, if_neg c_1, if_neg c_2, if_pos c_3] <;> rfl) (by have z0 := tnl c_1; have z1 := tnl c_2; have z2 := tle c_3; have y0 : (0 : Int32).toInt = 0 := rfl; have y1 : (1 : Int32).toInt = 1 := rfl; have y8 : (8 : Int32).toInt = 8 := rfl; have y100 : (100 : Int32).toInt = 100 := rfl; omega) _ _ (hP.sub [0, 1, 2, 3, 4, 5, 6, 7, 8, 9, 10, 11, 12, 13, 14, 15] rfl) (hD.sub [0, 1, 2, 3, 4, 5, 6, 7, 8, 9, 10, 11, 12, 13, 14, 15] (by decide) rfl) hS ls (lv_sub hl [1, 2, 3, 0] rfl)
      · refine lv_iconst (v := 0) hx hb dMo_type_27 (by decide) ?_
        have hv : f_Mo_type oS_thrown oS_typed oS_text w n = (0, 0, oS_typed, oS_text) := (by rw [f_Mo_type_eq, if_neg c_1, if_neg c_2, if_neg c_3] <;> rfl)
        have hP9 : va_P (dC, dI) vwCl [(o, .inr (6, [.int ((f_Mo_type oS_thrown oS_typed oS_text w n).2.1), .int ((f_Mo_type oS_thrown oS_typed oS_text w n).2.2.1), .ref o_text, .int oS_told, .ref o_out, .ref o_men, .int oS_side, .int oS_rights, .int oS_passed, .int oS_clock, .int oS_number, .int oS_plies, .ref o_pastMen, .ref o_pastSide, .ref o_pastRights, .ref o_pastPassed, .ref o_pastClock, .ref o_pastNumber, .ref o_pastTakes, .ref o_playedMoves, .ref o_keptMen, .ref o_keptRest, .ref o_lists, .ref o_counts])), (o_text, .inl (cC, 100, .inl ((f_Mo_type oS_thrown oS_typed oS_text w n).2.2.2))), (o_out, .inl (cC, 100, .inl oS_out)), (o_men, .inl (cI, 64, .inl oS_men)), (o_pastMen, .inl (cI, 25664, .inl oS_pastMen)), (o_pastSide, .inl (cI, 401, .inl oS_pastSide)), (o_pastRights, .inl (cI, 401, .inl oS_pastRights)), (o_pastPassed, .inl (cI, 401, .inl oS_pastPassed)), (o_pastClock, .inl (cI, 401, .inl oS_pastClock)), (o_pastNumber, .inl (cI, 401, .inl oS_pastNumber)), (o_pastTakes, .inl (cJ, 401, .inr (.inl oS_pastTakes))), (o_playedMoves, .inl (cI, 400, .inl oS_playedMoves)), (o_keptMen, .inl (cI, 384, .inl oS_keptMen)), (o_keptRest, .inl (cI, 30, .inl oS_keptRest)), (o_lists, .inl (cI, 8192, .inl oS_lists)), (o_counts, .inl (cI, 4, .inl oS_counts))] H := by first | (rw [hv]; exact hP.sub [0, 1, 2, 3, 4, 5, 6, 7, 8, 9, 10, 11, 12, 13, 14, 15] rfl) | exact hP.sub [0, 1, 2, 3, 4, 5, 6, 7, 8, 9, 10, 11, 12, 13, 14, 15] rfl
        have hD9 : va_D A [(o, .inr (6, [.int ((f_Mo_type oS_thrown oS_typed oS_text w n).2.1), .int ((f_Mo_type oS_thrown oS_typed oS_text w n).2.2.1), .ref o_text, .int oS_told, .ref o_out, .ref o_men, .int oS_side, .int oS_rights, .int oS_passed, .int oS_clock, .int oS_number, .int oS_plies, .ref o_pastMen, .ref o_pastSide, .ref o_pastRights, .ref o_pastPassed, .ref o_pastClock, .ref o_pastNumber, .ref o_pastTakes, .ref o_playedMoves, .ref o_keptMen, .ref o_keptRest, .ref o_lists, .ref o_counts])), (o_text, .inl (cC, 100, .inl ((f_Mo_type oS_thrown oS_typed oS_text w n).2.2.2))), (o_out, .inl (cC, 100, .inl oS_out)), (o_men, .inl (cI, 64, .inl oS_men)), (o_pastMen, .inl (cI, 25664, .inl oS_pastMen)), (o_pastSide, .inl (cI, 401, .inl oS_pastSide)), (o_pastRights, .inl (cI, 401, .inl oS_pastRights)), (o_pastPassed, .inl (cI, 401, .inl oS_pastPassed)), (o_pastClock, .inl (cI, 401, .inl oS_pastClock)), (o_pastNumber, .inl (cI, 401, .inl oS_pastNumber)), (o_pastTakes, .inl (cJ, 401, .inr (.inl oS_pastTakes))), (o_playedMoves, .inl (cI, 400, .inl oS_playedMoves)), (o_keptMen, .inl (cI, 384, .inl oS_keptMen)), (o_keptRest, .inl (cI, 30, .inl oS_keptRest)), (o_lists, .inl (cI, 8192, .inl oS_lists)), (o_counts, .inl (cI, 4, .inl oS_counts))] := by first | (rw [hv]; exact hD.sub [0, 1, 2, 3, 4, 5, 6, 7, 8, 9, 10, 11, 12, 13, 14, 15] (by decide) rfl) | exact hD.sub [0, 1, 2, 3, 4, 5, 6, 7, 8, 9, 10, 11, 12, 13, 14, 15] (by decide) rfl
        exact rw_retz hx hb hr rfl hlocks hK hP9 hD9 hS dMo_type_28 (by rw [hv])

abbrev cMo_hasPawnAtEnd : ByteArray := prog_11_method_53_code
def yMo_hasPawnAtEnd : MethodName := ⟨"ChessRulesModel", "hasPawnAtEnd", "()Z"⟩
def wsMo_hasPawnAtEnd : List Cond := Cond.code yMo_hasPawnAtEnd cMo_hasPawnAtEnd 3 (some .boolean) :: BIG
theorem dMo_hasPawnAtEnd_0 : decode cMo_hasPawnAtEnd 0 = .ok (.iconst 0, 1) := by decide +kernel
theorem dMo_hasPawnAtEnd_1 : decode cMo_hasPawnAtEnd 1 = .ok (.istore_n 1, 1) := by decide +kernel
theorem dMo_hasPawnAtEnd_2 : decode cMo_hasPawnAtEnd 2 = .ok (.iconst 0, 1) := by decide +kernel
theorem dMo_hasPawnAtEnd_3 : decode cMo_hasPawnAtEnd 3 = .ok (.istore_n 2, 1) := by decide +kernel
theorem dMo_hasPawnAtEnd_4 : decode cMo_hasPawnAtEnd 4 = .ok (.iload_n 2, 1) := by decide +kernel
theorem dMo_hasPawnAtEnd_5 : decode cMo_hasPawnAtEnd 5 = .ok (.bipush 8, 2) := by decide +kernel
theorem dMo_hasPawnAtEnd_7 : decode cMo_hasPawnAtEnd 7 = .ok (.if_icmp .ge 48, 3) := by decide +kernel
theorem dMo_hasPawnAtEnd_10 : decode cMo_hasPawnAtEnd 10 = .ok (.iload_n 1, 1) := by decide +kernel
theorem dMo_hasPawnAtEnd_11 : decode cMo_hasPawnAtEnd 11 = .ok (.ifCond .ne 32, 3) := by decide +kernel
theorem dMo_hasPawnAtEnd_14 : decode cMo_hasPawnAtEnd 14 = .ok (.aload_n 0, 1) := by decide +kernel
theorem dMo_hasPawnAtEnd_15 : decode cMo_hasPawnAtEnd 15 = .ok (.getfield 16, 3) := by decide +kernel
theorem dMo_hasPawnAtEnd_18 : decode cMo_hasPawnAtEnd 18 = .ok (.iload_n 2, 1) := by decide +kernel
theorem dMo_hasPawnAtEnd_19 : decode cMo_hasPawnAtEnd 19 = .ok (.iaload, 1) := by decide +kernel
theorem dMo_hasPawnAtEnd_20 : decode cMo_hasPawnAtEnd 20 = .ok (.invokestatic 85, 3) := by decide +kernel
theorem dMo_hasPawnAtEnd_23 : decode cMo_hasPawnAtEnd 23 = .ok (.iconst 1, 1) := by decide +kernel
theorem dMo_hasPawnAtEnd_24 : decode cMo_hasPawnAtEnd 24 = .ok (.if_icmp .eq 19, 3) := by decide +kernel
theorem dMo_hasPawnAtEnd_27 : decode cMo_hasPawnAtEnd 27 = .ok (.aload_n 0, 1) := by decide +kernel
theorem dMo_hasPawnAtEnd_28 : decode cMo_hasPawnAtEnd 28 = .ok (.getfield 16, 3) := by decide +kernel
theorem dMo_hasPawnAtEnd_31 : decode cMo_hasPawnAtEnd 31 = .ok (.bipush 56, 2) := by decide +kernel
theorem dMo_hasPawnAtEnd_33 : decode cMo_hasPawnAtEnd 33 = .ok (.iload_n 2, 1) := by decide +kernel
theorem dMo_hasPawnAtEnd_34 : decode cMo_hasPawnAtEnd 34 = .ok (.iadd, 1) := by decide +kernel
theorem dMo_hasPawnAtEnd_35 : decode cMo_hasPawnAtEnd 35 = .ok (.iaload, 1) := by decide +kernel
theorem dMo_hasPawnAtEnd_36 : decode cMo_hasPawnAtEnd 36 = .ok (.invokestatic 85, 3) := by decide +kernel
theorem dMo_hasPawnAtEnd_39 : decode cMo_hasPawnAtEnd 39 = .ok (.iconst 1, 1) := by decide +kernel
theorem dMo_hasPawnAtEnd_40 : decode cMo_hasPawnAtEnd 40 = .ok (.if_icmp .ne 7, 3) := by decide +kernel
theorem dMo_hasPawnAtEnd_43 : decode cMo_hasPawnAtEnd 43 = .ok (.iconst 1, 1) := by decide +kernel
theorem dMo_hasPawnAtEnd_44 : decode cMo_hasPawnAtEnd 44 = .ok (.goto 4, 3) := by decide +kernel
theorem dMo_hasPawnAtEnd_47 : decode cMo_hasPawnAtEnd 47 = .ok (.iconst 0, 1) := by decide +kernel
theorem dMo_hasPawnAtEnd_48 : decode cMo_hasPawnAtEnd 48 = .ok (.istore_n 1, 1) := by decide +kernel
theorem dMo_hasPawnAtEnd_49 : decode cMo_hasPawnAtEnd 49 = .ok (.iinc 2 1, 3) := by decide +kernel
theorem dMo_hasPawnAtEnd_52 : decode cMo_hasPawnAtEnd 52 = .ok (.goto (-48), 3) := by decide +kernel
theorem dMo_hasPawnAtEnd_55 : decode cMo_hasPawnAtEnd 55 = .ok (.iload_n 1, 1) := by decide +kernel
theorem dMo_hasPawnAtEnd_56 : decode cMo_hasPawnAtEnd 56 = .ok (.ireturn, 1) := by decide +kernel

def f_Mo_hasPawnAtEnd_4 (oS_men : Nat → Int32) : Nat → Int32 → Int32 → Int32
  | 0 => fun _ _ => 0
  | n_4 + 1 => fun v1_4 v2_4 => (if 8 ≤ v2_4 then v1_4 else (if v1_4 = 0 then (if (f_Mo_kind (oS_men v2_4.toNatClampNeg)) = 1 then (f_Mo_hasPawnAtEnd_4 oS_men n_4) 1 (v2_4 + 1) else (if (f_Mo_kind (oS_men (56 + v2_4).toNatClampNeg)) = 1 then (f_Mo_hasPawnAtEnd_4 oS_men n_4) 1 (v2_4 + 1) else (f_Mo_hasPawnAtEnd_4 oS_men n_4) 0 (v2_4 + 1))) else (f_Mo_hasPawnAtEnd_4 oS_men n_4) 1 (v2_4 + 1)))
theorem f_Mo_hasPawnAtEnd_4_eq (oS_men : Nat → Int32) (n_4 : Nat) (v1_4 : Int32) (v2_4 : Int32) : f_Mo_hasPawnAtEnd_4 oS_men (n_4 + 1) v1_4 v2_4 =
  (if 8 ≤ v2_4 then v1_4 else (if v1_4 = 0 then (if (f_Mo_kind (oS_men v2_4.toNatClampNeg)) = 1 then (f_Mo_hasPawnAtEnd_4 oS_men n_4) 1 (v2_4 + 1) else (if (f_Mo_kind (oS_men (56 + v2_4).toNatClampNeg)) = 1 then (f_Mo_hasPawnAtEnd_4 oS_men n_4) 1 (v2_4 + 1) else (f_Mo_hasPawnAtEnd_4 oS_men n_4) 0 (v2_4 + 1))) else (f_Mo_hasPawnAtEnd_4 oS_men n_4) 1 (v2_4 + 1))) := rfl

def f_Mo_hasPawnAtEnd (oS_men : Nat → Int32) : Int32 :=
  f_Mo_hasPawnAtEnd_4 oS_men (9) 0 0
theorem f_Mo_hasPawnAtEnd_eq (oS_men : Nat → Int32) : f_Mo_hasPawnAtEnd oS_men =
  f_Mo_hasPawnAtEnd_4 oS_men (9) 0 0 := rfl

set_option maxHeartbeats 4000000 in
set_option maxRecDepth 100000 in
theorem c_Mo_hasPawnAtEnd (l : Launch) (dC : Nat → ClassId) (dI : Nat → Nat → Nat) (cI cJ cC : ClassId) (ad : Nat → Nat) (o o_text o_out o_men o_pastMen o_pastSide o_pastRights o_pastPassed o_pastClock o_pastNumber o_pastTakes o_playedMoves o_keptMen o_keptRest o_lists o_counts : Nat) (oS_thrown : Int32) (oS_typed : Int32) (oS_text : Nat → Int32) (oS_told : Int32) (oS_out : Nat → Int32) (oS_men : Nat → Int32) (oS_side : Int32) (oS_rights : Int32) (oS_passed : Int32) (oS_clock : Int32) (oS_number : Int32) (oS_plies : Int32) (oS_pastMen : Nat → Int32) (oS_pastSide : Nat → Int32) (oS_pastRights : Nat → Int32) (oS_pastPassed : Nat → Int32) (oS_pastClock : Nat → Int32) (oS_pastNumber : Nat → Int32) (oS_pastTakes : Nat → Int64) (oS_playedMoves : Nat → Int32) (oS_keptMen : Nat → Int32) (oS_keptRest : Nat → Int32) (oS_lists : Nat → Int32) (oS_counts : Nat → Int32) : Met l yMo_hasPawnAtEnd wsMo_hasPawnAtEnd { frames := 1, cells := 0, slots := 0, locals := 20 } (roP dC dI (TYS cI cJ cC) [.ref o] [(o, .inr (6, [.int oS_thrown, .int oS_typed, .ref o_text, .int oS_told, .ref o_out, .ref o_men, .int oS_side, .int oS_rights, .int oS_passed, .int oS_clock, .int oS_number, .int oS_plies, .ref o_pastMen, .ref o_pastSide, .ref o_pastRights, .ref o_pastPassed, .ref o_pastClock, .ref o_pastNumber, .ref o_pastTakes, .ref o_playedMoves, .ref o_keptMen, .ref o_keptRest, .ref o_lists, .ref o_counts])), (o_text, .inl (cC, 100, .inl oS_text)), (o_out, .inl (cC, 100, .inl oS_out)), (o_men, .inl (cI, 64, .inl oS_men)), (o_pastMen, .inl (cI, 25664, .inl oS_pastMen)), (o_pastSide, .inl (cI, 401, .inl oS_pastSide)), (o_pastRights, .inl (cI, 401, .inl oS_pastRights)), (o_pastPassed, .inl (cI, 401, .inl oS_pastPassed)), (o_pastClock, .inl (cI, 401, .inl oS_pastClock)), (o_pastNumber, .inl (cI, 401, .inl oS_pastNumber)), (o_pastTakes, .inl (cJ, 401, .inr (.inl oS_pastTakes))), (o_playedMoves, .inl (cI, 400, .inl oS_playedMoves)), (o_keptMen, .inl (cI, 384, .inl oS_keptMen)), (o_keptRest, .inl (cI, 30, .inl oS_keptRest)), (o_lists, .inl (cI, 8192, .inl oS_lists)), (o_counts, .inl (cI, 4, .inl oS_counts))] (GS ad)) (vp_Si (fun r => r = f_Mo_hasPawnAtEnd oS_men)) 0 0 (fun _ => False) := by
  refine Met.ofW (cc := cMo_hasPawnAtEnd) (maxL := 3) (ret := (some .boolean)) (by decide) rfl ?_
  intro p e s m args below meth c s₁ B hml hv
  obtain ⟨rfl, hP, hK, hG⟩ := hv
  have hx := B.exec
  have hb := B.bytes
  have hr := B.returns
  have hB : ∀ w9 ∈ BIG, w9.before ([.ref o]).toArray s = true := fun w9 h => atoms_spec (ws := wsMo_hasPawnAtEnd) B.pre w9 (List.mem_cons_of_mem _ h)
  have hown : s.vm.findClass "ChessRulesModel" = some m.cls := findClass_of_methodNamed B.named
  have hlocks := B.notSynchronized
  have hS : va_S (fun _ => False) s.heap s.heap [] := va_S.rf
  have hP : va_P (dC, dI) vwCl [(o, .inr (6, [.int oS_thrown, .int oS_typed, .ref o_text, .int oS_told, .ref o_out, .ref o_men, .int oS_side, .int oS_rights, .int oS_passed, .int oS_clock, .int oS_number, .int oS_plies, .ref o_pastMen, .ref o_pastSide, .ref o_pastRights, .ref o_pastPassed, .ref o_pastClock, .ref o_pastNumber, .ref o_pastTakes, .ref o_playedMoves, .ref o_keptMen, .ref o_keptRest, .ref o_lists, .ref o_counts])), (o_text, .inl (cC, 100, .inl oS_text)), (o_out, .inl (cC, 100, .inl oS_out)), (o_men, .inl (cI, 64, .inl oS_men)), (o_pastMen, .inl (cI, 25664, .inl oS_pastMen)), (o_pastSide, .inl (cI, 401, .inl oS_pastSide)), (o_pastRights, .inl (cI, 401, .inl oS_pastRights)), (o_pastPassed, .inl (cI, 401, .inl oS_pastPassed)), (o_pastClock, .inl (cI, 401, .inl oS_pastClock)), (o_pastNumber, .inl (cI, 401, .inl oS_pastNumber)), (o_pastTakes, .inl (cJ, 401, .inr (.inl oS_pastTakes))), (o_playedMoves, .inl (cI, 400, .inl oS_playedMoves)), (o_keptMen, .inl (cI, 384, .inl oS_keptMen)), (o_keptRest, .inl (cI, 30, .inl oS_keptRest)), (o_lists, .inl (cI, 8192, .inl oS_lists)), (o_counts, .inl (cI, 4, .inl oS_counts))] s.heap := hP
  have hl := lv_entry ([.ref o]) (n := 3) (Nat.le_of_ble_eq_true rfl)
  rw [lg_entry_eq]
  generalize (lg_sl ([.ref o]) ++ List.replicate (3 - (lg_sl ([.ref o])).length) Slot.unset).toArray = ls at hl ⊢
  have hl : lv_has ls 3 [(0, .ref o)] := hl
  refine lv_iconst (v := 0) hx hb dMo_hasPawnAtEnd_0 (by decide) ?_
  refine lv_istore_n (lv' := [(1, .int 0), (0, .ref o)]) hx hb dMo_hasPawnAtEnd_1 rfl hl (by decide) rfl (fun ls hl => ?_)
  refine lv_iconst (v := 0) hx hb dMo_hasPawnAtEnd_2 (by decide) ?_
  refine lv_istore_n (lv' := [(2, .int 0), (1, .int 0), (0, .ref o)]) hx hb dMo_hasPawnAtEnd_3 rfl hl (by decide) rfl (fun ls hl => ?_)
  have J_4 : ∀ (n_4 : Nat) (v1_4 : Int32) (v2_4 : Int32), f_Mo_hasPawnAtEnd oS_men = f_Mo_hasPawnAtEnd_4 oS_men n_4 v1_4 v2_4 → ((0 : Int) ≤ v2_4.toInt ∧ (8 : Int32).toInt - v2_4.toInt + 1 ≤ (n_4 : Int) ∧ (1 : Int) ≤ (n_4 : Int)) → (v1_4 = 0 ∨ v1_4 = 1) → ∀ ls : Array Slot, lv_has ls 3 [(0, .ref o), (1, .int v1_4), (2, .int v2_4)] → W p l e (headSpec wsMo_hasPawnAtEnd { frames := 1, cells := 0, slots := 0, locals := 20 }).room s m ([.ref o]).toArray below meth c s.heap [] 0 0 (MQ below (vp_Si (fun r => r = f_Mo_hasPawnAtEnd oS_men)) ([.ref o]).toArray s 0 0 (fun _ => False)) (F0 m 4 ls []) := by
    intro n_4
    induction n_4 with
    | zero => intro v1_4 v2_4 _ hm_4; exact absurd hm_4 (by omega)
    | succ n_4 ih_4 =>
      intro v1_4 v2_4 he_4 hm_4 hi_4 ls hl
      refine lv_iload_n hx hb dMo_hasPawnAtEnd_4 rfl (lv_at hl 2 rfl) ?_
      refine lv_bipush (v := 8) hx hb dMo_hasPawnAtEnd_5 (by decide) ?_
      refine lv_icmp_ge (tgt := 55) hx hb dMo_hasPawnAtEnd_7 (by decide) (fun c_1 => ?_) (fun c_1 => ?_)
      · refine lv_iload_n hx hb dMo_hasPawnAtEnd_55 rfl (lv_at hl 1 rfl) ?_
        exact ro_retz hx hb hr (nar01 hi_4) hlocks dMo_hasPawnAtEnd_56 (Eq.symm (he_4.trans (by rw [f_Mo_hasPawnAtEnd_4_eq, if_pos c_1] <;> rfl)))
      · refine lv_iload_n hx hb dMo_hasPawnAtEnd_10 rfl (lv_at hl 1 rfl) ?_
        refine lv_if_ne (tgt := 43) hx hb dMo_hasPawnAtEnd_11 (by decide) (fun c_2 => ?_) (fun c_2 => ?_)
        · refine lv_iconst (v := 1) hx hb dMo_hasPawnAtEnd_43 (by decide) ?_
          refine lv_goto (tgt := 48) hx hb dMo_hasPawnAtEnd_44 (by decide) ?_
          refine lv_istore_n (lv' := [(1, .int 1), (0, .ref o), (2, .int v2_4)]) hx hb dMo_hasPawnAtEnd_48 rfl hl (by decide) rfl (fun ls hl => ?_)
          refine lv_iinc (v := v2_4 + 1) (lv' := [(2, .int (v2_4 + 1)), (1, .int 1), (0, .ref o)]) hx hb dMo_hasPawnAtEnd_49 hl (k := 2) rfl rfl (by decide) rfl (fun ls hl => ?_)
          refine lv_goto (tgt := 4) hx hb dMo_hasPawnAtEnd_52 (by decide) ?_
          exact ih_4 1 (v2_4 + 1) (he_4.trans (by rw [f_Mo_hasPawnAtEnd_4_eq, if_neg c_1, if_neg c_2] <;> rfl)) (by have z1 := tnle c_1; have z2 := tne c_2; have y0 : (0 : Int32).toInt = 0 := rfl; have y8 : (8 : Int32).toInt = 8 := rfl; have zr := i_rng (8 : Int32); have zs := i_succ9 v2_4 (by omega); omega) (by first | exact Or.inl rfl | exact Or.inr rfl | exact hi_4) ls (lv_sub hl [2, 1, 0] rfl)
        · refine lv_aload_n hx hb dMo_hasPawnAtEnd_14 rfl (lv_at hl 0 rfl) ?_
          refine va_get (D := (dC, dI)) (ci := 6) (v := .ref o_men) (C := RMo) (T := TMo) (N := 24) hx hb hB inMo hown hK hP 0 rfl rfl 5 (by decide) (hB _ q5_16) (fun _ h9 => h9) rfl dMo_hasPawnAtEnd_15 ?_
          refine lv_iload_n hx hb dMo_hasPawnAtEnd_18 rfl (lv_at hl 2 rfl) ?_
          refine va_iald hx hb hK hP 3 0 rfl rfl (vp_in_iff.mpr (by have z1 := tnle c_1; have z2 := teq c_2; have y0 : (0 : Int32).toInt = 0 := rfl; have y8 : (8 : Int32).toInt = 8 := rfl; omega)) dMo_hasPawnAtEnd_19 ?_
          refine ro_goi (va_runS (As := [.int (oS_men v2_4.toNatClampNeg)]) (rest := []) ⟨hx, hb, hml, hown, hB⟩ (c_Mo_kind l dC dI cI cJ cC ad (oS_men v2_4.toNatClampNeg)) ⟨callB_of 1 hB (big_self q4_202) rfl rfl rfl (hB _ q1_15) (hB _ q4_200) (by decide +kernel) ⟨Nat.le_of_ble_eq_true rfl, Nat.le_of_ble_eq_true rfl⟩, (hB _ q4_201)⟩ (ro_preS (GS_ok ad) hK hP hG hS [] rfl) rfl rfl hl.1 rfl (lv_room (Nat.le_of_ble_eq_true rfl)) dMo_hasPawnAtEnd_20 ⟨Nat.le_of_ble_eq_true rfl, Nat.le_of_ble_eq_true rfl⟩) ?_
          refine lv_iconst (v := 1) hx hb dMo_hasPawnAtEnd_23 (by decide) ?_
          refine lv_icmp_eq (tgt := 43) hx hb dMo_hasPawnAtEnd_24 (by decide) (fun c_3 => ?_) (fun c_3 => ?_)
          · refine lv_iconst (v := 1) hx hb dMo_hasPawnAtEnd_43 (by decide) ?_
            refine lv_goto (tgt := 48) hx hb dMo_hasPawnAtEnd_44 (by decide) ?_
            refine lv_istore_n (lv' := [(1, .int 1), (0, .ref o), (2, .int v2_4)]) hx hb dMo_hasPawnAtEnd_48 rfl hl (by decide) rfl (fun ls hl => ?_)
            refine lv_iinc (v := v2_4 + 1) (lv' := [(2, .int (v2_4 + 1)), (1, .int 1), (0, .ref o)]) hx hb dMo_hasPawnAtEnd_49 hl (k := 2) rfl rfl (by decide) rfl (fun ls hl => ?_)
            refine lv_goto (tgt := 4) hx hb dMo_hasPawnAtEnd_52 (by decide) ?_
            exact ih_4 1 (v2_4 + 1) (he_4.trans (by rw [f_Mo_hasPawnAtEnd_4_eq, if_neg c_1, if_pos c_2, if_pos c_3] <;> rfl)) (by have z1 := tnle c_1; have z2 := teq c_2; have z3 := teq c_3; have y0 : (0 : Int32).toInt = 0 := rfl; have y1 : (1 : Int32).toInt = 1 := rfl; have y8 : (8 : Int32).toInt = 8 := rfl; have zr := i_rng (8 : Int32); have zs := i_succ9 v2_4 (by omega); omega) (by first | exact Or.inl rfl | exact Or.inr rfl | exact hi_4) ls (lv_sub hl [2, 1, 0] rfl)
          · refine lv_aload_n hx hb dMo_hasPawnAtEnd_27 rfl (lv_at hl 0 rfl) ?_
            refine va_get (D := (dC, dI)) (ci := 6) (v := .ref o_men) (C := RMo) (T := TMo) (N := 24) hx hb hB inMo hown hK hP 0 rfl rfl 5 (by decide) (hB _ q5_16) (fun _ h9 => h9) rfl dMo_hasPawnAtEnd_28 ?_
            refine lv_bipush (v := 56) hx hb dMo_hasPawnAtEnd_31 (by decide) ?_
            refine lv_iload_n hx hb dMo_hasPawnAtEnd_33 rfl (lv_at hl 2 rfl) ?_
            refine lv_iadd hx hb dMo_hasPawnAtEnd_34 ?_
            refine va_iald hx hb hK hP 3 0 rfl rfl (vp_in_iff.mpr (by have z1 := tnle c_1; have z2 := teq c_2; have z3 := tne c_3; have y0 : (0 : Int32).toInt = 0 := rfl; have y1 : (1 : Int32).toInt = 1 := rfl; have y8 : (8 : Int32).toInt = 8 := rfl; have y56 : (56 : Int32).toInt = 56 := rfl; have zz := i_add (x := 56) (y := v2_4) (by omega) (by omega); omega)) dMo_hasPawnAtEnd_35 ?_
            refine ro_goi (va_runS (As := [.int (oS_men (56 + v2_4).toNatClampNeg)]) (rest := []) ⟨hx, hb, hml, hown, hB⟩ (c_Mo_kind l dC dI cI cJ cC ad (oS_men (56 + v2_4).toNatClampNeg)) ⟨callB_of 1 hB (big_self q4_202) rfl rfl rfl (hB _ q1_15) (hB _ q4_200) (by decide +kernel) ⟨Nat.le_of_ble_eq_true rfl, Nat.le_of_ble_eq_true rfl⟩, (hB _ q4_201)⟩ (ro_preS (GS_ok ad) hK hP hG hS [] rfl) rfl rfl hl.1 rfl (lv_room (Nat.le_of_ble_eq_true rfl)) dMo_hasPawnAtEnd_36 ⟨Nat.le_of_ble_eq_true rfl, Nat.le_of_ble_eq_true rfl⟩) ?_
            refine lv_iconst (v := 1) hx hb dMo_hasPawnAtEnd_39 (by decide) ?_
            refine lv_icmp_ne (tgt := 47) hx hb dMo_hasPawnAtEnd_40 (by decide) (fun c_4 => ?_) (fun c_4 => ?_)
            · refine lv_iconst (v := 0) hx hb dMo_hasPawnAtEnd_47 (by decide) ?_
              refine lv_istore_n (lv' := [(1, .int 0), (0, .ref o), (2, .int v2_4)]) hx hb dMo_hasPawnAtEnd_48 rfl hl (by decide) rfl (fun ls hl => ?_)
              refine lv_iinc (v := v2_4 + 1) (lv' := [(2, .int (v2_4 + 1)), (1, .int 0), (0, .ref o)]) hx hb dMo_hasPawnAtEnd_49 hl (k := 2) rfl rfl (by decide) rfl (fun ls hl => ?_)
              refine lv_goto (tgt := 4) hx hb dMo_hasPawnAtEnd_52 (by decide) ?_
              exact ih_4 0 (v2_4 + 1) (he_4.trans (by rw [f_Mo_hasPawnAtEnd_4_eq, if_neg c_1, if_pos c_2, if_neg c_3, if_neg c_4] <;> rfl)) (by have z1 := tnle c_1; have z2 := teq c_2; have z3 := tne c_3; have z4 := tne c_4; have y0 : (0 : Int32).toInt = 0 := rfl; have y1 : (1 : Int32).toInt = 1 := rfl; have y8 : (8 : Int32).toInt = 8 := rfl; have y56 : (56 : Int32).toInt = 56 := rfl; have zr := i_rng (8 : Int32); have zs := i_succ9 v2_4 (by omega); omega) (by first | exact Or.inl rfl | exact Or.inr rfl | exact hi_4) ls (lv_sub hl [2, 1, 0] rfl)
            · refine lv_iconst (v := 1) hx hb dMo_hasPawnAtEnd_43 (by decide) ?_
              refine lv_goto (tgt := 48) hx hb dMo_hasPawnAtEnd_44 (by decide) ?_
              refine lv_istore_n (lv' := [(1, .int 1), (0, .ref o), (2, .int v2_4)]) hx hb dMo_hasPawnAtEnd_48 rfl hl (by decide) rfl (fun ls hl => ?_)
              refine lv_iinc (v := v2_4 + 1) (lv' := [(2, .int (v2_4 + 1)), (1, .int 1), (0, .ref o)]) hx hb dMo_hasPawnAtEnd_49 hl (k := 2) rfl rfl (by decide) rfl (fun ls hl => ?_)
              refine lv_goto (tgt := 4) hx hb dMo_hasPawnAtEnd_52 (by decide) ?_
              exact ih_4 1 (v2_4 + 1) (he_4.trans (by rw [f_Mo_hasPawnAtEnd_4_eq, if_neg c_1, if_pos c_2, if_neg c_3, if_pos c_4] <;> rfl)) (by have z1 := tnle c_1; have z2 := teq c_2; have z3 := tne c_3; have z4 := teq c_4; have y0 : (0 : Int32).toInt = 0 := rfl; have y1 : (1 : Int32).toInt = 1 := rfl; have y8 : (8 : Int32).toInt = 8 := rfl; have y56 : (56 : Int32).toInt = 56 := rfl; have zr := i_rng (8 : Int32); have zs := i_succ9 v2_4 (by omega); omega) (by first | exact Or.inl rfl | exact Or.inr rfl | exact hi_4) ls (lv_sub hl [2, 1, 0] rfl)
  exact J_4 (9) 0 0 (by rw [f_Mo_hasPawnAtEnd_eq] <;> rfl) (by decide) (Or.inl rfl) ls (lv_sub hl [2, 1, 0] rfl)

abbrev cMo_isRightWrong : ByteArray := prog_11_method_54_code
def yMo_isRightWrong : MethodName := ⟨"ChessRulesModel", "isRightWrong", "()Z"⟩
def wsMo_isRightWrong : List Cond := Cond.code yMo_isRightWrong cMo_isRightWrong 7 (some .boolean) :: BIG
theorem dMo_isRightWrong_0 : decode cMo_isRightWrong 0 = .ok (.iconst 0, 1) := by decide +kernel
theorem dMo_isRightWrong_1 : decode cMo_isRightWrong 1 = .ok (.istore_n 1, 1) := by decide +kernel
theorem dMo_isRightWrong_2 : decode cMo_isRightWrong 2 = .ok (.iconst 0, 1) := by decide +kernel
theorem dMo_isRightWrong_3 : decode cMo_isRightWrong 3 = .ok (.istore_n 2, 1) := by decide +kernel
theorem dMo_isRightWrong_4 : decode cMo_isRightWrong 4 = .ok (.iload_n 2, 1) := by decide +kernel
theorem dMo_isRightWrong_5 : decode cMo_isRightWrong 5 = .ok (.iconst 4, 1) := by decide +kernel
theorem dMo_isRightWrong_6 : decode cMo_isRightWrong 6 = .ok (.if_icmp .ge 107, 3) := by decide +kernel
theorem dMo_isRightWrong_9 : decode cMo_isRightWrong 9 = .ok (.iload_n 2, 1) := by decide +kernel
theorem dMo_isRightWrong_10 : decode cMo_isRightWrong 10 = .ok (.iconst 2, 1) := by decide +kernel
theorem dMo_isRightWrong_11 : decode cMo_isRightWrong 11 = .ok (.idiv, 1) := by decide +kernel
theorem dMo_isRightWrong_12 : decode cMo_isRightWrong 12 = .ok (.istore_n 3, 1) := by decide +kernel
theorem dMo_isRightWrong_13 : decode cMo_isRightWrong 13 = .ok (.bipush 56, 2) := by decide +kernel
theorem dMo_isRightWrong_15 : decode cMo_isRightWrong 15 = .ok (.iload_n 3, 1) := by decide +kernel
theorem dMo_isRightWrong_16 : decode cMo_isRightWrong 16 = .ok (.imul, 1) := by decide +kernel
theorem dMo_isRightWrong_17 : decode cMo_isRightWrong 17 = .ok (.iconst 4, 1) := by decide +kernel
theorem dMo_isRightWrong_18 : decode cMo_isRightWrong 18 = .ok (.iadd, 1) := by decide +kernel
theorem dMo_isRightWrong_19 : decode cMo_isRightWrong 19 = .ok (.istore 4, 2) := by decide +kernel
theorem dMo_isRightWrong_21 : decode cMo_isRightWrong 21 = .ok (.bipush 56, 2) := by decide +kernel
theorem dMo_isRightWrong_23 : decode cMo_isRightWrong 23 = .ok (.iload_n 3, 1) := by decide +kernel
theorem dMo_isRightWrong_24 : decode cMo_isRightWrong 24 = .ok (.imul, 1) := by decide +kernel
theorem dMo_isRightWrong_25 : decode cMo_isRightWrong 25 = .ok (.iload_n 2, 1) := by decide +kernel
theorem dMo_isRightWrong_26 : decode cMo_isRightWrong 26 = .ok (.iconst 2, 1) := by decide +kernel
theorem dMo_isRightWrong_27 : decode cMo_isRightWrong 27 = .ok (.irem, 1) := by decide +kernel
theorem dMo_isRightWrong_28 : decode cMo_isRightWrong 28 = .ok (.ifCond .ne 8, 3) := by decide +kernel
theorem dMo_isRightWrong_31 : decode cMo_isRightWrong 31 = .ok (.bipush 7, 2) := by decide +kernel
theorem dMo_isRightWrong_33 : decode cMo_isRightWrong 33 = .ok (.goto 4, 3) := by decide +kernel
theorem dMo_isRightWrong_36 : decode cMo_isRightWrong 36 = .ok (.iconst 0, 1) := by decide +kernel
theorem dMo_isRightWrong_37 : decode cMo_isRightWrong 37 = .ok (.iadd, 1) := by decide +kernel
theorem dMo_isRightWrong_38 : decode cMo_isRightWrong 38 = .ok (.istore 5, 2) := by decide +kernel
theorem dMo_isRightWrong_40 : decode cMo_isRightWrong 40 = .ok (.aload_n 0, 1) := by decide +kernel
theorem dMo_isRightWrong_41 : decode cMo_isRightWrong 41 = .ok (.getfield 16, 3) := by decide +kernel
theorem dMo_isRightWrong_44 : decode cMo_isRightWrong 44 = .ok (.iload 4, 2) := by decide +kernel
theorem dMo_isRightWrong_46 : decode cMo_isRightWrong 46 = .ok (.iaload, 1) := by decide +kernel
theorem dMo_isRightWrong_47 : decode cMo_isRightWrong 47 = .ok (.bipush 6, 2) := by decide +kernel
theorem dMo_isRightWrong_49 : decode cMo_isRightWrong 49 = .ok (.bipush 8, 2) := by decide +kernel
theorem dMo_isRightWrong_51 : decode cMo_isRightWrong 51 = .ok (.iload_n 3, 1) := by decide +kernel
theorem dMo_isRightWrong_52 : decode cMo_isRightWrong 52 = .ok (.imul, 1) := by decide +kernel
theorem dMo_isRightWrong_53 : decode cMo_isRightWrong 53 = .ok (.iadd, 1) := by decide +kernel
theorem dMo_isRightWrong_54 : decode cMo_isRightWrong 54 = .ok (.if_icmp .ne 23, 3) := by decide +kernel
theorem dMo_isRightWrong_57 : decode cMo_isRightWrong 57 = .ok (.aload_n 0, 1) := by decide +kernel
theorem dMo_isRightWrong_58 : decode cMo_isRightWrong 58 = .ok (.getfield 16, 3) := by decide +kernel
theorem dMo_isRightWrong_61 : decode cMo_isRightWrong 61 = .ok (.iload 5, 2) := by decide +kernel
theorem dMo_isRightWrong_63 : decode cMo_isRightWrong 63 = .ok (.iaload, 1) := by decide +kernel
theorem dMo_isRightWrong_64 : decode cMo_isRightWrong 64 = .ok (.iconst 4, 1) := by decide +kernel
theorem dMo_isRightWrong_65 : decode cMo_isRightWrong 65 = .ok (.bipush 8, 2) := by decide +kernel
theorem dMo_isRightWrong_67 : decode cMo_isRightWrong 67 = .ok (.iload_n 3, 1) := by decide +kernel
theorem dMo_isRightWrong_68 : decode cMo_isRightWrong 68 = .ok (.imul, 1) := by decide +kernel
theorem dMo_isRightWrong_69 : decode cMo_isRightWrong 69 = .ok (.iadd, 1) := by decide +kernel
theorem dMo_isRightWrong_70 : decode cMo_isRightWrong 70 = .ok (.if_icmp .ne 7, 3) := by decide +kernel
theorem dMo_isRightWrong_73 : decode cMo_isRightWrong 73 = .ok (.iconst 1, 1) := by decide +kernel
theorem dMo_isRightWrong_74 : decode cMo_isRightWrong 74 = .ok (.goto 4, 3) := by decide +kernel
theorem dMo_isRightWrong_77 : decode cMo_isRightWrong 77 = .ok (.iconst 0, 1) := by decide +kernel
theorem dMo_isRightWrong_78 : decode cMo_isRightWrong 78 = .ok (.istore 6, 2) := by decide +kernel
theorem dMo_isRightWrong_80 : decode cMo_isRightWrong 80 = .ok (.iload_n 1, 1) := by decide +kernel
theorem dMo_isRightWrong_81 : decode cMo_isRightWrong 81 = .ok (.ifCond .ne 20, 3) := by decide +kernel
theorem dMo_isRightWrong_84 : decode cMo_isRightWrong 84 = .ok (.aload_n 0, 1) := by decide +kernel
theorem dMo_isRightWrong_85 : decode cMo_isRightWrong 85 = .ok (.getfield 20, 3) := by decide +kernel
theorem dMo_isRightWrong_88 : decode cMo_isRightWrong 88 = .ok (.iload_n 2, 1) := by decide +kernel
theorem dMo_isRightWrong_89 : decode cMo_isRightWrong 89 = .ok (.ishr, 1) := by decide +kernel
theorem dMo_isRightWrong_90 : decode cMo_isRightWrong 90 = .ok (.iconst 1, 1) := by decide +kernel
theorem dMo_isRightWrong_91 : decode cMo_isRightWrong 91 = .ok (.iand, 1) := by decide +kernel
theorem dMo_isRightWrong_92 : decode cMo_isRightWrong 92 = .ok (.iconst 1, 1) := by decide +kernel
theorem dMo_isRightWrong_93 : decode cMo_isRightWrong 93 = .ok (.if_icmp .ne 12, 3) := by decide +kernel
theorem dMo_isRightWrong_96 : decode cMo_isRightWrong 96 = .ok (.iload 6, 2) := by decide +kernel
theorem dMo_isRightWrong_98 : decode cMo_isRightWrong 98 = .ok (.ifCond .ne 7, 3) := by decide +kernel
theorem dMo_isRightWrong_101 : decode cMo_isRightWrong 101 = .ok (.iconst 1, 1) := by decide +kernel
theorem dMo_isRightWrong_102 : decode cMo_isRightWrong 102 = .ok (.goto 4, 3) := by decide +kernel
theorem dMo_isRightWrong_105 : decode cMo_isRightWrong 105 = .ok (.iconst 0, 1) := by decide +kernel
theorem dMo_isRightWrong_106 : decode cMo_isRightWrong 106 = .ok (.istore_n 1, 1) := by decide +kernel
theorem dMo_isRightWrong_107 : decode cMo_isRightWrong 107 = .ok (.iinc 2 1, 3) := by decide +kernel
theorem dMo_isRightWrong_110 : decode cMo_isRightWrong 110 = .ok (.goto (-106), 3) := by decide +kernel
theorem dMo_isRightWrong_113 : decode cMo_isRightWrong 113 = .ok (.iload_n 1, 1) := by decide +kernel
theorem dMo_isRightWrong_114 : decode cMo_isRightWrong 114 = .ok (.ireturn, 1) := by decide +kernel

def f_Mo_isRightWrong_78 (r_4 : Int32 → Int32 → Int32) (oS_men : Nat → Int32) (oS_rights : Int32) (v1_4 : Int32) (v2_4 : Int32) (k0_37 : Int32) (k0_78 : Int32) : Int32 :=
  (if v1_4 = 0 then (if ((oS_rights >>> (v2_4 &&& 31)) &&& 1) = 1 then (if k0_78 = 0 then r_4 1 (v2_4 + 1) else r_4 0 (v2_4 + 1)) else r_4 0 (v2_4 + 1)) else r_4 1 (v2_4 + 1))
theorem f_Mo_isRightWrong_78_eq (r_4 : Int32 → Int32 → Int32) (oS_men : Nat → Int32) (oS_rights : Int32) (v1_4 : Int32) (v2_4 : Int32) (k0_37 : Int32) (k0_78 : Int32) : f_Mo_isRightWrong_78 r_4 oS_men oS_rights v1_4 v2_4 k0_37 k0_78 =
  (if v1_4 = 0 then (if ((oS_rights >>> (v2_4 &&& 31)) &&& 1) = 1 then (if k0_78 = 0 then r_4 1 (v2_4 + 1) else r_4 0 (v2_4 + 1)) else r_4 0 (v2_4 + 1)) else r_4 1 (v2_4 + 1)) := rfl

def f_Mo_isRightWrong_77 (r_4 : Int32 → Int32 → Int32) (oS_men : Nat → Int32) (oS_rights : Int32) (v1_4 : Int32) (v2_4 : Int32) (k0_37 : Int32) : Int32 :=
  f_Mo_isRightWrong_78 r_4 oS_men oS_rights v1_4 v2_4 k0_37 0
theorem f_Mo_isRightWrong_77_eq (r_4 : Int32 → Int32 → Int32) (oS_men : Nat → Int32) (oS_rights : Int32) (v1_4 : Int32) (v2_4 : Int32) (k0_37 : Int32) : f_Mo_isRightWrong_77 r_4 oS_men oS_rights v1_4 v2_4 k0_37 =
  f_Mo_isRightWrong_78 r_4 oS_men oS_rights v1_4 v2_4 k0_37 0 := rfl

def f_Mo_isRightWrong_37 (r_4 : Int32 → Int32 → Int32) (oS_men : Nat → Int32) (oS_rights : Int32) (v1_4 : Int32) (v2_4 : Int32) (k0_37 : Int32) : Int32 :=
  (if (oS_men ((56 * (v2_4 / 2)) + 4).toNatClampNeg) = (6 + (8 * (v2_4 / 2))) then (if (oS_men ((56 * (v2_4 / 2)) + k0_37).toNatClampNeg) = (4 + (8 * (v2_4 / 2))) then f_Mo_isRightWrong_78 r_4 oS_men oS_rights v1_4 v2_4 k0_37 1 else f_Mo_isRightWrong_77 r_4 oS_men oS_rights v1_4 v2_4 k0_37) else f_Mo_isRightWrong_77 r_4 oS_men oS_rights v1_4 v2_4 k0_37)
theorem f_Mo_isRightWrong_37_eq (r_4 : Int32 → Int32 → Int32) (oS_men : Nat → Int32) (oS_rights : Int32) (v1_4 : Int32) (v2_4 : Int32) (k0_37 : Int32) : f_Mo_isRightWrong_37 r_4 oS_men oS_rights v1_4 v2_4 k0_37 =
  (if (oS_men ((56 * (v2_4 / 2)) + 4).toNatClampNeg) = (6 + (8 * (v2_4 / 2))) then (if (oS_men ((56 * (v2_4 / 2)) + k0_37).toNatClampNeg) = (4 + (8 * (v2_4 / 2))) then f_Mo_isRightWrong_78 r_4 oS_men oS_rights v1_4 v2_4 k0_37 1 else f_Mo_isRightWrong_77 r_4 oS_men oS_rights v1_4 v2_4 k0_37) else f_Mo_isRightWrong_77 r_4 oS_men oS_rights v1_4 v2_4 k0_37) := rfl

def f_Mo_isRightWrong_4 (oS_men : Nat → Int32) (oS_rights : Int32) : Nat → Int32 → Int32 → Int32
  | 0 => fun _ _ => 0
  | n_4 + 1 => fun v1_4 v2_4 => (if 4 ≤ v2_4 then v1_4 else (if (v2_4 - v2_4 / 2 * 2) = 0 then f_Mo_isRightWrong_37 (f_Mo_isRightWrong_4 oS_men oS_rights n_4) oS_men oS_rights v1_4 v2_4 7 else f_Mo_isRightWrong_37 (f_Mo_isRightWrong_4 oS_men oS_rights n_4) oS_men oS_rights v1_4 v2_4 0))
theorem f_Mo_isRightWrong_4_eq (oS_men : Nat → Int32) (oS_rights : Int32) (n_4 : Nat) (v1_4 : Int32) (v2_4 : Int32) : f_Mo_isRightWrong_4 oS_men oS_rights (n_4 + 1) v1_4 v2_4 =
  (if 4 ≤ v2_4 then v1_4 else (if (v2_4 - v2_4 / 2 * 2) = 0 then f_Mo_isRightWrong_37 (f_Mo_isRightWrong_4 oS_men oS_rights n_4) oS_men oS_rights v1_4 v2_4 7 else f_Mo_isRightWrong_37 (f_Mo_isRightWrong_4 oS_men oS_rights n_4) oS_men oS_rights v1_4 v2_4 0)) := rfl

def f_Mo_isRightWrong (oS_men : Nat → Int32) (oS_rights : Int32) : Int32 :=
  f_Mo_isRightWrong_4 oS_men oS_rights (5) 0 0
theorem f_Mo_isRightWrong_eq (oS_men : Nat → Int32) (oS_rights : Int32) : f_Mo_isRightWrong oS_men oS_rights =
  f_Mo_isRightWrong_4 oS_men oS_rights (5) 0 0 := rfl

set_option maxHeartbeats 4000000 in
set_option maxRecDepth 100000 in
theorem c_Mo_isRightWrong (l : Launch) (dC : Nat → ClassId) (dI : Nat → Nat → Nat) (cI cJ cC : ClassId) (ad : Nat → Nat) (o o_text o_out o_men o_pastMen o_pastSide o_pastRights o_pastPassed o_pastClock o_pastNumber o_pastTakes o_playedMoves o_keptMen o_keptRest o_lists o_counts : Nat) (oS_thrown : Int32) (oS_typed : Int32) (oS_text : Nat → Int32) (oS_told : Int32) (oS_out : Nat → Int32) (oS_men : Nat → Int32) (oS_side : Int32) (oS_rights : Int32) (oS_passed : Int32) (oS_clock : Int32) (oS_number : Int32) (oS_plies : Int32) (oS_pastMen : Nat → Int32) (oS_pastSide : Nat → Int32) (oS_pastRights : Nat → Int32) (oS_pastPassed : Nat → Int32) (oS_pastClock : Nat → Int32) (oS_pastNumber : Nat → Int32) (oS_pastTakes : Nat → Int64) (oS_playedMoves : Nat → Int32) (oS_keptMen : Nat → Int32) (oS_keptRest : Nat → Int32) (oS_lists : Nat → Int32) (oS_counts : Nat → Int32) : Met l yMo_isRightWrong wsMo_isRightWrong { frames := 0, cells := 0, slots := 0, locals := 0 } (roP dC dI (TYS cI cJ cC) [.ref o] [(o, .inr (6, [.int oS_thrown, .int oS_typed, .ref o_text, .int oS_told, .ref o_out, .ref o_men, .int oS_side, .int oS_rights, .int oS_passed, .int oS_clock, .int oS_number, .int oS_plies, .ref o_pastMen, .ref o_pastSide, .ref o_pastRights, .ref o_pastPassed, .ref o_pastClock, .ref o_pastNumber, .ref o_pastTakes, .ref o_playedMoves, .ref o_keptMen, .ref o_keptRest, .ref o_lists, .ref o_counts])), (o_text, .inl (cC, 100, .inl oS_text)), (o_out, .inl (cC, 100, .inl oS_out)), (o_men, .inl (cI, 64, .inl oS_men)), (o_pastMen, .inl (cI, 25664, .inl oS_pastMen)), (o_pastSide, .inl (cI, 401, .inl oS_pastSide)), (o_pastRights, .inl (cI, 401, .inl oS_pastRights)), (o_pastPassed, .inl (cI, 401, .inl oS_pastPassed)), (o_pastClock, .inl (cI, 401, .inl oS_pastClock)), (o_pastNumber, .inl (cI, 401, .inl oS_pastNumber)), (o_pastTakes, .inl (cJ, 401, .inr (.inl oS_pastTakes))), (o_playedMoves, .inl (cI, 400, .inl oS_playedMoves)), (o_keptMen, .inl (cI, 384, .inl oS_keptMen)), (o_keptRest, .inl (cI, 30, .inl oS_keptRest)), (o_lists, .inl (cI, 8192, .inl oS_lists)), (o_counts, .inl (cI, 4, .inl oS_counts))] (GS ad)) (vp_Si (fun r => r = f_Mo_isRightWrong oS_men oS_rights)) 0 0 (fun _ => False) := by
  refine Met.ofW (cc := cMo_isRightWrong) (maxL := 7) (ret := (some .boolean)) (by decide) rfl ?_
  intro p e s m args below meth c s₁ B hml hv
  obtain ⟨rfl, hP, hK, hG⟩ := hv
  have hx := B.exec
  have hb := B.bytes
  have hr := B.returns
  have hB : ∀ w9 ∈ BIG, w9.before ([.ref o]).toArray s = true := fun w9 h => atoms_spec (ws := wsMo_isRightWrong) B.pre w9 (List.mem_cons_of_mem _ h)
  have hown : s.vm.findClass "ChessRulesModel" = some m.cls := findClass_of_methodNamed B.named
  have hlocks := B.notSynchronized
  have hS : va_S (fun _ => False) s.heap s.heap [] := va_S.rf
  have hP : va_P (dC, dI) vwCl [(o, .inr (6, [.int oS_thrown, .int oS_typed, .ref o_text, .int oS_told, .ref o_out, .ref o_men, .int oS_side, .int oS_rights, .int oS_passed, .int oS_clock, .int oS_number, .int oS_plies, .ref o_pastMen, .ref o_pastSide, .ref o_pastRights, .ref o_pastPassed, .ref o_pastClock, .ref o_pastNumber, .ref o_pastTakes, .ref o_playedMoves, .ref o_keptMen, .ref o_keptRest, .ref o_lists, .ref o_counts])), (o_text, .inl (cC, 100, .inl oS_text)), (o_out, .inl (cC, 100, .inl oS_out)), (o_men, .inl (cI, 64, .inl oS_men)), (o_pastMen, .inl (cI, 25664, .inl oS_pastMen)), (o_pastSide, .inl (cI, 401, .inl oS_pastSide)), (o_pastRights, .inl (cI, 401, .inl oS_pastRights)), (o_pastPassed, .inl (cI, 401, .inl oS_pastPassed)), (o_pastClock, .inl (cI, 401, .inl oS_pastClock)), (o_pastNumber, .inl (cI, 401, .inl oS_pastNumber)), (o_pastTakes, .inl (cJ, 401, .inr (.inl oS_pastTakes))), (o_playedMoves, .inl (cI, 400, .inl oS_playedMoves)), (o_keptMen, .inl (cI, 384, .inl oS_keptMen)), (o_keptRest, .inl (cI, 30, .inl oS_keptRest)), (o_lists, .inl (cI, 8192, .inl oS_lists)), (o_counts, .inl (cI, 4, .inl oS_counts))] s.heap := hP
  have hl := lv_entry ([.ref o]) (n := 7) (Nat.le_of_ble_eq_true rfl)
  rw [lg_entry_eq]
  generalize (lg_sl ([.ref o]) ++ List.replicate (7 - (lg_sl ([.ref o])).length) Slot.unset).toArray = ls at hl ⊢
  have hl : lv_has ls 7 [(0, .ref o)] := hl
  refine lv_iconst (v := 0) hx hb dMo_isRightWrong_0 (by decide) ?_
  refine lv_istore_n (lv' := [(1, .int 0), (0, .ref o)]) hx hb dMo_isRightWrong_1 rfl hl (by decide) rfl (fun ls hl => ?_)
  refine lv_iconst (v := 0) hx hb dMo_isRightWrong_2 (by decide) ?_
  refine lv_istore_n (lv' := [(2, .int 0), (1, .int 0), (0, .ref o)]) hx hb dMo_isRightWrong_3 rfl hl (by decide) rfl (fun ls hl => ?_)
  have J_4 : ∀ (n_4 : Nat) (v1_4 : Int32) (v2_4 : Int32), f_Mo_isRightWrong oS_men oS_rights = f_Mo_isRightWrong_4 oS_men oS_rights n_4 v1_4 v2_4 → ((0 : Int) ≤ v2_4.toInt ∧ (4 : Int32).toInt - v2_4.toInt + 1 ≤ (n_4 : Int) ∧ (1 : Int) ≤ (n_4 : Int)) → (v1_4 = 0 ∨ v1_4 = 1) → ∀ ls : Array Slot, lv_has ls 7 [(0, .ref o), (1, .int v1_4), (2, .int v2_4)] → W p l e (headSpec wsMo_isRightWrong { frames := 0, cells := 0, slots := 0, locals := 0 }).room s m ([.ref o]).toArray below meth c s.heap [] 0 0 (MQ below (vp_Si (fun r => r = f_Mo_isRightWrong oS_men oS_rights)) ([.ref o]).toArray s 0 0 (fun _ => False)) (F0 m 4 ls []) := by
    intro n_4
    induction n_4 with
    | zero => intro v1_4 v2_4 _ hm_4; exact absurd hm_4 (by omega)
    | succ n_4 ih_4 =>
      intro v1_4 v2_4 he_4 hm_4 hi_4 ls hl
      refine lv_iload_n hx hb dMo_isRightWrong_4 rfl (lv_at hl 2 rfl) ?_
      refine lv_iconst (v := 4) hx hb dMo_isRightWrong_5 (by decide) ?_
      refine lv_icmp_ge (tgt := 113) hx hb dMo_isRightWrong_6 (by decide) (fun c_1 => ?_) (fun c_1 => ?_)
      · refine lv_iload_n hx hb dMo_isRightWrong_113 rfl (lv_at hl 1 rfl) ?_
        exact ro_retz hx hb hr (nar01 hi_4) hlocks dMo_isRightWrong_114 (Eq.symm (he_4.trans (by rw [f_Mo_isRightWrong_4_eq, if_pos c_1] <;> rfl)))
      · refine lv_iload_n hx hb dMo_isRightWrong_9 rfl (lv_at hl 2 rfl) ?_
        refine lv_iconst (v := 2) hx hb dMo_isRightWrong_10 (by decide) ?_
        refine lv_idiv hx hb dMo_isRightWrong_11 (by decide) ?_
        refine lv_istore_n (lv' := [(3, .int (v2_4 / 2)), (0, .ref o), (1, .int v1_4), (2, .int v2_4)]) hx hb dMo_isRightWrong_12 rfl hl (by decide) rfl (fun ls hl => ?_)
        refine lv_bipush (v := 56) hx hb dMo_isRightWrong_13 (by decide) ?_
        refine lv_iload_n hx hb dMo_isRightWrong_15 rfl (lv_at hl 0 rfl) ?_
        refine lv_imul hx hb dMo_isRightWrong_16 ?_
        refine lv_iconst (v := 4) hx hb dMo_isRightWrong_17 (by decide) ?_
        refine lv_iadd hx hb dMo_isRightWrong_18 ?_
        refine lv_istore (lv' := [(4, .int ((56 * (v2_4 / 2)) + 4)), (3, .int (v2_4 / 2)), (0, .ref o), (1, .int v1_4), (2, .int v2_4)]) hx hb dMo_isRightWrong_19 hl (by decide) rfl (fun ls hl => ?_)
        refine lv_bipush (v := 56) hx hb dMo_isRightWrong_21 (by decide) ?_
        refine lv_iload_n hx hb dMo_isRightWrong_23 rfl (lv_at hl 1 rfl) ?_
        refine lv_imul hx hb dMo_isRightWrong_24 ?_
        refine lv_iload_n hx hb dMo_isRightWrong_25 rfl (lv_at hl 4 rfl) ?_
        refine lv_iconst (v := 2) hx hb dMo_isRightWrong_26 (by decide) ?_
        refine lv_irem hx hb dMo_isRightWrong_27 (by decide) ?_
        have J_37 : ∀ (k0_37 : Int32), f_Mo_isRightWrong oS_men oS_rights = f_Mo_isRightWrong_37 (f_Mo_isRightWrong_4 oS_men oS_rights n_4) oS_men oS_rights v1_4 v2_4 k0_37 → (k0_37 ∈ ([7, 0, 4] : List Int32)) → ∀ ls : Array Slot, lv_has ls 7 [(0, .ref o), (1, .int v1_4), (2, .int v2_4), (3, .int (v2_4 / 2)), (4, .int ((56 * (v2_4 / 2)) + 4))] → W p l e (headSpec wsMo_isRightWrong { frames := 0, cells := 0, slots := 0, locals := 0 }).room s m ([.ref o]).toArray below meth c s.heap [] 0 0 (MQ below (vp_Si (fun r => r = f_Mo_isRightWrong oS_men oS_rights)) ([.ref o]).toArray s 0 0 (fun _ => False)) (F0 m 37 ls [.int k0_37, .int (56 * (v2_4 / 2))]) := by
          intro k0_37 he_37 hi_37 ls hl
          refine lv_iadd hx hb dMo_isRightWrong_37 ?_
          refine lv_istore (lv' := [(5, .int ((56 * (v2_4 / 2)) + k0_37)), (0, .ref o), (1, .int v1_4), (2, .int v2_4), (3, .int (v2_4 / 2)), (4, .int ((56 * (v2_4 / 2)) + 4))]) hx hb dMo_isRightWrong_38 hl (by decide) rfl (fun ls hl => ?_)
          refine lv_aload_n hx hb dMo_isRightWrong_40 rfl (lv_at hl 1 rfl) ?_
          refine va_get (D := (dC, dI)) (ci := 6) (v := .ref o_men) (C := RMo) (T := TMo) (N := 24) hx hb hB inMo hown hK hP 0 rfl rfl 5 (by decide) (hB _ q5_16) (fun _ h9 => h9) rfl dMo_isRightWrong_41 ?_
          refine lv_iload hx hb dMo_isRightWrong_44 (lv_at hl 5 rfl) ?_
          refine va_iald hx hb hK hP 3 0 rfl rfl (rk_in (by have z1 := tnle c_1; have y4 : (4 : Int32).toInt = 4 := rfl; omega) (by simp)) dMo_isRightWrong_46 ?_
          refine lv_bipush (v := 6) hx hb dMo_isRightWrong_47 (by decide) ?_
          refine lv_bipush (v := 8) hx hb dMo_isRightWrong_49 (by decide) ?_
          refine lv_iload_n hx hb dMo_isRightWrong_51 rfl (lv_at hl 4 rfl) ?_
          refine lv_imul hx hb dMo_isRightWrong_52 ?_
          refine lv_iadd hx hb dMo_isRightWrong_53 ?_
          have J_78 : ∀ (k0_78 : Int32), f_Mo_isRightWrong oS_men oS_rights = f_Mo_isRightWrong_78 (f_Mo_isRightWrong_4 oS_men oS_rights n_4) oS_men oS_rights v1_4 v2_4 k0_37 k0_78 → ∀ ls : Array Slot, lv_has ls 7 [(0, .ref o), (1, .int v1_4), (2, .int v2_4)] → W p l e (headSpec wsMo_isRightWrong { frames := 0, cells := 0, slots := 0, locals := 0 }).room s m ([.ref o]).toArray below meth c s.heap [] 0 0 (MQ below (vp_Si (fun r => r = f_Mo_isRightWrong oS_men oS_rights)) ([.ref o]).toArray s 0 0 (fun _ => False)) (F0 m 78 ls [.int k0_78]) := by
            intro k0_78 he_78 ls hl
            refine lv_istore (lv' := [(6, .int k0_78), (0, .ref o), (1, .int v1_4), (2, .int v2_4)]) hx hb dMo_isRightWrong_78 hl (by decide) rfl (fun ls hl => ?_)
            refine lv_iload_n hx hb dMo_isRightWrong_80 rfl (lv_at hl 2 rfl) ?_
            refine lv_if_ne (tgt := 101) hx hb dMo_isRightWrong_81 (by decide) (fun c_2 => ?_) (fun c_2 => ?_)
            · refine lv_iconst (v := 1) hx hb dMo_isRightWrong_101 (by decide) ?_
              refine lv_goto (tgt := 106) hx hb dMo_isRightWrong_102 (by decide) ?_
              refine lv_istore_n (lv' := [(1, .int 1), (6, .int k0_78), (0, .ref o), (2, .int v2_4)]) hx hb dMo_isRightWrong_106 rfl hl (by decide) rfl (fun ls hl => ?_)
              refine lv_iinc (v := v2_4 + 1) (lv' := [(2, .int (v2_4 + 1)), (1, .int 1), (6, .int k0_78), (0, .ref o)]) hx hb dMo_isRightWrong_107 hl (k := 3) rfl rfl (by decide) rfl (fun ls hl => ?_)
              refine lv_goto (tgt := 4) hx hb dMo_isRightWrong_110 (by decide) ?_
              exact ih_4 1 (v2_4 + 1) (he_78.trans (by rw [f_Mo_isRightWrong_78_eq, if_neg c_2] <;> rfl)) (by have z1 := tnle c_1; have z2 := tne c_2; have y0 : (0 : Int32).toInt = 0 := rfl; have y4 : (4 : Int32).toInt = 4 := rfl; have zr := i_rng (4 : Int32); have zs := i_succ9 v2_4 (by omega); omega) (by first | exact Or.inl rfl | exact Or.inr rfl | exact hi_4) ls (lv_sub hl [3, 1, 0] rfl)
            · refine lv_aload_n hx hb dMo_isRightWrong_84 rfl (lv_at hl 1 rfl) ?_
              refine va_get (D := (dC, dI)) (ci := 6) (v := .int oS_rights) (C := RMo) (T := TMo) (N := 24) hx hb hB inMo hown hK hP 0 rfl rfl 7 (by decide) (hB _ q5_18) (fun _ h9 => h9) rfl dMo_isRightWrong_85 ?_
              refine lv_iload_n hx hb dMo_isRightWrong_88 rfl (lv_at hl 3 rfl) ?_
              refine lv_ishr hx hb dMo_isRightWrong_89 ?_
              refine lv_iconst (v := 1) hx hb dMo_isRightWrong_90 (by decide) ?_
              refine lv_iand hx hb dMo_isRightWrong_91 ?_
              refine lv_iconst (v := 1) hx hb dMo_isRightWrong_92 (by decide) ?_
              refine lv_icmp_ne (tgt := 105) hx hb dMo_isRightWrong_93 (by decide) (fun c_3 => ?_) (fun c_3 => ?_)
              · refine lv_iconst (v := 0) hx hb dMo_isRightWrong_105 (by decide) ?_
                refine lv_istore_n (lv' := [(1, .int 0), (6, .int k0_78), (0, .ref o), (2, .int v2_4)]) hx hb dMo_isRightWrong_106 rfl hl (by decide) rfl (fun ls hl => ?_)
                refine lv_iinc (v := v2_4 + 1) (lv' := [(2, .int (v2_4 + 1)), (1, .int 0), (6, .int k0_78), (0, .ref o)]) hx hb dMo_isRightWrong_107 hl (k := 3) rfl rfl (by decide) rfl (fun ls hl => ?_)
                refine lv_goto (tgt := 4) hx hb dMo_isRightWrong_110 (by decide) ?_
                exact ih_4 0 (v2_4 + 1) (he_78.trans (by rw [f_Mo_isRightWrong_78_eq, if_pos c_2, if_neg c_3] <;> rfl)) (by have z1 := tnle c_1; have z2 := teq c_2; have z3 := tne c_3; have y0 : (0 : Int32).toInt = 0 := rfl; have y1 : (1 : Int32).toInt = 1 := rfl; have y4 : (4 : Int32).toInt = 4 := rfl; have y31 : (31 : Int32).toInt = 31 := rfl; have zr := i_rng (4 : Int32); have zs := i_succ9 v2_4 (by omega); omega) (by first | exact Or.inl rfl | exact Or.inr rfl | exact hi_4) ls (lv_sub hl [3, 1, 0] rfl)
              · refine lv_iload hx hb dMo_isRightWrong_96 (lv_at hl 0 rfl) ?_
                refine lv_if_ne (tgt := 105) hx hb dMo_isRightWrong_98 (by decide) (fun c_4 => ?_) (fun c_4 => ?_)
                · refine lv_iconst (v := 0) hx hb dMo_isRightWrong_105 (by decide) ?_
                  refine lv_istore_n (lv' := [(1, .int 0), (6, .int k0_78), (0, .ref o), (2, .int v2_4)]) hx hb dMo_isRightWrong_106 rfl hl (by decide) rfl (fun ls hl => ?_)
                  refine lv_iinc (v := v2_4 + 1) (lv' := [(2, .int (v2_4 + 1)), (1, .int 0), (6, .int k0_78), (0, .ref o)]) hx hb dMo_isRightWrong_107 hl (k := 3) rfl rfl (by decide) rfl (fun ls hl => ?_)
                  refine lv_goto (tgt := 4) hx hb dMo_isRightWrong_110 (by decide) ?_
                  exact ih_4 0 (v2_4 + 1) (he_78.trans (by rw [f_Mo_isRightWrong_78_eq, if_pos c_2, if_pos c_3, if_neg c_4] <;> rfl)) (by have z1 := tnle c_1; have z2 := teq c_2; have z3 := teq c_3; have z4 := tne c_4; have y0 : (0 : Int32).toInt = 0 := rfl; have y1 : (1 : Int32).toInt = 1 := rfl; have y4 : (4 : Int32).toInt = 4 := rfl; have y31 : (31 : Int32).toInt = 31 := rfl; have zr := i_rng (4 : Int32); have zs := i_succ9 v2_4 (by omega); omega) (by first | exact Or.inl rfl | exact Or.inr rfl | exact hi_4) ls (lv_sub hl [3, 1, 0] rfl)
                · refine lv_iconst (v := 1) hx hb dMo_isRightWrong_101 (by decide) ?_
                  refine lv_goto (tgt := 106) hx hb dMo_isRightWrong_102 (by decide) ?_
                  refine lv_istore_n (lv' := [(1, .int 1), (6, .int k0_78), (0, .ref o), (2, .int v2_4)]) hx hb dMo_isRightWrong_106 rfl hl (by decide) rfl (fun ls hl => ?_)
                  refine lv_iinc (v := v2_4 + 1) (lv' := [(2, .int (v2_4 + 1)), (1, .int 1), (6, .int k0_78), (0, .ref o)]) hx hb dMo_isRightWrong_107 hl (k := 3) rfl rfl (by decide) rfl (fun ls hl => ?_)
                  refine lv_goto (tgt := 4) hx hb dMo_isRightWrong_110 (by decide) ?_
                  exact ih_4 1 (v2_4 + 1) (he_78.trans (by rw [f_Mo_isRightWrong_78_eq, if_pos c_2, if_pos c_3, if_pos c_4] <;> rfl)) (by have z1 := tnle c_1; have z2 := teq c_2; have z3 := teq c_3; have z4 := teq c_4; have y0 : (0 : Int32).toInt = 0 := rfl; have y1 : (1 : Int32).toInt = 1 := rfl; have y4 : (4 : Int32).toInt = 4 := rfl; have y31 : (31 : Int32).toInt = 31 := rfl; have zr := i_rng (4 : Int32); have zs := i_succ9 v2_4 (by omega); omega) (by first | exact Or.inl rfl | exact Or.inr rfl | exact hi_4) ls (lv_sub hl [3, 1, 0] rfl)
          have J_77 : f_Mo_isRightWrong oS_men oS_rights = f_Mo_isRightWrong_77 (f_Mo_isRightWrong_4 oS_men oS_rights n_4) oS_men oS_rights v1_4 v2_4 k0_37 → ∀ ls : Array Slot, lv_has ls 7 [(0, .ref o), (1, .int v1_4), (2, .int v2_4)] → W p l e (headSpec wsMo_isRightWrong { frames := 0, cells := 0, slots := 0, locals := 0 }).room s m ([.ref o]).toArray below meth c s.heap [] 0 0 (MQ below (vp_Si (fun r => r = f_Mo_isRightWrong oS_men oS_rights)) ([.ref o]).toArray s 0 0 (fun _ => False)) (F0 m 77 ls []) := by
            intro he_77 ls hl
            refine lv_iconst (v := 0) hx hb dMo_isRightWrong_77 (by decide) ?_
            exact J_78 0 (he_77.trans (by rw [f_Mo_isRightWrong_77_eq] <;> rfl)) ls (lv_sub hl [0, 1, 2] rfl)
          refine lv_icmp_ne (tgt := 77) hx hb dMo_isRightWrong_54 (by decide) (fun c_5 => ?_) (fun c_5 => ?_)
          · exact J_77 (he_37.trans (by rw [f_Mo_isRightWrong_37_eq, if_neg c_5] <;> rfl)) ls (lv_sub hl [1, 2, 3] rfl)
          · refine lv_aload_n hx hb dMo_isRightWrong_57 rfl (lv_at hl 1 rfl) ?_
            refine va_get (D := (dC, dI)) (ci := 6) (v := .ref o_men) (C := RMo) (T := TMo) (N := 24) hx hb hB inMo hown hK hP 0 rfl rfl 5 (by decide) (hB _ q5_16) (fun _ h9 => h9) rfl dMo_isRightWrong_58 ?_
            refine lv_iload hx hb dMo_isRightWrong_61 (lv_at hl 0 rfl) ?_
            refine va_iald hx hb hK hP 3 0 rfl rfl (rk_in (by have z1 := tnle c_1; have z2 := teq c_5; have y2 : (2 : Int32).toInt = 2 := rfl; have y4 : (4 : Int32).toInt = 4 := rfl; have y6 : (6 : Int32).toInt = 6 := rfl; have y8 : (8 : Int32).toInt = 8 := rfl; have y56 : (56 : Int32).toInt = 56 := rfl; omega) hi_37) dMo_isRightWrong_63 ?_
            refine lv_iconst (v := 4) hx hb dMo_isRightWrong_64 (by decide) ?_
            refine lv_bipush (v := 8) hx hb dMo_isRightWrong_65 (by decide) ?_
            refine lv_iload_n hx hb dMo_isRightWrong_67 rfl (lv_at hl 4 rfl) ?_
            refine lv_imul hx hb dMo_isRightWrong_68 ?_
            refine lv_iadd hx hb dMo_isRightWrong_69 ?_
            refine lv_icmp_ne (tgt := 77) hx hb dMo_isRightWrong_70 (by decide) (fun c_6 => ?_) (fun c_6 => ?_)
            · exact J_77 (he_37.trans (by rw [f_Mo_isRightWrong_37_eq, if_pos c_5, if_neg c_6] <;> rfl)) ls (lv_sub hl [1, 2, 3] rfl)
            · refine lv_iconst (v := 1) hx hb dMo_isRightWrong_73 (by decide) ?_
              refine lv_goto (tgt := 78) hx hb dMo_isRightWrong_74 (by decide) ?_
              exact J_78 1 (he_37.trans (by rw [f_Mo_isRightWrong_37_eq, if_pos c_5, if_pos c_6] <;> rfl)) ls (lv_sub hl [1, 2, 3] rfl)
        refine lv_if_ne (tgt := 36) hx hb dMo_isRightWrong_28 (by decide) (fun c_7 => ?_) (fun c_7 => ?_)
        · refine lv_iconst (v := 0) hx hb dMo_isRightWrong_36 (by decide) ?_
          exact J_37 0 (he_4.trans (by rw [f_Mo_isRightWrong_4_eq, if_neg c_1, if_neg c_7] <;> rfl)) (by simp) ls (lv_sub hl [2, 3, 4, 1, 0] rfl)
        · refine lv_bipush (v := 7) hx hb dMo_isRightWrong_31 (by decide) ?_
          refine lv_goto (tgt := 37) hx hb dMo_isRightWrong_33 (by decide) ?_
          exact J_37 7 (he_4.trans (by rw [f_Mo_isRightWrong_4_eq, if_neg c_1, if_pos c_7] <;> rfl)) (by simp) ls (lv_sub hl [2, 3, 4, 1, 0] rfl)
  exact J_4 (5) 0 0 (by rw [f_Mo_isRightWrong_eq] <;> rfl) (by decide) (Or.inl rfl) ls (lv_sub hl [2, 1, 0] rfl)

abbrev cMo_isPassedWrong : ByteArray := prog_11_method_55_code
def yMo_isPassedWrong : MethodName := ⟨"ChessRulesModel", "isPassedWrong", "()Z"⟩
def wsMo_isPassedWrong : List Cond := Cond.code yMo_isPassedWrong cMo_isPassedWrong 4 (some .boolean) :: BIG
theorem dMo_isPassedWrong_0 : decode cMo_isPassedWrong 0 = .ok (.aload_n 0, 1) := by decide +kernel
theorem dMo_isPassedWrong_1 : decode cMo_isPassedWrong 1 = .ok (.getfield 24, 3) := by decide +kernel
theorem dMo_isPassedWrong_4 : decode cMo_isPassedWrong 4 = .ok (.ifCond .ge 5, 3) := by decide +kernel
theorem dMo_isPassedWrong_7 : decode cMo_isPassedWrong 7 = .ok (.iconst 0, 1) := by decide +kernel
theorem dMo_isPassedWrong_8 : decode cMo_isPassedWrong 8 = .ok (.ireturn, 1) := by decide +kernel
theorem dMo_isPassedWrong_9 : decode cMo_isPassedWrong 9 = .ok (.aload_n 0, 1) := by decide +kernel
theorem dMo_isPassedWrong_10 : decode cMo_isPassedWrong 10 = .ok (.getfield 16, 3) := by decide +kernel
theorem dMo_isPassedWrong_13 : decode cMo_isPassedWrong 13 = .ok (.aload_n 0, 1) := by decide +kernel
theorem dMo_isPassedWrong_14 : decode cMo_isPassedWrong 14 = .ok (.getfield 24, 3) := by decide +kernel
theorem dMo_isPassedWrong_17 : decode cMo_isPassedWrong 17 = .ok (.iaload, 1) := by decide +kernel
theorem dMo_isPassedWrong_18 : decode cMo_isPassedWrong 18 = .ok (.ifCond .ne 25, 3) := by decide +kernel
theorem dMo_isPassedWrong_21 : decode cMo_isPassedWrong 21 = .ok (.aload_n 0, 1) := by decide +kernel
theorem dMo_isPassedWrong_22 : decode cMo_isPassedWrong 22 = .ok (.getfield 24, 3) := by decide +kernel
theorem dMo_isPassedWrong_25 : decode cMo_isPassedWrong 25 = .ok (.bipush 8, 2) := by decide +kernel
theorem dMo_isPassedWrong_27 : decode cMo_isPassedWrong 27 = .ok (.idiv, 1) := by decide +kernel
theorem dMo_isPassedWrong_28 : decode cMo_isPassedWrong 28 = .ok (.aload_n 0, 1) := by decide +kernel
theorem dMo_isPassedWrong_29 : decode cMo_isPassedWrong 29 = .ok (.getfield 106, 3) := by decide +kernel
theorem dMo_isPassedWrong_32 : decode cMo_isPassedWrong 32 = .ok (.ifCond .ne 7, 3) := by decide +kernel
theorem dMo_isPassedWrong_35 : decode cMo_isPassedWrong 35 = .ok (.iconst 5, 1) := by decide +kernel
theorem dMo_isPassedWrong_36 : decode cMo_isPassedWrong 36 = .ok (.goto 4, 3) := by decide +kernel
theorem dMo_isPassedWrong_39 : decode cMo_isPassedWrong 39 = .ok (.iconst 2, 1) := by decide +kernel
theorem dMo_isPassedWrong_40 : decode cMo_isPassedWrong 40 = .ok (.if_icmp .eq 5, 3) := by decide +kernel
theorem dMo_isPassedWrong_43 : decode cMo_isPassedWrong 43 = .ok (.iconst 1, 1) := by decide +kernel
theorem dMo_isPassedWrong_44 : decode cMo_isPassedWrong 44 = .ok (.ireturn, 1) := by decide +kernel
theorem dMo_isPassedWrong_45 : decode cMo_isPassedWrong 45 = .ok (.aload_n 0, 1) := by decide +kernel
theorem dMo_isPassedWrong_46 : decode cMo_isPassedWrong 46 = .ok (.getfield 106, 3) := by decide +kernel
theorem dMo_isPassedWrong_49 : decode cMo_isPassedWrong 49 = .ok (.ifCond .ne 8, 3) := by decide +kernel
theorem dMo_isPassedWrong_52 : decode cMo_isPassedWrong 52 = .ok (.bipush 8, 2) := by decide +kernel
theorem dMo_isPassedWrong_54 : decode cMo_isPassedWrong 54 = .ok (.goto 5, 3) := by decide +kernel
theorem dMo_isPassedWrong_57 : decode cMo_isPassedWrong 57 = .ok (.bipush (-8), 2) := by decide +kernel
theorem dMo_isPassedWrong_59 : decode cMo_isPassedWrong 59 = .ok (.istore_n 1, 1) := by decide +kernel
theorem dMo_isPassedWrong_60 : decode cMo_isPassedWrong 60 = .ok (.aload_n 0, 1) := by decide +kernel
theorem dMo_isPassedWrong_61 : decode cMo_isPassedWrong 61 = .ok (.getfield 16, 3) := by decide +kernel
theorem dMo_isPassedWrong_64 : decode cMo_isPassedWrong 64 = .ok (.aload_n 0, 1) := by decide +kernel
theorem dMo_isPassedWrong_65 : decode cMo_isPassedWrong 65 = .ok (.getfield 24, 3) := by decide +kernel
theorem dMo_isPassedWrong_68 : decode cMo_isPassedWrong 68 = .ok (.iload_n 1, 1) := by decide +kernel
theorem dMo_isPassedWrong_69 : decode cMo_isPassedWrong 69 = .ok (.isub, 1) := by decide +kernel
theorem dMo_isPassedWrong_70 : decode cMo_isPassedWrong 70 = .ok (.iaload, 1) := by decide +kernel
theorem dMo_isPassedWrong_71 : decode cMo_isPassedWrong 71 = .ok (.iconst 1, 1) := by decide +kernel
theorem dMo_isPassedWrong_72 : decode cMo_isPassedWrong 72 = .ok (.bipush 8, 2) := by decide +kernel
theorem dMo_isPassedWrong_74 : decode cMo_isPassedWrong 74 = .ok (.iconst 1, 1) := by decide +kernel
theorem dMo_isPassedWrong_75 : decode cMo_isPassedWrong 75 = .ok (.aload_n 0, 1) := by decide +kernel
theorem dMo_isPassedWrong_76 : decode cMo_isPassedWrong 76 = .ok (.getfield 106, 3) := by decide +kernel
theorem dMo_isPassedWrong_79 : decode cMo_isPassedWrong 79 = .ok (.isub, 1) := by decide +kernel
theorem dMo_isPassedWrong_80 : decode cMo_isPassedWrong 80 = .ok (.imul, 1) := by decide +kernel
theorem dMo_isPassedWrong_81 : decode cMo_isPassedWrong 81 = .ok (.iadd, 1) := by decide +kernel
theorem dMo_isPassedWrong_82 : decode cMo_isPassedWrong 82 = .ok (.if_icmp .ne 17, 3) := by decide +kernel
theorem dMo_isPassedWrong_85 : decode cMo_isPassedWrong 85 = .ok (.aload_n 0, 1) := by decide +kernel
theorem dMo_isPassedWrong_86 : decode cMo_isPassedWrong 86 = .ok (.getfield 16, 3) := by decide +kernel
theorem dMo_isPassedWrong_89 : decode cMo_isPassedWrong 89 = .ok (.aload_n 0, 1) := by decide +kernel
theorem dMo_isPassedWrong_90 : decode cMo_isPassedWrong 90 = .ok (.getfield 24, 3) := by decide +kernel
theorem dMo_isPassedWrong_93 : decode cMo_isPassedWrong 93 = .ok (.iload_n 1, 1) := by decide +kernel
theorem dMo_isPassedWrong_94 : decode cMo_isPassedWrong 94 = .ok (.iadd, 1) := by decide +kernel
theorem dMo_isPassedWrong_95 : decode cMo_isPassedWrong 95 = .ok (.iaload, 1) := by decide +kernel
theorem dMo_isPassedWrong_96 : decode cMo_isPassedWrong 96 = .ok (.ifCond .eq 5, 3) := by decide +kernel
theorem dMo_isPassedWrong_99 : decode cMo_isPassedWrong 99 = .ok (.iconst 1, 1) := by decide +kernel
theorem dMo_isPassedWrong_100 : decode cMo_isPassedWrong 100 = .ok (.ireturn, 1) := by decide +kernel
theorem dMo_isPassedWrong_101 : decode cMo_isPassedWrong 101 = .ok (.iconst 0, 1) := by decide +kernel
theorem dMo_isPassedWrong_102 : decode cMo_isPassedWrong 102 = .ok (.istore_n 2, 1) := by decide +kernel
theorem dMo_isPassedWrong_103 : decode cMo_isPassedWrong 103 = .ok (.iconst 0, 1) := by decide +kernel
theorem dMo_isPassedWrong_104 : decode cMo_isPassedWrong 104 = .ok (.istore_n 3, 1) := by decide +kernel
theorem dMo_isPassedWrong_105 : decode cMo_isPassedWrong 105 = .ok (.iload_n 3, 1) := by decide +kernel
theorem dMo_isPassedWrong_106 : decode cMo_isPassedWrong 106 = .ok (.bipush 64, 2) := by decide +kernel
theorem dMo_isPassedWrong_108 : decode cMo_isPassedWrong 108 = .ok (.if_icmp .ge 55, 3) := by decide +kernel
theorem dMo_isPassedWrong_111 : decode cMo_isPassedWrong 111 = .ok (.iload_n 2, 1) := by decide +kernel
theorem dMo_isPassedWrong_112 : decode cMo_isPassedWrong 112 = .ok (.ifCond .ne 39, 3) := by decide +kernel
theorem dMo_isPassedWrong_115 : decode cMo_isPassedWrong 115 = .ok (.aload_n 0, 1) := by decide +kernel
theorem dMo_isPassedWrong_116 : decode cMo_isPassedWrong 116 = .ok (.getfield 16, 3) := by decide +kernel
theorem dMo_isPassedWrong_119 : decode cMo_isPassedWrong 119 = .ok (.iload_n 3, 1) := by decide +kernel
theorem dMo_isPassedWrong_120 : decode cMo_isPassedWrong 120 = .ok (.iaload, 1) := by decide +kernel
theorem dMo_isPassedWrong_121 : decode cMo_isPassedWrong 121 = .ok (.iconst 1, 1) := by decide +kernel
theorem dMo_isPassedWrong_122 : decode cMo_isPassedWrong 122 = .ok (.bipush 8, 2) := by decide +kernel
theorem dMo_isPassedWrong_124 : decode cMo_isPassedWrong 124 = .ok (.aload_n 0, 1) := by decide +kernel
theorem dMo_isPassedWrong_125 : decode cMo_isPassedWrong 125 = .ok (.getfield 106, 3) := by decide +kernel
theorem dMo_isPassedWrong_128 : decode cMo_isPassedWrong 128 = .ok (.imul, 1) := by decide +kernel
theorem dMo_isPassedWrong_129 : decode cMo_isPassedWrong 129 = .ok (.iadd, 1) := by decide +kernel
theorem dMo_isPassedWrong_130 : decode cMo_isPassedWrong 130 = .ok (.if_icmp .ne 25, 3) := by decide +kernel
theorem dMo_isPassedWrong_133 : decode cMo_isPassedWrong 133 = .ok (.aload_n 0, 1) := by decide +kernel
theorem dMo_isPassedWrong_134 : decode cMo_isPassedWrong 134 = .ok (.iload_n 3, 1) := by decide +kernel
theorem dMo_isPassedWrong_135 : decode cMo_isPassedWrong 135 = .ok (.invokevirtual 96, 3) := by decide +kernel
theorem dMo_isPassedWrong_138 : decode cMo_isPassedWrong 138 = .ok (.aload_n 0, 1) := by decide +kernel
theorem dMo_isPassedWrong_139 : decode cMo_isPassedWrong 139 = .ok (.getfield 24, 3) := by decide +kernel
theorem dMo_isPassedWrong_142 : decode cMo_isPassedWrong 142 = .ok (.invokestatic 81, 3) := by decide +kernel
theorem dMo_isPassedWrong_145 : decode cMo_isPassedWrong 145 = .ok (.land, 1) := by decide +kernel
theorem dMo_isPassedWrong_146 : decode cMo_isPassedWrong 146 = .ok (.lconst 0, 1) := by decide +kernel
theorem dMo_isPassedWrong_147 : decode cMo_isPassedWrong 147 = .ok (.lcmp, 1) := by decide +kernel
theorem dMo_isPassedWrong_148 : decode cMo_isPassedWrong 148 = .ok (.ifCond .eq 7, 3) := by decide +kernel
theorem dMo_isPassedWrong_151 : decode cMo_isPassedWrong 151 = .ok (.iconst 1, 1) := by decide +kernel
theorem dMo_isPassedWrong_152 : decode cMo_isPassedWrong 152 = .ok (.goto 4, 3) := by decide +kernel
theorem dMo_isPassedWrong_155 : decode cMo_isPassedWrong 155 = .ok (.iconst 0, 1) := by decide +kernel
theorem dMo_isPassedWrong_156 : decode cMo_isPassedWrong 156 = .ok (.istore_n 2, 1) := by decide +kernel
theorem dMo_isPassedWrong_157 : decode cMo_isPassedWrong 157 = .ok (.iinc 3 1, 3) := by decide +kernel
theorem dMo_isPassedWrong_160 : decode cMo_isPassedWrong 160 = .ok (.goto (-55), 3) := by decide +kernel
theorem dMo_isPassedWrong_163 : decode cMo_isPassedWrong 163 = .ok (.iload_n 2, 1) := by decide +kernel
theorem dMo_isPassedWrong_164 : decode cMo_isPassedWrong 164 = .ok (.ifCond .ne 7, 3) := by decide +kernel
theorem dMo_isPassedWrong_167 : decode cMo_isPassedWrong 167 = .ok (.iconst 1, 1) := by decide +kernel
theorem dMo_isPassedWrong_168 : decode cMo_isPassedWrong 168 = .ok (.goto 4, 3) := by decide +kernel
theorem dMo_isPassedWrong_171 : decode cMo_isPassedWrong 171 = .ok (.iconst 0, 1) := by decide +kernel
theorem dMo_isPassedWrong_172 : decode cMo_isPassedWrong 172 = .ok (.ireturn, 1) := by decide +kernel

def f_Mo_isPassedWrong_105 (oS_men : Nat → Int32) (oS_side : Int32) (oS_passed : Int32) (k0_40 : Int32) (k0_59 : Int32) : Nat → Int32 → Int32 → Int32
  | 0 => fun _ _ => 0
  | n_105 + 1 => fun v2_105 v3_105 => (if 64 ≤ v3_105 then (if v2_105 = 0 then 1 else 0) else (if v2_105 = 0 then (if (oS_men v3_105.toNatClampNeg) = (1 + (8 * oS_side)) then (if ((f_Mo_attacked oS_men v3_105) &&& (f_Mo_bit oS_passed)) = 0 then (f_Mo_isPassedWrong_105 oS_men oS_side oS_passed k0_40 k0_59 n_105) 0 (v3_105 + 1) else (f_Mo_isPassedWrong_105 oS_men oS_side oS_passed k0_40 k0_59 n_105) 1 (v3_105 + 1)) else (f_Mo_isPassedWrong_105 oS_men oS_side oS_passed k0_40 k0_59 n_105) 0 (v3_105 + 1)) else (f_Mo_isPassedWrong_105 oS_men oS_side oS_passed k0_40 k0_59 n_105) 1 (v3_105 + 1)))
theorem f_Mo_isPassedWrong_105_eq (oS_men : Nat → Int32) (oS_side : Int32) (oS_passed : Int32) (k0_40 : Int32) (k0_59 : Int32) (n_105 : Nat) (v2_105 : Int32) (v3_105 : Int32) : f_Mo_isPassedWrong_105 oS_men oS_side oS_passed k0_40 k0_59 (n_105 + 1) v2_105 v3_105 =
  (if 64 ≤ v3_105 then (if v2_105 = 0 then 1 else 0) else (if v2_105 = 0 then (if (oS_men v3_105.toNatClampNeg) = (1 + (8 * oS_side)) then (if ((f_Mo_attacked oS_men v3_105) &&& (f_Mo_bit oS_passed)) = 0 then (f_Mo_isPassedWrong_105 oS_men oS_side oS_passed k0_40 k0_59 n_105) 0 (v3_105 + 1) else (f_Mo_isPassedWrong_105 oS_men oS_side oS_passed k0_40 k0_59 n_105) 1 (v3_105 + 1)) else (f_Mo_isPassedWrong_105 oS_men oS_side oS_passed k0_40 k0_59 n_105) 0 (v3_105 + 1)) else (f_Mo_isPassedWrong_105 oS_men oS_side oS_passed k0_40 k0_59 n_105) 1 (v3_105 + 1))) := rfl

def f_Mo_isPassedWrong_59 (oS_men : Nat → Int32) (oS_side : Int32) (oS_passed : Int32) (k0_40 : Int32) (k0_59 : Int32) : Int32 :=
  (if (oS_men (oS_passed - k0_59).toNatClampNeg) = (1 + (8 * (1 - oS_side))) then (if (oS_men (oS_passed + k0_59).toNatClampNeg) = 0 then f_Mo_isPassedWrong_105 oS_men oS_side oS_passed k0_40 k0_59 (65) 0 0 else 1) else 1)
theorem f_Mo_isPassedWrong_59_eq (oS_men : Nat → Int32) (oS_side : Int32) (oS_passed : Int32) (k0_40 : Int32) (k0_59 : Int32) : f_Mo_isPassedWrong_59 oS_men oS_side oS_passed k0_40 k0_59 =
  (if (oS_men (oS_passed - k0_59).toNatClampNeg) = (1 + (8 * (1 - oS_side))) then (if (oS_men (oS_passed + k0_59).toNatClampNeg) = 0 then f_Mo_isPassedWrong_105 oS_men oS_side oS_passed k0_40 k0_59 (65) 0 0 else 1) else 1) := rfl

def f_Mo_isPassedWrong_40 (oS_men : Nat → Int32) (oS_side : Int32) (oS_passed : Int32) (k0_40 : Int32) : Int32 :=
  (if (oS_passed / 8) = k0_40 then (if oS_side = 0 then f_Mo_isPassedWrong_59 oS_men oS_side oS_passed k0_40 8 else f_Mo_isPassedWrong_59 oS_men oS_side oS_passed k0_40 (-8)) else 1)
theorem f_Mo_isPassedWrong_40_eq (oS_men : Nat → Int32) (oS_side : Int32) (oS_passed : Int32) (k0_40 : Int32) : f_Mo_isPassedWrong_40 oS_men oS_side oS_passed k0_40 =
  (if (oS_passed / 8) = k0_40 then (if oS_side = 0 then f_Mo_isPassedWrong_59 oS_men oS_side oS_passed k0_40 8 else f_Mo_isPassedWrong_59 oS_men oS_side oS_passed k0_40 (-8)) else 1) := rfl

def f_Mo_isPassedWrong (oS_men : Nat → Int32) (oS_side : Int32) (oS_passed : Int32) : Int32 :=
  (if 0 ≤ oS_passed then (if (oS_men oS_passed.toNatClampNeg) = 0 then (if oS_side = 0 then f_Mo_isPassedWrong_40 oS_men oS_side oS_passed 5 else f_Mo_isPassedWrong_40 oS_men oS_side oS_passed 2) else 1) else 0)
theorem f_Mo_isPassedWrong_eq (oS_men : Nat → Int32) (oS_side : Int32) (oS_passed : Int32) : f_Mo_isPassedWrong oS_men oS_side oS_passed =
  (if 0 ≤ oS_passed then (if (oS_men oS_passed.toNatClampNeg) = 0 then (if oS_side = 0 then f_Mo_isPassedWrong_40 oS_men oS_side oS_passed 5 else f_Mo_isPassedWrong_40 oS_men oS_side oS_passed 2) else 1) else 0) := rfl

set_option maxHeartbeats 4000000 in
set_option maxRecDepth 100000 in
theorem c_Mo_isPassedWrong (l : Launch) (dC : Nat → ClassId) (dI : Nat → Nat → Nat) (cI cJ cC : ClassId) (ad : Nat → Nat) (o o_text o_out o_men o_pastMen o_pastSide o_pastRights o_pastPassed o_pastClock o_pastNumber o_pastTakes o_playedMoves o_keptMen o_keptRest o_lists o_counts : Nat) (oS_thrown : Int32) (oS_typed : Int32) (oS_text : Nat → Int32) (oS_told : Int32) (oS_out : Nat → Int32) (oS_men : Nat → Int32) (oS_side : Int32) (oS_rights : Int32) (oS_passed : Int32) (oS_clock : Int32) (oS_number : Int32) (oS_plies : Int32) (oS_pastMen : Nat → Int32) (oS_pastSide : Nat → Int32) (oS_pastRights : Nat → Int32) (oS_pastPassed : Nat → Int32) (oS_pastClock : Nat → Int32) (oS_pastNumber : Nat → Int32) (oS_pastTakes : Nat → Int64) (oS_playedMoves : Nat → Int32) (oS_keptMen : Nat → Int32) (oS_keptRest : Nat → Int32) (oS_lists : Nat → Int32) (oS_counts : Nat → Int32) (hps : -1 ≤ oS_passed.toInt ∧ oS_passed.toInt < 64) : Met l yMo_isPassedWrong wsMo_isPassedWrong { frames := 4, cells := 0, slots := 0, locals := 99 } (roP dC dI (TYS cI cJ cC) [.ref o] [(o, .inr (6, [.int oS_thrown, .int oS_typed, .ref o_text, .int oS_told, .ref o_out, .ref o_men, .int oS_side, .int oS_rights, .int oS_passed, .int oS_clock, .int oS_number, .int oS_plies, .ref o_pastMen, .ref o_pastSide, .ref o_pastRights, .ref o_pastPassed, .ref o_pastClock, .ref o_pastNumber, .ref o_pastTakes, .ref o_playedMoves, .ref o_keptMen, .ref o_keptRest, .ref o_lists, .ref o_counts])), (o_text, .inl (cC, 100, .inl oS_text)), (o_out, .inl (cC, 100, .inl oS_out)), (o_men, .inl (cI, 64, .inl oS_men)), (o_pastMen, .inl (cI, 25664, .inl oS_pastMen)), (o_pastSide, .inl (cI, 401, .inl oS_pastSide)), (o_pastRights, .inl (cI, 401, .inl oS_pastRights)), (o_pastPassed, .inl (cI, 401, .inl oS_pastPassed)), (o_pastClock, .inl (cI, 401, .inl oS_pastClock)), (o_pastNumber, .inl (cI, 401, .inl oS_pastNumber)), (o_pastTakes, .inl (cJ, 401, .inr (.inl oS_pastTakes))), (o_playedMoves, .inl (cI, 400, .inl oS_playedMoves)), (o_keptMen, .inl (cI, 384, .inl oS_keptMen)), (o_keptRest, .inl (cI, 30, .inl oS_keptRest)), (o_lists, .inl (cI, 8192, .inl oS_lists)), (o_counts, .inl (cI, 4, .inl oS_counts))] (GS ad)) (vp_Si (fun r => r = f_Mo_isPassedWrong oS_men oS_side oS_passed)) 0 0 (fun _ => False) := by
  refine Met.ofW (cc := cMo_isPassedWrong) (maxL := 4) (ret := (some .boolean)) (by decide) rfl ?_
  intro p e s m args below meth c s₁ B hml hv
  obtain ⟨rfl, hP, hK, hG⟩ := hv
  have hx := B.exec
  have hb := B.bytes
  have hr := B.returns
  have hB : ∀ w9 ∈ BIG, w9.before ([.ref o]).toArray s = true := fun w9 h => atoms_spec (ws := wsMo_isPassedWrong) B.pre w9 (List.mem_cons_of_mem _ h)
  have hown : s.vm.findClass "ChessRulesModel" = some m.cls := findClass_of_methodNamed B.named
  have hlocks := B.notSynchronized
  have hS : va_S (fun _ => False) s.heap s.heap [] := va_S.rf
  have hP : va_P (dC, dI) vwCl [(o, .inr (6, [.int oS_thrown, .int oS_typed, .ref o_text, .int oS_told, .ref o_out, .ref o_men, .int oS_side, .int oS_rights, .int oS_passed, .int oS_clock, .int oS_number, .int oS_plies, .ref o_pastMen, .ref o_pastSide, .ref o_pastRights, .ref o_pastPassed, .ref o_pastClock, .ref o_pastNumber, .ref o_pastTakes, .ref o_playedMoves, .ref o_keptMen, .ref o_keptRest, .ref o_lists, .ref o_counts])), (o_text, .inl (cC, 100, .inl oS_text)), (o_out, .inl (cC, 100, .inl oS_out)), (o_men, .inl (cI, 64, .inl oS_men)), (o_pastMen, .inl (cI, 25664, .inl oS_pastMen)), (o_pastSide, .inl (cI, 401, .inl oS_pastSide)), (o_pastRights, .inl (cI, 401, .inl oS_pastRights)), (o_pastPassed, .inl (cI, 401, .inl oS_pastPassed)), (o_pastClock, .inl (cI, 401, .inl oS_pastClock)), (o_pastNumber, .inl (cI, 401, .inl oS_pastNumber)), (o_pastTakes, .inl (cJ, 401, .inr (.inl oS_pastTakes))), (o_playedMoves, .inl (cI, 400, .inl oS_playedMoves)), (o_keptMen, .inl (cI, 384, .inl oS_keptMen)), (o_keptRest, .inl (cI, 30, .inl oS_keptRest)), (o_lists, .inl (cI, 8192, .inl oS_lists)), (o_counts, .inl (cI, 4, .inl oS_counts))] s.heap := hP
  have hl := lv_entry ([.ref o]) (n := 4) (Nat.le_of_ble_eq_true rfl)
  rw [lg_entry_eq]
  generalize (lg_sl ([.ref o]) ++ List.replicate (4 - (lg_sl ([.ref o])).length) Slot.unset).toArray = ls at hl ⊢
  have hl : lv_has ls 4 [(0, .ref o)] := hl
  refine lv_aload_n hx hb dMo_isPassedWrong_0 rfl (lv_at hl 0 rfl) ?_
  refine va_get (D := (dC, dI)) (ci := 6) (v := .int oS_passed) (C := RMo) (T := TMo) (N := 24) hx hb hB inMo hown hK hP 0 rfl rfl 8 (by decide) (hB _ q5_19) (fun _ h9 => h9) rfl dMo_isPassedWrong_1 ?_
  refine lv_if_ge (tgt := 9) hx hb dMo_isPassedWrong_4 (by decide) (fun c_1 => ?_) (fun c_1 => ?_)
  · refine lv_aload_n hx hb dMo_isPassedWrong_9 rfl (lv_at hl 0 rfl) ?_
    refine va_get (D := (dC, dI)) (ci := 6) (v := .ref o_men) (C := RMo) (T := TMo) (N := 24) hx hb hB inMo hown hK hP 0 rfl rfl 5 (by decide) (hB _ q5_16) (fun _ h9 => h9) rfl dMo_isPassedWrong_10 ?_
    refine lv_aload_n hx hb dMo_isPassedWrong_13 rfl (lv_at hl 0 rfl) ?_
    refine va_get (D := (dC, dI)) (ci := 6) (v := .int oS_passed) (C := RMo) (T := TMo) (N := 24) hx hb hB inMo hown hK hP 0 rfl rfl 8 (by decide) (hB _ q5_19) (fun _ h9 => h9) rfl dMo_isPassedWrong_14 ?_
    refine va_iald hx hb hK hP 3 0 rfl rfl (vp_in_iff.mpr (by have z0 := tle c_1; have y0 : (0 : Int32).toInt = 0 := rfl; omega)) dMo_isPassedWrong_17 ?_
    refine lv_if_ne (tgt := 43) hx hb dMo_isPassedWrong_18 (by decide) (fun c_2 => ?_) (fun c_2 => ?_)
    · refine lv_iconst (v := 1) hx hb dMo_isPassedWrong_43 (by decide) ?_
      exact ro_retz hx hb hr rfl hlocks dMo_isPassedWrong_44 (Eq.symm (by rw [f_Mo_isPassedWrong_eq, if_pos c_1, if_neg c_2] <;> rfl))
    · refine lv_aload_n hx hb dMo_isPassedWrong_21 rfl (lv_at hl 0 rfl) ?_
      refine va_get (D := (dC, dI)) (ci := 6) (v := .int oS_passed) (C := RMo) (T := TMo) (N := 24) hx hb hB inMo hown hK hP 0 rfl rfl 8 (by decide) (hB _ q5_19) (fun _ h9 => h9) rfl dMo_isPassedWrong_22 ?_
      refine lv_bipush (v := 8) hx hb dMo_isPassedWrong_25 (by decide) ?_
      refine lv_idiv hx hb dMo_isPassedWrong_27 (by decide) ?_
      refine lv_aload_n hx hb dMo_isPassedWrong_28 rfl (lv_at hl 0 rfl) ?_
      refine va_get (D := (dC, dI)) (ci := 6) (v := .int oS_side) (C := RMo) (T := TMo) (N := 24) hx hb hB inMo hown hK hP 0 rfl rfl 6 (by decide) (hB _ q5_17) (fun _ h9 => h9) rfl dMo_isPassedWrong_29 ?_
      have J_40 : ∀ (k0_40 : Int32), f_Mo_isPassedWrong oS_men oS_side oS_passed = f_Mo_isPassedWrong_40 oS_men oS_side oS_passed k0_40 → ((oS_side = 0 ∧ k0_40 = 5) ∨ (¬ oS_side = 0 ∧ k0_40 = 2)) → ∀ ls : Array Slot, lv_has ls 4 [(0, .ref o)] → W p l e (headSpec wsMo_isPassedWrong { frames := 4, cells := 0, slots := 0, locals := 99 }).room s m ([.ref o]).toArray below meth c s.heap [] 0 0 (MQ below (vp_Si (fun r => r = f_Mo_isPassedWrong oS_men oS_side oS_passed)) ([.ref o]).toArray s 0 0 (fun _ => False)) (F0 m 40 ls [.int k0_40, .int (oS_passed / 8)]) := by
        intro k0_40 he_40 hi_40 ls hl
        refine lv_icmp_eq (tgt := 45) hx hb dMo_isPassedWrong_40 (by decide) (fun c_3 => ?_) (fun c_3 => ?_)
        · refine lv_aload_n hx hb dMo_isPassedWrong_45 rfl (lv_at hl 0 rfl) ?_
          refine va_get (D := (dC, dI)) (ci := 6) (v := .int oS_side) (C := RMo) (T := TMo) (N := 24) hx hb hB inMo hown hK hP 0 rfl rfl 6 (by decide) (hB _ q5_17) (fun _ h9 => h9) rfl dMo_isPassedWrong_46 ?_
          have J_59 : ∀ (k0_59 : Int32), f_Mo_isPassedWrong oS_men oS_side oS_passed = f_Mo_isPassedWrong_59 oS_men oS_side oS_passed k0_40 k0_59 → ((oS_side = 0 ∧ k0_59 = 8) ∨ (¬ oS_side = 0 ∧ k0_59 = (-8))) → ∀ ls : Array Slot, lv_has ls 4 [(0, .ref o)] → W p l e (headSpec wsMo_isPassedWrong { frames := 4, cells := 0, slots := 0, locals := 99 }).room s m ([.ref o]).toArray below meth c s.heap [] 0 0 (MQ below (vp_Si (fun r => r = f_Mo_isPassedWrong oS_men oS_side oS_passed)) ([.ref o]).toArray s 0 0 (fun _ => False)) (F0 m 59 ls [.int k0_59]) := by
            intro k0_59 he_59 hi_59 ls hl
            refine lv_istore_n (lv' := [(1, .int k0_59), (0, .ref o)]) hx hb dMo_isPassedWrong_59 rfl hl (by decide) rfl (fun ls hl => ?_)
            refine lv_aload_n hx hb dMo_isPassedWrong_60 rfl (lv_at hl 1 rfl) ?_
            refine va_get (D := (dC, dI)) (ci := 6) (v := .ref o_men) (C := RMo) (T := TMo) (N := 24) hx hb hB inMo hown hK hP 0 rfl rfl 5 (by decide) (hB _ q5_16) (fun _ h9 => h9) rfl dMo_isPassedWrong_61 ?_
            refine lv_aload_n hx hb dMo_isPassedWrong_64 rfl (lv_at hl 1 rfl) ?_
            refine va_get (D := (dC, dI)) (ci := 6) (v := .int oS_passed) (C := RMo) (T := TMo) (N := 24) hx hb hB inMo hown hK hP 0 rfl rfl 8 (by decide) (hB _ q5_19) (fun _ h9 => h9) rfl dMo_isPassedWrong_65 ?_
            refine lv_iload_n hx hb dMo_isPassedWrong_68 rfl (lv_at hl 0 rfl) ?_
            refine lv_isub hx hb dMo_isPassedWrong_69 ?_
            refine va_iald hx hb hK hP 3 0 rfl rfl (pw_in (by have z0 := tle c_1; have z1 := teq c_2; have z2 := teq c_3; have y0 : (0 : Int32).toInt = 0 := rfl; have y8 : (8 : Int32).toInt = 8 := rfl; omega) hi_40 hi_59 c_3).1 dMo_isPassedWrong_70 ?_
            refine lv_iconst (v := 1) hx hb dMo_isPassedWrong_71 (by decide) ?_
            refine lv_bipush (v := 8) hx hb dMo_isPassedWrong_72 (by decide) ?_
            refine lv_iconst (v := 1) hx hb dMo_isPassedWrong_74 (by decide) ?_
            refine lv_aload_n hx hb dMo_isPassedWrong_75 rfl (lv_at hl 1 rfl) ?_
            refine va_get (D := (dC, dI)) (ci := 6) (v := .int oS_side) (C := RMo) (T := TMo) (N := 24) hx hb hB inMo hown hK hP 0 rfl rfl 6 (by decide) (hB _ q5_17) (fun _ h9 => h9) rfl dMo_isPassedWrong_76 ?_
            refine lv_isub hx hb dMo_isPassedWrong_79 ?_
            refine lv_imul hx hb dMo_isPassedWrong_80 ?_
            refine lv_iadd hx hb dMo_isPassedWrong_81 ?_
            refine lv_icmp_ne (tgt := 99) hx hb dMo_isPassedWrong_82 (by decide) (fun c_4 => ?_) (fun c_4 => ?_)
            · refine lv_iconst (v := 1) hx hb dMo_isPassedWrong_99 (by decide) ?_
              exact ro_retz hx hb hr rfl hlocks dMo_isPassedWrong_100 (Eq.symm (he_59.trans (by rw [f_Mo_isPassedWrong_59_eq, if_neg c_4] <;> rfl)))
            · refine lv_aload_n hx hb dMo_isPassedWrong_85 rfl (lv_at hl 1 rfl) ?_
              refine va_get (D := (dC, dI)) (ci := 6) (v := .ref o_men) (C := RMo) (T := TMo) (N := 24) hx hb hB inMo hown hK hP 0 rfl rfl 5 (by decide) (hB _ q5_16) (fun _ h9 => h9) rfl dMo_isPassedWrong_86 ?_
              refine lv_aload_n hx hb dMo_isPassedWrong_89 rfl (lv_at hl 1 rfl) ?_
              refine va_get (D := (dC, dI)) (ci := 6) (v := .int oS_passed) (C := RMo) (T := TMo) (N := 24) hx hb hB inMo hown hK hP 0 rfl rfl 8 (by decide) (hB _ q5_19) (fun _ h9 => h9) rfl dMo_isPassedWrong_90 ?_
              refine lv_iload_n hx hb dMo_isPassedWrong_93 rfl (lv_at hl 0 rfl) ?_
              refine lv_iadd hx hb dMo_isPassedWrong_94 ?_
              refine va_iald hx hb hK hP 3 0 rfl rfl (pw_in (by have z0 := tle c_1; have z1 := teq c_2; have z2 := teq c_3; have z3 := teq c_4; have y0 : (0 : Int32).toInt = 0 := rfl; have y1 : (1 : Int32).toInt = 1 := rfl; have y8 : (8 : Int32).toInt = 8 := rfl; omega) hi_40 hi_59 c_3).2 dMo_isPassedWrong_95 ?_
              refine lv_if_eq (tgt := 101) hx hb dMo_isPassedWrong_96 (by decide) (fun c_5 => ?_) (fun c_5 => ?_)
              · refine lv_iconst (v := 0) hx hb dMo_isPassedWrong_101 (by decide) ?_
                refine lv_istore_n (lv' := [(2, .int 0), (1, .int k0_59), (0, .ref o)]) hx hb dMo_isPassedWrong_102 rfl hl (by decide) rfl (fun ls hl => ?_)
                refine lv_iconst (v := 0) hx hb dMo_isPassedWrong_103 (by decide) ?_
                refine lv_istore_n (lv' := [(3, .int 0), (2, .int 0), (1, .int k0_59), (0, .ref o)]) hx hb dMo_isPassedWrong_104 rfl hl (by decide) rfl (fun ls hl => ?_)
                have J_105 : ∀ (n_105 : Nat) (v2_105 : Int32) (v3_105 : Int32), f_Mo_isPassedWrong oS_men oS_side oS_passed = f_Mo_isPassedWrong_105 oS_men oS_side oS_passed k0_40 k0_59 n_105 v2_105 v3_105 → ((0 : Int) ≤ v3_105.toInt ∧ (64 : Int32).toInt - v3_105.toInt + 1 ≤ (n_105 : Int) ∧ (1 : Int) ≤ (n_105 : Int)) → ∀ ls : Array Slot, lv_has ls 4 [(0, .ref o), (2, .int v2_105), (3, .int v3_105)] → W p l e (headSpec wsMo_isPassedWrong { frames := 4, cells := 0, slots := 0, locals := 99 }).room s m ([.ref o]).toArray below meth c s.heap [] 0 0 (MQ below (vp_Si (fun r => r = f_Mo_isPassedWrong oS_men oS_side oS_passed)) ([.ref o]).toArray s 0 0 (fun _ => False)) (F0 m 105 ls []) := by
                  intro n_105
                  induction n_105 with
                  | zero => intro v2_105 v3_105 _ hm_105; exact absurd hm_105 (by omega)
                  | succ n_105 ih_105 =>
                    intro v2_105 v3_105 he_105 hm_105 ls hl
                    refine lv_iload_n hx hb dMo_isPassedWrong_105 rfl (lv_at hl 2 rfl) ?_
                    refine lv_bipush (v := 64) hx hb dMo_isPassedWrong_106 (by decide) ?_
                    refine lv_icmp_ge (tgt := 163) hx hb dMo_isPassedWrong_108 (by decide) (fun c_6 => ?_) (fun c_6 => ?_)
                    · refine lv_iload_n hx hb dMo_isPassedWrong_163 rfl (lv_at hl 1 rfl) ?_
                      refine lv_if_ne (tgt := 171) hx hb dMo_isPassedWrong_164 (by decide) (fun c_7 => ?_) (fun c_7 => ?_)
                      · refine lv_iconst (v := 0) hx hb dMo_isPassedWrong_171 (by decide) ?_
                        exact ro_retz hx hb hr rfl hlocks dMo_isPassedWrong_172 (Eq.symm (he_105.trans (by rw [f_Mo_isPassedWrong_105_eq, if_pos c_6, if_neg c_7] <;> rfl)))
                      · refine lv_iconst (v := 1) hx hb dMo_isPassedWrong_167 (by decide) ?_
                        refine lv_goto (tgt := 172) hx hb dMo_isPassedWrong_168 (by decide) ?_
                        exact ro_retz hx hb hr rfl hlocks dMo_isPassedWrong_172 (Eq.symm (he_105.trans (by rw [f_Mo_isPassedWrong_105_eq, if_pos c_6, if_pos c_7] <;> rfl)))
                    · refine lv_iload_n hx hb dMo_isPassedWrong_111 rfl (lv_at hl 1 rfl) ?_
                      refine lv_if_ne (tgt := 151) hx hb dMo_isPassedWrong_112 (by decide) (fun c_8 => ?_) (fun c_8 => ?_)
                      · refine lv_iconst (v := 1) hx hb dMo_isPassedWrong_151 (by decide) ?_
                        refine lv_goto (tgt := 156) hx hb dMo_isPassedWrong_152 (by decide) ?_
                        refine lv_istore_n (lv' := [(2, .int 1), (0, .ref o), (3, .int v3_105)]) hx hb dMo_isPassedWrong_156 rfl hl (by decide) rfl (fun ls hl => ?_)
                        refine lv_iinc (v := v3_105 + 1) (lv' := [(3, .int (v3_105 + 1)), (2, .int 1), (0, .ref o)]) hx hb dMo_isPassedWrong_157 hl (k := 2) rfl rfl (by decide) rfl (fun ls hl => ?_)
                        refine lv_goto (tgt := 105) hx hb dMo_isPassedWrong_160 (by decide) ?_
                        exact ih_105 1 (v3_105 + 1) (he_105.trans (by rw [f_Mo_isPassedWrong_105_eq, if_neg c_6, if_neg c_8] <;> rfl)) (by have z0 := tle c_1; have z1 := teq c_2; have z2 := teq c_3; have z3 := teq c_4; have z4 := teq c_5; have z6 := tnle c_6; have z7 := tne c_8; have y0 : (0 : Int32).toInt = 0 := rfl; have y1 : (1 : Int32).toInt = 1 := rfl; have y8 : (8 : Int32).toInt = 8 := rfl; have y64 : (64 : Int32).toInt = 64 := rfl; have zr := i_rng (64 : Int32); have zs := i_succ9 v3_105 (by omega); omega) ls (lv_sub hl [2, 1, 0] rfl)
                      · refine lv_aload_n hx hb dMo_isPassedWrong_115 rfl (lv_at hl 0 rfl) ?_
                        refine va_get (D := (dC, dI)) (ci := 6) (v := .ref o_men) (C := RMo) (T := TMo) (N := 24) hx hb hB inMo hown hK hP 0 rfl rfl 5 (by decide) (hB _ q5_16) (fun _ h9 => h9) rfl dMo_isPassedWrong_116 ?_
                        refine lv_iload_n hx hb dMo_isPassedWrong_119 rfl (lv_at hl 2 rfl) ?_
                        refine va_iald hx hb hK hP 3 0 rfl rfl (vp_in_iff.mpr (by have z0 := tle c_1; have z1 := teq c_2; have z2 := teq c_3; have z3 := teq c_4; have z4 := teq c_5; have z6 := tnle c_6; have z7 := teq c_8; have y0 : (0 : Int32).toInt = 0 := rfl; have y1 : (1 : Int32).toInt = 1 := rfl; have y8 : (8 : Int32).toInt = 8 := rfl; have y64 : (64 : Int32).toInt = 64 := rfl; omega)) dMo_isPassedWrong_120 ?_
                        refine lv_iconst (v := 1) hx hb dMo_isPassedWrong_121 (by decide) ?_
                        refine lv_bipush (v := 8) hx hb dMo_isPassedWrong_122 (by decide) ?_
                        refine lv_aload_n hx hb dMo_isPassedWrong_124 rfl (lv_at hl 0 rfl) ?_
                        refine va_get (D := (dC, dI)) (ci := 6) (v := .int oS_side) (C := RMo) (T := TMo) (N := 24) hx hb hB inMo hown hK hP 0 rfl rfl 6 (by decide) (hB _ q5_17) (fun _ h9 => h9) rfl dMo_isPassedWrong_125 ?_
                        refine lv_imul hx hb dMo_isPassedWrong_128 ?_
                        refine lv_iadd hx hb dMo_isPassedWrong_129 ?_
                        refine lv_icmp_ne (tgt := 155) hx hb dMo_isPassedWrong_130 (by decide) (fun c_9 => ?_) (fun c_9 => ?_)
                        · refine lv_iconst (v := 0) hx hb dMo_isPassedWrong_155 (by decide) ?_
                          refine lv_istore_n (lv' := [(2, .int 0), (0, .ref o), (3, .int v3_105)]) hx hb dMo_isPassedWrong_156 rfl hl (by decide) rfl (fun ls hl => ?_)
                          refine lv_iinc (v := v3_105 + 1) (lv' := [(3, .int (v3_105 + 1)), (2, .int 0), (0, .ref o)]) hx hb dMo_isPassedWrong_157 hl (k := 2) rfl rfl (by decide) rfl (fun ls hl => ?_)
                          refine lv_goto (tgt := 105) hx hb dMo_isPassedWrong_160 (by decide) ?_
                          exact ih_105 0 (v3_105 + 1) (he_105.trans (by rw [f_Mo_isPassedWrong_105_eq, if_neg c_6, if_pos c_8, if_neg c_9] <;> rfl)) (by have z0 := tle c_1; have z1 := teq c_2; have z2 := teq c_3; have z3 := teq c_4; have z4 := teq c_5; have z6 := tnle c_6; have z7 := teq c_8; have z8 := tne c_9; have y0 : (0 : Int32).toInt = 0 := rfl; have y1 : (1 : Int32).toInt = 1 := rfl; have y8 : (8 : Int32).toInt = 8 := rfl; have y64 : (64 : Int32).toInt = 64 := rfl; have zr := i_rng (64 : Int32); have zs := i_succ9 v3_105 (by omega); omega) ls (lv_sub hl [2, 1, 0] rfl)
                        · refine lv_aload_n hx hb dMo_isPassedWrong_133 rfl (lv_at hl 0 rfl) ?_
                          refine lv_iload_n hx hb dMo_isPassedWrong_134 rfl (lv_at hl 2 rfl) ?_
                          refine ro_gol (va_runV (C := "ChessRulesModel") (As := [.int v3_105]) (rest := []) ⟨hx, hb, hml, hown, hB⟩ (c_Mo_attacked l dC dI cI cJ cC ad o o_text o_out o_men o_pastMen o_pastSide o_pastRights o_pastPassed o_pastClock o_pastNumber o_pastTakes o_playedMoves o_keptMen o_keptRest o_lists o_counts oS_thrown oS_typed oS_text oS_told oS_out oS_men oS_side oS_rights oS_passed oS_clock oS_number oS_plies oS_pastMen oS_pastSide oS_pastRights oS_pastPassed oS_pastClock oS_pastNumber oS_pastTakes oS_playedMoves oS_keptMen oS_keptRest oS_lists oS_counts v3_105 (by have z0 := tle c_1; have z1 := teq c_2; have z2 := teq c_3; have z3 := teq c_4; have z4 := teq c_5; have z6 := tnle c_6; have z7 := teq c_8; have z8 := teq c_9; have y0 : (0 : Int32).toInt = 0 := rfl; have y1 : (1 : Int32).toInt = 1 := rfl; have y8 : (8 : Int32).toInt = 8 := rfl; have y64 : (64 : Int32).toInt = 64 := rfl; omega)) ⟨callB_of 1 hB (big_self q4_199) rfl rfl rfl (hB _ q1_15) (hB _ q4_196) (by decide +kernel) ⟨Nat.le_of_ble_eq_true rfl, Nat.le_of_ble_eq_true rfl⟩, (hB _ q4_198), (hB _ qs5_1)⟩ (ro_preV (GS_ok ad) hK hP hG hS [0, 1, 2, 3, 4, 5, 6, 7, 8, 9, 10, 11, 12, 13, 14, 15] rfl (va_recv hK hP (ci := 6) (q0 := 0) rfl rfl)) rfl rfl hl.1 rfl (lv_room (Nat.le_of_ble_eq_true rfl)) dMo_isPassedWrong_135 ⟨Nat.le_of_ble_eq_true rfl, Nat.le_of_ble_eq_true rfl⟩) ?_
                          refine lv_aload_n hx hb dMo_isPassedWrong_138 rfl (lv_at hl 0 rfl) ?_
                          refine va_get (D := (dC, dI)) (ci := 6) (v := .int oS_passed) (C := RMo) (T := TMo) (N := 24) hx hb hB inMo hown hK hP 0 rfl rfl 8 (by decide) (hB _ q5_19) (fun _ h9 => h9) rfl dMo_isPassedWrong_139 ?_
                          refine ro_gol (va_runS (As := [.int oS_passed]) (rest := [.long (f_Mo_attacked oS_men v3_105)]) ⟨hx, hb, hml, hown, hB⟩ (c_Mo_bit l dC dI cI cJ cC ad oS_passed) ⟨callB_of 1 hB (big_self q4_211) rfl rfl rfl (hB _ q1_15) (hB _ q4_209) (by decide +kernel) ⟨Nat.le_of_ble_eq_true rfl, Nat.le_of_ble_eq_true rfl⟩, (hB _ q4_210)⟩ (ro_preS (GS_ok ad) hK hP hG hS [] rfl) rfl rfl hl.1 rfl (lv_room (Nat.le_of_ble_eq_true rfl)) dMo_isPassedWrong_142 ⟨Nat.le_of_ble_eq_true rfl, Nat.le_of_ble_eq_true rfl⟩) ?_
                          refine lv_land hx hb dMo_isPassedWrong_145 ?_
                          refine lv_lconst (v := 0) hx hb dMo_isPassedWrong_146 (by decide) ?_
                          refine W.lcmp hx hb dMo_isPassedWrong_147 ?_
                          refine lv_if_eq (tgt := 155) hx hb dMo_isPassedWrong_148 (by decide) (fun q => let_c (h := ((f_Mo_attacked oS_men v3_105) &&& (f_Mo_bit oS_passed)) = 0) (lgc_eq.1 q) (fun c_10 => ?_)) (fun q => let_c (h := ¬ ((f_Mo_attacked oS_men v3_105) &&& (f_Mo_bit oS_passed)) = 0) (lgc_eq.2 q) (fun c_10 => ?_))
                          · refine lv_iconst (v := 0) hx hb dMo_isPassedWrong_155 (by decide) ?_
                            refine lv_istore_n (lv' := [(2, .int 0), (0, .ref o), (3, .int v3_105)]) hx hb dMo_isPassedWrong_156 rfl hl (by decide) rfl (fun ls hl => ?_)
                            refine lv_iinc (v := v3_105 + 1) (lv' := [(3, .int (v3_105 + 1)), (2, .int 0), (0, .ref o)]) hx hb dMo_isPassedWrong_157 hl (k := 2) rfl rfl (by decide) rfl (fun ls hl => ?_)
                            refine lv_goto (tgt := 105) hx hb dMo_isPassedWrong_160 (by decide) ?_
                            exact ih_105 0 (v3_105 + 1) (he_105.trans (by rw [f_Mo_isPassedWrong_105_eq, if_neg c_6, if_pos c_8, if_pos c_9, if_pos c_10] <;> rfl)) (by have z0 := tle c_1; have z1 := teq c_2; have z2 := teq c_3; have z3 := teq c_4; have z4 := teq c_5; have z6 := tnle c_6; have z7 := teq c_8; have z8 := teq c_9; have y0 : (0 : Int32).toInt = 0 := rfl; have y1 : (1 : Int32).toInt = 1 := rfl; have y8 : (8 : Int32).toInt = 8 := rfl; have y64 : (64 : Int32).toInt = 64 := rfl; have zr := i_rng (64 : Int32); have zs := i_succ9 v3_105 (by omega); omega) ls (lv_sub hl [2, 1, 0] rfl)
                          · refine lv_iconst (v := 1) hx hb dMo_isPassedWrong_151 (by decide) ?_
                            refine lv_goto (tgt := 156) hx hb dMo_isPassedWrong_152 (by decide) ?_
                            refine lv_istore_n (lv' := [(2, .int 1), (0, .ref o), (3, .int v3_105)]) hx hb dMo_isPassedWrong_156 rfl hl (by decide) rfl (fun ls hl => ?_)
                            refine lv_iinc (v := v3_105 + 1) (lv' := [(3, .int (v3_105 + 1)), (2, .int 1), (0, .ref o)]) hx hb dMo_isPassedWrong_157 hl (k := 2) rfl rfl (by decide) rfl (fun ls hl => ?_)
                            refine lv_goto (tgt := 105) hx hb dMo_isPassedWrong_160 (by decide) ?_
                            exact ih_105 1 (v3_105 + 1) (he_105.trans (by rw [f_Mo_isPassedWrong_105_eq, if_neg c_6, if_pos c_8, if_pos c_9, if_neg c_10] <;> rfl)) (by have z0 := tle c_1; have z1 := teq c_2; have z2 := teq c_3; have z3 := teq c_4; have z4 := teq c_5; have z6 := tnle c_6; have z7 := teq c_8; have z8 := teq c_9; have y0 : (0 : Int32).toInt = 0 := rfl; have y1 : (1 : Int32).toInt = 1 := rfl; have y8 : (8 : Int32).toInt = 8 := rfl; have y64 : (64 : Int32).toInt = 64 := rfl; have zr := i_rng (64 : Int32); have zs := i_succ9 v3_105 (by omega); omega) ls (lv_sub hl [2, 1, 0] rfl)
                exact J_105 (65) 0 0 (he_59.trans (by rw [f_Mo_isPassedWrong_59_eq, if_pos c_4, if_pos c_5] <;> rfl)) (by decide) ls (lv_sub hl [3, 1, 0] rfl)
              · refine lv_iconst (v := 1) hx hb dMo_isPassedWrong_99 (by decide) ?_
                exact ro_retz hx hb hr rfl hlocks dMo_isPassedWrong_100 (Eq.symm (he_59.trans (by rw [f_Mo_isPassedWrong_59_eq, if_pos c_4, if_neg c_5] <;> rfl)))
          refine lv_if_ne (tgt := 57) hx hb dMo_isPassedWrong_49 (by decide) (fun c_11 => ?_) (fun c_11 => ?_)
          · refine lv_bipush (v := (-8)) hx hb dMo_isPassedWrong_57 (by decide) ?_
            exact J_59 (-8) (he_40.trans (by rw [f_Mo_isPassedWrong_40_eq, if_pos c_3, if_neg c_11] <;> rfl)) (by first | exact Or.inl ⟨by assumption, rfl⟩ | exact Or.inr ⟨by assumption, rfl⟩) ls (lv_sub hl [0] rfl)
          · refine lv_bipush (v := 8) hx hb dMo_isPassedWrong_52 (by decide) ?_
            refine lv_goto (tgt := 59) hx hb dMo_isPassedWrong_54 (by decide) ?_
            exact J_59 8 (he_40.trans (by rw [f_Mo_isPassedWrong_40_eq, if_pos c_3, if_pos c_11] <;> rfl)) (by first | exact Or.inl ⟨by assumption, rfl⟩ | exact Or.inr ⟨by assumption, rfl⟩) ls (lv_sub hl [0] rfl)
        · refine lv_iconst (v := 1) hx hb dMo_isPassedWrong_43 (by decide) ?_
          exact ro_retz hx hb hr rfl hlocks dMo_isPassedWrong_44 (Eq.symm (he_40.trans (by rw [f_Mo_isPassedWrong_40_eq, if_neg c_3] <;> rfl)))
      refine lv_if_ne (tgt := 39) hx hb dMo_isPassedWrong_32 (by decide) (fun c_12 => ?_) (fun c_12 => ?_)
      · refine lv_iconst (v := 2) hx hb dMo_isPassedWrong_39 (by decide) ?_
        exact J_40 2 (by rw [f_Mo_isPassedWrong_eq, if_pos c_1, if_pos c_2, if_neg c_12] <;> rfl) (by first | exact Or.inl ⟨by assumption, rfl⟩ | exact Or.inr ⟨by assumption, rfl⟩) ls (lv_sub hl [0] rfl)
      · refine lv_iconst (v := 5) hx hb dMo_isPassedWrong_35 (by decide) ?_
        refine lv_goto (tgt := 40) hx hb dMo_isPassedWrong_36 (by decide) ?_
        exact J_40 5 (by rw [f_Mo_isPassedWrong_eq, if_pos c_1, if_pos c_2, if_pos c_12] <;> rfl) (by first | exact Or.inl ⟨by assumption, rfl⟩ | exact Or.inr ⟨by assumption, rfl⟩) ls (lv_sub hl [0] rfl)
  · refine lv_iconst (v := 0) hx hb dMo_isPassedWrong_7 (by decide) ?_
    exact ro_retz hx hb hr rfl hlocks dMo_isPassedWrong_8 (Eq.symm (by rw [f_Mo_isPassedWrong_eq, if_neg c_1] <;> rfl))

abbrev cMo_say : ByteArray := prog_11_method_58_code
def yMo_say : MethodName := ⟨"ChessRulesModel", "say", "(C)V"⟩
def wsMo_say : List Cond := Cond.code yMo_say cMo_say 2 none :: BIG
theorem dMo_say_0 : decode cMo_say 0 = .ok (.aload_n 0, 1) := by decide +kernel
theorem dMo_say_1 : decode cMo_say 1 = .ok (.getfield 13, 3) := by decide +kernel
theorem dMo_say_4 : decode cMo_say 4 = .ok (.aload_n 0, 1) := by decide +kernel
theorem dMo_say_5 : decode cMo_say 5 = .ok (.getfield 224, 3) := by decide +kernel
theorem dMo_say_8 : decode cMo_say 8 = .ok (.iload_n 1, 1) := by decide +kernel
theorem dMo_say_9 : decode cMo_say 9 = .ok (.castore, 1) := by decide +kernel
theorem dMo_say_10 : decode cMo_say 10 = .ok (.aload_n 0, 1) := by decide +kernel
theorem dMo_say_11 : decode cMo_say 11 = .ok (.dup, 1) := by decide +kernel
theorem dMo_say_12 : decode cMo_say 12 = .ok (.getfield 224, 3) := by decide +kernel
theorem dMo_say_15 : decode cMo_say 15 = .ok (.iconst 1, 1) := by decide +kernel
theorem dMo_say_16 : decode cMo_say 16 = .ok (.iadd, 1) := by decide +kernel
theorem dMo_say_17 : decode cMo_say 17 = .ok (.putfield 224, 3) := by decide +kernel
theorem dMo_say_20 : decode cMo_say 20 = .ok (.return_, 1) := by decide +kernel

def f_Mo_say (oS_told : Int32) (oS_out : Nat → Int32) (ch : Int32) : Int32 × (Nat → Int32) :=
  (oS_told + 1, upd oS_out oS_told.toNatClampNeg (vp_nar .char ch))
theorem f_Mo_say_eq (oS_told : Int32) (oS_out : Nat → Int32) (ch : Int32) : f_Mo_say oS_told oS_out ch =
  (oS_told + 1, upd oS_out oS_told.toNatClampNeg (vp_nar .char ch)) := rfl

set_option maxHeartbeats 4000000 in
set_option maxRecDepth 100000 in
theorem c_Mo_say (l : Launch) (dC : Nat → ClassId) (dI : Nat → Nat → Nat) (cI cJ cC : ClassId) (ad : Nat → Nat) (o o_text o_out o_men o_pastMen o_pastSide o_pastRights o_pastPassed o_pastClock o_pastNumber o_pastTakes o_playedMoves o_keptMen o_keptRest o_lists o_counts : Nat) (sz : Nat) (oS_thrown : Int32) (oS_typed : Int32) (oS_text : Nat → Int32) (oS_told : Int32) (oS_out : Nat → Int32) (oS_men : Nat → Int32) (oS_side : Int32) (oS_rights : Int32) (oS_passed : Int32) (oS_clock : Int32) (oS_number : Int32) (oS_plies : Int32) (oS_pastMen : Nat → Int32) (oS_pastSide : Nat → Int32) (oS_pastRights : Nat → Int32) (oS_pastPassed : Nat → Int32) (oS_pastClock : Nat → Int32) (oS_pastNumber : Nat → Int32) (oS_pastTakes : Nat → Int64) (oS_playedMoves : Nat → Int32) (oS_keptMen : Nat → Int32) (oS_keptRest : Nat → Int32) (oS_lists : Nat → Int32) (oS_counts : Nat → Int32) (ch : Int32) (hto : 0 ≤ oS_told.toInt ∧ oS_told.toInt < 100) : Met l yMo_say wsMo_say { frames := 0, cells := 0, slots := 0, locals := 0 } (rwP dC dI (TYS cI cJ cC) [.ref o, .int ch] [(o, .inr (6, [.int oS_thrown, .int oS_typed, .ref o_text, .int oS_told, .ref o_out, .ref o_men, .int oS_side, .int oS_rights, .int oS_passed, .int oS_clock, .int oS_number, .int oS_plies, .ref o_pastMen, .ref o_pastSide, .ref o_pastRights, .ref o_pastPassed, .ref o_pastClock, .ref o_pastNumber, .ref o_pastTakes, .ref o_playedMoves, .ref o_keptMen, .ref o_keptRest, .ref o_lists, .ref o_counts])), (o_text, .inl (cC, 100, .inl oS_text)), (o_out, .inl (cC, 100, .inl oS_out)), (o_men, .inl (cI, 64, .inl oS_men)), (o_pastMen, .inl (cI, 25664, .inl oS_pastMen)), (o_pastSide, .inl (cI, 401, .inl oS_pastSide)), (o_pastRights, .inl (cI, 401, .inl oS_pastRights)), (o_pastPassed, .inl (cI, 401, .inl oS_pastPassed)), (o_pastClock, .inl (cI, 401, .inl oS_pastClock)), (o_pastNumber, .inl (cI, 401, .inl oS_pastNumber)), (o_pastTakes, .inl (cJ, 401, .inr (.inl oS_pastTakes))), (o_playedMoves, .inl (cI, 400, .inl oS_playedMoves)), (o_keptMen, .inl (cI, 384, .inl oS_keptMen)), (o_keptRest, .inl (cI, 30, .inl oS_keptRest)), (o_lists, .inl (cI, 8192, .inl oS_lists)), (o_counts, .inl (cI, 4, .inl oS_counts))] sz (GS ad)) (va_Qv (fun _ : Unit => True) (rwB dC dI (TYS cI cJ cC) [(o, .inr (6, [.int oS_thrown, .int oS_typed, .ref o_text, .int ((f_Mo_say oS_told oS_out ch).1), .ref o_out, .ref o_men, .int oS_side, .int oS_rights, .int oS_passed, .int oS_clock, .int oS_number, .int oS_plies, .ref o_pastMen, .ref o_pastSide, .ref o_pastRights, .ref o_pastPassed, .ref o_pastClock, .ref o_pastNumber, .ref o_pastTakes, .ref o_playedMoves, .ref o_keptMen, .ref o_keptRest, .ref o_lists, .ref o_counts])), (o_text, .inl (cC, 100, .inl oS_text)), (o_out, .inl (cC, 100, .inl ((f_Mo_say oS_told oS_out ch).2))), (o_men, .inl (cI, 64, .inl oS_men)), (o_pastMen, .inl (cI, 25664, .inl oS_pastMen)), (o_pastSide, .inl (cI, 401, .inl oS_pastSide)), (o_pastRights, .inl (cI, 401, .inl oS_pastRights)), (o_pastPassed, .inl (cI, 401, .inl oS_pastPassed)), (o_pastClock, .inl (cI, 401, .inl oS_pastClock)), (o_pastNumber, .inl (cI, 401, .inl oS_pastNumber)), (o_pastTakes, .inl (cJ, 401, .inr (.inl oS_pastTakes))), (o_playedMoves, .inl (cI, 400, .inl oS_playedMoves)), (o_keptMen, .inl (cI, 384, .inl oS_keptMen)), (o_keptRest, .inl (cI, 30, .inl oS_keptRest)), (o_lists, .inl (cI, 8192, .inl oS_lists)), (o_counts, .inl (cI, 4, .inl oS_counts))] (va_A [(o, .inr (6, [.int oS_thrown, .int oS_typed, .ref o_text, .int oS_told, .ref o_out, .ref o_men, .int oS_side, .int oS_rights, .int oS_passed, .int oS_clock, .int oS_number, .int oS_plies, .ref o_pastMen, .ref o_pastSide, .ref o_pastRights, .ref o_pastPassed, .ref o_pastClock, .ref o_pastNumber, .ref o_pastTakes, .ref o_playedMoves, .ref o_keptMen, .ref o_keptRest, .ref o_lists, .ref o_counts])), (o_text, .inl (cC, 100, .inl oS_text)), (o_out, .inl (cC, 100, .inl oS_out)), (o_men, .inl (cI, 64, .inl oS_men)), (o_pastMen, .inl (cI, 25664, .inl oS_pastMen)), (o_pastSide, .inl (cI, 401, .inl oS_pastSide)), (o_pastRights, .inl (cI, 401, .inl oS_pastRights)), (o_pastPassed, .inl (cI, 401, .inl oS_pastPassed)), (o_pastClock, .inl (cI, 401, .inl oS_pastClock)), (o_pastNumber, .inl (cI, 401, .inl oS_pastNumber)), (o_pastTakes, .inl (cJ, 401, .inr (.inl oS_pastTakes))), (o_playedMoves, .inl (cI, 400, .inl oS_playedMoves)), (o_keptMen, .inl (cI, 384, .inl oS_keptMen)), (o_keptRest, .inl (cI, 30, .inl oS_keptRest)), (o_lists, .inl (cI, 8192, .inl oS_lists)), (o_counts, .inl (cI, 4, .inl oS_counts))] sz)) (va_A [(o, .inr (6, [.int oS_thrown, .int oS_typed, .ref o_text, .int oS_told, .ref o_out, .ref o_men, .int oS_side, .int oS_rights, .int oS_passed, .int oS_clock, .int oS_number, .int oS_plies, .ref o_pastMen, .ref o_pastSide, .ref o_pastRights, .ref o_pastPassed, .ref o_pastClock, .ref o_pastNumber, .ref o_pastTakes, .ref o_playedMoves, .ref o_keptMen, .ref o_keptRest, .ref o_lists, .ref o_counts])), (o_text, .inl (cC, 100, .inl oS_text)), (o_out, .inl (cC, 100, .inl oS_out)), (o_men, .inl (cI, 64, .inl oS_men)), (o_pastMen, .inl (cI, 25664, .inl oS_pastMen)), (o_pastSide, .inl (cI, 401, .inl oS_pastSide)), (o_pastRights, .inl (cI, 401, .inl oS_pastRights)), (o_pastPassed, .inl (cI, 401, .inl oS_pastPassed)), (o_pastClock, .inl (cI, 401, .inl oS_pastClock)), (o_pastNumber, .inl (cI, 401, .inl oS_pastNumber)), (o_pastTakes, .inl (cJ, 401, .inr (.inl oS_pastTakes))), (o_playedMoves, .inl (cI, 400, .inl oS_playedMoves)), (o_keptMen, .inl (cI, 384, .inl oS_keptMen)), (o_keptRest, .inl (cI, 30, .inl oS_keptRest)), (o_lists, .inl (cI, 8192, .inl oS_lists)), (o_counts, .inl (cI, 4, .inl oS_counts))] sz)) 0 0 (va_A [(o, .inr (6, [.int oS_thrown, .int oS_typed, .ref o_text, .int oS_told, .ref o_out, .ref o_men, .int oS_side, .int oS_rights, .int oS_passed, .int oS_clock, .int oS_number, .int oS_plies, .ref o_pastMen, .ref o_pastSide, .ref o_pastRights, .ref o_pastPassed, .ref o_pastClock, .ref o_pastNumber, .ref o_pastTakes, .ref o_playedMoves, .ref o_keptMen, .ref o_keptRest, .ref o_lists, .ref o_counts])), (o_text, .inl (cC, 100, .inl oS_text)), (o_out, .inl (cC, 100, .inl oS_out)), (o_men, .inl (cI, 64, .inl oS_men)), (o_pastMen, .inl (cI, 25664, .inl oS_pastMen)), (o_pastSide, .inl (cI, 401, .inl oS_pastSide)), (o_pastRights, .inl (cI, 401, .inl oS_pastRights)), (o_pastPassed, .inl (cI, 401, .inl oS_pastPassed)), (o_pastClock, .inl (cI, 401, .inl oS_pastClock)), (o_pastNumber, .inl (cI, 401, .inl oS_pastNumber)), (o_pastTakes, .inl (cJ, 401, .inr (.inl oS_pastTakes))), (o_playedMoves, .inl (cI, 400, .inl oS_playedMoves)), (o_keptMen, .inl (cI, 384, .inl oS_keptMen)), (o_keptRest, .inl (cI, 30, .inl oS_keptRest)), (o_lists, .inl (cI, 8192, .inl oS_lists)), (o_counts, .inl (cI, 4, .inl oS_counts))] sz) := by
  refine Met.ofW (cc := cMo_say) (maxL := 2) (ret := none) (by decide) rfl ?_
  intro p e s m args below meth c s₁ B hml hv
  obtain ⟨rfl, hsz, hP, hK, hD0, hG⟩ := hv
  have hx := B.exec
  have hb := B.bytes
  have hr := B.returns
  have hB : ∀ w9 ∈ BIG, w9.before ([.ref o, .int ch]).toArray s = true := fun w9 h => atoms_spec (ws := wsMo_say) B.pre w9 (List.mem_cons_of_mem _ h)
  have hown : s.vm.findClass "ChessRulesModel" = some m.cls := findClass_of_methodNamed B.named
  have hlocks := B.notSynchronized
  subst hsz
  have hD := hD0.self (sz := s.heap.size)
  generalize hAe : va_A [(o, .inr (6, [.int oS_thrown, .int oS_typed, .ref o_text, .int oS_told, .ref o_out, .ref o_men, .int oS_side, .int oS_rights, .int oS_passed, .int oS_clock, .int oS_number, .int oS_plies, .ref o_pastMen, .ref o_pastSide, .ref o_pastRights, .ref o_pastPassed, .ref o_pastClock, .ref o_pastNumber, .ref o_pastTakes, .ref o_playedMoves, .ref o_keptMen, .ref o_keptRest, .ref o_lists, .ref o_counts])), (o_text, .inl (cC, 100, .inl oS_text)), (o_out, .inl (cC, 100, .inl oS_out)), (o_men, .inl (cI, 64, .inl oS_men)), (o_pastMen, .inl (cI, 25664, .inl oS_pastMen)), (o_pastSide, .inl (cI, 401, .inl oS_pastSide)), (o_pastRights, .inl (cI, 401, .inl oS_pastRights)), (o_pastPassed, .inl (cI, 401, .inl oS_pastPassed)), (o_pastClock, .inl (cI, 401, .inl oS_pastClock)), (o_pastNumber, .inl (cI, 401, .inl oS_pastNumber)), (o_pastTakes, .inl (cJ, 401, .inr (.inl oS_pastTakes))), (o_playedMoves, .inl (cI, 400, .inl oS_playedMoves)), (o_keptMen, .inl (cI, 384, .inl oS_keptMen)), (o_keptRest, .inl (cI, 30, .inl oS_keptRest)), (o_lists, .inl (cI, 8192, .inl oS_lists)), (o_counts, .inl (cI, 4, .inl oS_counts))] s.heap.size = A at hD hG ⊢
  have hA : ∀ q : Nat, s.heap.size ≤ q → A q := fun q h => by rw [← hAe]; exact Or.inr h
  have hS : va_S A s.heap s.heap [] := va_S.rf
  have hP : va_P (dC, dI) vwCl [(o, .inr (6, [.int oS_thrown, .int oS_typed, .ref o_text, .int oS_told, .ref o_out, .ref o_men, .int oS_side, .int oS_rights, .int oS_passed, .int oS_clock, .int oS_number, .int oS_plies, .ref o_pastMen, .ref o_pastSide, .ref o_pastRights, .ref o_pastPassed, .ref o_pastClock, .ref o_pastNumber, .ref o_pastTakes, .ref o_playedMoves, .ref o_keptMen, .ref o_keptRest, .ref o_lists, .ref o_counts])), (o_text, .inl (cC, 100, .inl oS_text)), (o_out, .inl (cC, 100, .inl oS_out)), (o_men, .inl (cI, 64, .inl oS_men)), (o_pastMen, .inl (cI, 25664, .inl oS_pastMen)), (o_pastSide, .inl (cI, 401, .inl oS_pastSide)), (o_pastRights, .inl (cI, 401, .inl oS_pastRights)), (o_pastPassed, .inl (cI, 401, .inl oS_pastPassed)), (o_pastClock, .inl (cI, 401, .inl oS_pastClock)), (o_pastNumber, .inl (cI, 401, .inl oS_pastNumber)), (o_pastTakes, .inl (cJ, 401, .inr (.inl oS_pastTakes))), (o_playedMoves, .inl (cI, 400, .inl oS_playedMoves)), (o_keptMen, .inl (cI, 384, .inl oS_keptMen)), (o_keptRest, .inl (cI, 30, .inl oS_keptRest)), (o_lists, .inl (cI, 8192, .inl oS_lists)), (o_counts, .inl (cI, 4, .inl oS_counts))] s.heap := hP
  have hl := lv_entry ([.ref o, .int ch]) (n := 2) (Nat.le_of_ble_eq_true rfl)
  rw [lg_entry_eq]
  generalize (lg_sl ([.ref o, .int ch]) ++ List.replicate (2 - (lg_sl ([.ref o, .int ch])).length) Slot.unset).toArray = ls at hl ⊢
  have hl : lv_has ls 2 [(0, .ref o), (1, .int ch)] := hl
  refine lv_aload_n hx hb dMo_say_0 rfl (lv_at hl 0 rfl) ?_
  refine va_get (D := (dC, dI)) (ci := 6) (v := .ref o_out) (C := RMo) (T := TMo) (N := 24) hx hb hB inMo hown hK hP 0 rfl rfl 4 (by decide) (hB _ q5_15) (fun _ h9 => h9) rfl dMo_say_1 ?_
  refine lv_aload_n hx hb dMo_say_4 rfl (lv_at hl 0 rfl) ?_
  refine va_get (D := (dC, dI)) (ci := 6) (v := .int oS_told) (C := RMo) (T := TMo) (N := 24) hx hb hB inMo hown hK hP 0 rfl rfl 3 (by decide) (hB _ q5_14) (fun _ h9 => h9) rfl dMo_say_5 ?_
  refine lv_iload_n hx hb dMo_say_8 rfl (lv_at hl 1 rfl) ?_
  refine va_cast hx hb hK hP hD hS 2 2 rfl rfl (vp_in_iff.mpr (by omega)) dMo_say_9 (fun H locs hP hD hS => ?_)
  have hP : va_P (dC, dI) vwCl [(o, .inr (6, [.int oS_thrown, .int oS_typed, .ref o_text, .int oS_told, .ref o_out, .ref o_men, .int oS_side, .int oS_rights, .int oS_passed, .int oS_clock, .int oS_number, .int oS_plies, .ref o_pastMen, .ref o_pastSide, .ref o_pastRights, .ref o_pastPassed, .ref o_pastClock, .ref o_pastNumber, .ref o_pastTakes, .ref o_playedMoves, .ref o_keptMen, .ref o_keptRest, .ref o_lists, .ref o_counts])), (o_text, .inl (cC, 100, .inl oS_text)), (o_out, .inl (cC, 100, .inl (upd oS_out oS_told.toNatClampNeg (vp_nar .char ch)))), (o_men, .inl (cI, 64, .inl oS_men)), (o_pastMen, .inl (cI, 25664, .inl oS_pastMen)), (o_pastSide, .inl (cI, 401, .inl oS_pastSide)), (o_pastRights, .inl (cI, 401, .inl oS_pastRights)), (o_pastPassed, .inl (cI, 401, .inl oS_pastPassed)), (o_pastClock, .inl (cI, 401, .inl oS_pastClock)), (o_pastNumber, .inl (cI, 401, .inl oS_pastNumber)), (o_pastTakes, .inl (cJ, 401, .inr (.inl oS_pastTakes))), (o_playedMoves, .inl (cI, 400, .inl oS_playedMoves)), (o_keptMen, .inl (cI, 384, .inl oS_keptMen)), (o_keptRest, .inl (cI, 30, .inl oS_keptRest)), (o_lists, .inl (cI, 8192, .inl oS_lists)), (o_counts, .inl (cI, 4, .inl oS_counts))] H := hP
  have hD : va_D A [(o, .inr (6, [.int oS_thrown, .int oS_typed, .ref o_text, .int oS_told, .ref o_out, .ref o_men, .int oS_side, .int oS_rights, .int oS_passed, .int oS_clock, .int oS_number, .int oS_plies, .ref o_pastMen, .ref o_pastSide, .ref o_pastRights, .ref o_pastPassed, .ref o_pastClock, .ref o_pastNumber, .ref o_pastTakes, .ref o_playedMoves, .ref o_keptMen, .ref o_keptRest, .ref o_lists, .ref o_counts])), (o_text, .inl (cC, 100, .inl oS_text)), (o_out, .inl (cC, 100, .inl (upd oS_out oS_told.toNatClampNeg (vp_nar .char ch)))), (o_men, .inl (cI, 64, .inl oS_men)), (o_pastMen, .inl (cI, 25664, .inl oS_pastMen)), (o_pastSide, .inl (cI, 401, .inl oS_pastSide)), (o_pastRights, .inl (cI, 401, .inl oS_pastRights)), (o_pastPassed, .inl (cI, 401, .inl oS_pastPassed)), (o_pastClock, .inl (cI, 401, .inl oS_pastClock)), (o_pastNumber, .inl (cI, 401, .inl oS_pastNumber)), (o_pastTakes, .inl (cJ, 401, .inr (.inl oS_pastTakes))), (o_playedMoves, .inl (cI, 400, .inl oS_playedMoves)), (o_keptMen, .inl (cI, 384, .inl oS_keptMen)), (o_keptRest, .inl (cI, 30, .inl oS_keptRest)), (o_lists, .inl (cI, 8192, .inl oS_lists)), (o_counts, .inl (cI, 4, .inl oS_counts))] := hD
  refine lv_aload_n hx hb dMo_say_10 rfl (lv_at hl 0 rfl) ?_
  refine lv_dup hx hb dMo_say_11 rfl ?_
  refine va_get (D := (dC, dI)) (ci := 6) (v := .int oS_told) (C := RMo) (T := TMo) (N := 24) hx hb hB inMo hown hK hP 0 rfl rfl 3 (by decide) (hB _ q5_14) (fun _ h9 => h9) rfl dMo_say_12 ?_
  refine lv_iconst (v := 1) hx hb dMo_say_15 (by decide) ?_
  refine lv_iadd hx hb dMo_say_16 ?_
  refine va_put (D := (dC, dI)) (ci := 6) (v := .int (oS_told + 1)) (ty := .int) (C := RMo) (T := TMo) (N := 24) hx hb hB inMo tyMo tyMo_ok nmMo hown hK hP hD hS 0 rfl rfl 3 (by decide) (hB _ q5_14) (fun _ h9 => h9) rfl (by decide +kernel) rfl rfl (Nat.le_of_ble_eq_true rfl) dMo_say_17 (fun H locs hP hD hS => ?_)
  have hP : va_P (dC, dI) vwCl [(o, .inr (6, [.int oS_thrown, .int oS_typed, .ref o_text, .int (oS_told + 1), .ref o_out, .ref o_men, .int oS_side, .int oS_rights, .int oS_passed, .int oS_clock, .int oS_number, .int oS_plies, .ref o_pastMen, .ref o_pastSide, .ref o_pastRights, .ref o_pastPassed, .ref o_pastClock, .ref o_pastNumber, .ref o_pastTakes, .ref o_playedMoves, .ref o_keptMen, .ref o_keptRest, .ref o_lists, .ref o_counts])), (o_text, .inl (cC, 100, .inl oS_text)), (o_out, .inl (cC, 100, .inl (upd oS_out oS_told.toNatClampNeg (vp_nar .char ch)))), (o_men, .inl (cI, 64, .inl oS_men)), (o_pastMen, .inl (cI, 25664, .inl oS_pastMen)), (o_pastSide, .inl (cI, 401, .inl oS_pastSide)), (o_pastRights, .inl (cI, 401, .inl oS_pastRights)), (o_pastPassed, .inl (cI, 401, .inl oS_pastPassed)), (o_pastClock, .inl (cI, 401, .inl oS_pastClock)), (o_pastNumber, .inl (cI, 401, .inl oS_pastNumber)), (o_pastTakes, .inl (cJ, 401, .inr (.inl oS_pastTakes))), (o_playedMoves, .inl (cI, 400, .inl oS_playedMoves)), (o_keptMen, .inl (cI, 384, .inl oS_keptMen)), (o_keptRest, .inl (cI, 30, .inl oS_keptRest)), (o_lists, .inl (cI, 8192, .inl oS_lists)), (o_counts, .inl (cI, 4, .inl oS_counts))] H := hP
  have hD : va_D A [(o, .inr (6, [.int oS_thrown, .int oS_typed, .ref o_text, .int (oS_told + 1), .ref o_out, .ref o_men, .int oS_side, .int oS_rights, .int oS_passed, .int oS_clock, .int oS_number, .int oS_plies, .ref o_pastMen, .ref o_pastSide, .ref o_pastRights, .ref o_pastPassed, .ref o_pastClock, .ref o_pastNumber, .ref o_pastTakes, .ref o_playedMoves, .ref o_keptMen, .ref o_keptRest, .ref o_lists, .ref o_counts])), (o_text, .inl (cC, 100, .inl oS_text)), (o_out, .inl (cC, 100, .inl (upd oS_out oS_told.toNatClampNeg (vp_nar .char ch)))), (o_men, .inl (cI, 64, .inl oS_men)), (o_pastMen, .inl (cI, 25664, .inl oS_pastMen)), (o_pastSide, .inl (cI, 401, .inl oS_pastSide)), (o_pastRights, .inl (cI, 401, .inl oS_pastRights)), (o_pastPassed, .inl (cI, 401, .inl oS_pastPassed)), (o_pastClock, .inl (cI, 401, .inl oS_pastClock)), (o_pastNumber, .inl (cI, 401, .inl oS_pastNumber)), (o_pastTakes, .inl (cJ, 401, .inr (.inl oS_pastTakes))), (o_playedMoves, .inl (cI, 400, .inl oS_playedMoves)), (o_keptMen, .inl (cI, 384, .inl oS_keptMen)), (o_keptRest, .inl (cI, 30, .inl oS_keptRest)), (o_lists, .inl (cI, 8192, .inl oS_lists)), (o_counts, .inl (cI, 4, .inl oS_counts))] := hD
  have hv : f_Mo_say oS_told oS_out ch = (oS_told + 1, upd oS_out oS_told.toNatClampNeg (vp_nar .char ch)) := (by rw [f_Mo_say_eq] <;> rfl)
  have hP9 : va_P (dC, dI) vwCl [(o, .inr (6, [.int oS_thrown, .int oS_typed, .ref o_text, .int ((f_Mo_say oS_told oS_out ch).1), .ref o_out, .ref o_men, .int oS_side, .int oS_rights, .int oS_passed, .int oS_clock, .int oS_number, .int oS_plies, .ref o_pastMen, .ref o_pastSide, .ref o_pastRights, .ref o_pastPassed, .ref o_pastClock, .ref o_pastNumber, .ref o_pastTakes, .ref o_playedMoves, .ref o_keptMen, .ref o_keptRest, .ref o_lists, .ref o_counts])), (o_text, .inl (cC, 100, .inl oS_text)), (o_out, .inl (cC, 100, .inl ((f_Mo_say oS_told oS_out ch).2))), (o_men, .inl (cI, 64, .inl oS_men)), (o_pastMen, .inl (cI, 25664, .inl oS_pastMen)), (o_pastSide, .inl (cI, 401, .inl oS_pastSide)), (o_pastRights, .inl (cI, 401, .inl oS_pastRights)), (o_pastPassed, .inl (cI, 401, .inl oS_pastPassed)), (o_pastClock, .inl (cI, 401, .inl oS_pastClock)), (o_pastNumber, .inl (cI, 401, .inl oS_pastNumber)), (o_pastTakes, .inl (cJ, 401, .inr (.inl oS_pastTakes))), (o_playedMoves, .inl (cI, 400, .inl oS_playedMoves)), (o_keptMen, .inl (cI, 384, .inl oS_keptMen)), (o_keptRest, .inl (cI, 30, .inl oS_keptRest)), (o_lists, .inl (cI, 8192, .inl oS_lists)), (o_counts, .inl (cI, 4, .inl oS_counts))] H := by first | (rw [hv]; exact hP.sub [0, 1, 2, 3, 4, 5, 6, 7, 8, 9, 10, 11, 12, 13, 14, 15] rfl) | exact hP.sub [0, 1, 2, 3, 4, 5, 6, 7, 8, 9, 10, 11, 12, 13, 14, 15] rfl
  have hD9 : va_D A [(o, .inr (6, [.int oS_thrown, .int oS_typed, .ref o_text, .int ((f_Mo_say oS_told oS_out ch).1), .ref o_out, .ref o_men, .int oS_side, .int oS_rights, .int oS_passed, .int oS_clock, .int oS_number, .int oS_plies, .ref o_pastMen, .ref o_pastSide, .ref o_pastRights, .ref o_pastPassed, .ref o_pastClock, .ref o_pastNumber, .ref o_pastTakes, .ref o_playedMoves, .ref o_keptMen, .ref o_keptRest, .ref o_lists, .ref o_counts])), (o_text, .inl (cC, 100, .inl oS_text)), (o_out, .inl (cC, 100, .inl ((f_Mo_say oS_told oS_out ch).2))), (o_men, .inl (cI, 64, .inl oS_men)), (o_pastMen, .inl (cI, 25664, .inl oS_pastMen)), (o_pastSide, .inl (cI, 401, .inl oS_pastSide)), (o_pastRights, .inl (cI, 401, .inl oS_pastRights)), (o_pastPassed, .inl (cI, 401, .inl oS_pastPassed)), (o_pastClock, .inl (cI, 401, .inl oS_pastClock)), (o_pastNumber, .inl (cI, 401, .inl oS_pastNumber)), (o_pastTakes, .inl (cJ, 401, .inr (.inl oS_pastTakes))), (o_playedMoves, .inl (cI, 400, .inl oS_playedMoves)), (o_keptMen, .inl (cI, 384, .inl oS_keptMen)), (o_keptRest, .inl (cI, 30, .inl oS_keptRest)), (o_lists, .inl (cI, 8192, .inl oS_lists)), (o_counts, .inl (cI, 4, .inl oS_counts))] := by first | (rw [hv]; exact hD.sub [0, 1, 2, 3, 4, 5, 6, 7, 8, 9, 10, 11, 12, 13, 14, 15] (by decide) rfl) | exact hD.sub [0, 1, 2, 3, 4, 5, 6, 7, 8, 9, 10, 11, 12, 13, 14, 15] (by decide) rfl
  exact rw_retv hx hb hr hlocks hK hP9 hD9 hS dMo_say_20

abbrev cMo_out : ByteArray := prog_11_method_61_code
def yMo_out : MethodName := ⟨"ChessRulesModel", "out", "(I)I"⟩
def wsMo_out : List Cond := Cond.code yMo_out cMo_out 2 (some .int) :: BIG
theorem dMo_out_0 : decode cMo_out 0 = .ok (.aload_n 0, 1) := by decide +kernel
theorem dMo_out_1 : decode cMo_out 1 = .ok (.iconst 0, 1) := by decide +kernel
theorem dMo_out_2 : decode cMo_out 2 = .ok (.putfield 70, 3) := by decide +kernel
theorem dMo_out_5 : decode cMo_out 5 = .ok (.iload_n 1, 1) := by decide +kernel
theorem dMo_out_6 : decode cMo_out 6 = .ok (.ifCond .lt 11, 3) := by decide +kernel
theorem dMo_out_9 : decode cMo_out 9 = .ok (.iload_n 1, 1) := by decide +kernel
theorem dMo_out_10 : decode cMo_out 10 = .ok (.aload_n 0, 1) := by decide +kernel
theorem dMo_out_11 : decode cMo_out 11 = .ok (.getfield 224, 3) := by decide +kernel
theorem dMo_out_14 : decode cMo_out 14 = .ok (.if_icmp .lt 7, 3) := by decide +kernel
theorem dMo_out_17 : decode cMo_out 17 = .ok (.iconst 0, 1) := by decide +kernel
theorem dMo_out_18 : decode cMo_out 18 = .ok (.goto 9, 3) := by decide +kernel
theorem dMo_out_21 : decode cMo_out 21 = .ok (.aload_n 0, 1) := by decide +kernel
theorem dMo_out_22 : decode cMo_out 22 = .ok (.getfield 13, 3) := by decide +kernel
theorem dMo_out_25 : decode cMo_out 25 = .ok (.iload_n 1, 1) := by decide +kernel
theorem dMo_out_26 : decode cMo_out 26 = .ok (.caload, 1) := by decide +kernel
theorem dMo_out_27 : decode cMo_out 27 = .ok (.ireturn, 1) := by decide +kernel

def f_Mo_out (oS_told : Int32) (oS_out : Nat → Int32) (i : Int32) : Int32 × Int32 :=
  (if i < 0 then (0, 0) else (if i < oS_told then (oS_out i.toNatClampNeg, 0) else (0, 0)))
theorem f_Mo_out_eq (oS_told : Int32) (oS_out : Nat → Int32) (i : Int32) : f_Mo_out oS_told oS_out i =
  (if i < 0 then (0, 0) else (if i < oS_told then (oS_out i.toNatClampNeg, 0) else (0, 0))) := rfl

set_option maxHeartbeats 4000000 in
set_option maxRecDepth 100000 in
theorem c_Mo_out (l : Launch) (dC : Nat → ClassId) (dI : Nat → Nat → Nat) (cI cJ cC : ClassId) (ad : Nat → Nat) (o o_text o_out o_men o_pastMen o_pastSide o_pastRights o_pastPassed o_pastClock o_pastNumber o_pastTakes o_playedMoves o_keptMen o_keptRest o_lists o_counts : Nat) (sz : Nat) (oS_thrown : Int32) (oS_typed : Int32) (oS_text : Nat → Int32) (oS_told : Int32) (oS_out : Nat → Int32) (oS_men : Nat → Int32) (oS_side : Int32) (oS_rights : Int32) (oS_passed : Int32) (oS_clock : Int32) (oS_number : Int32) (oS_plies : Int32) (oS_pastMen : Nat → Int32) (oS_pastSide : Nat → Int32) (oS_pastRights : Nat → Int32) (oS_pastPassed : Nat → Int32) (oS_pastClock : Nat → Int32) (oS_pastNumber : Nat → Int32) (oS_pastTakes : Nat → Int64) (oS_playedMoves : Nat → Int32) (oS_keptMen : Nat → Int32) (oS_keptRest : Nat → Int32) (oS_lists : Nat → Int32) (oS_counts : Nat → Int32) (i : Int32) (hto : 0 ≤ oS_told.toInt ∧ oS_told.toInt ≤ 100) : Met l yMo_out wsMo_out { frames := 0, cells := 0, slots := 0, locals := 0 } (rwP dC dI (TYS cI cJ cC) [.ref o, .int i] [(o, .inr (6, [.int oS_thrown, .int oS_typed, .ref o_text, .int oS_told, .ref o_out, .ref o_men, .int oS_side, .int oS_rights, .int oS_passed, .int oS_clock, .int oS_number, .int oS_plies, .ref o_pastMen, .ref o_pastSide, .ref o_pastRights, .ref o_pastPassed, .ref o_pastClock, .ref o_pastNumber, .ref o_pastTakes, .ref o_playedMoves, .ref o_keptMen, .ref o_keptRest, .ref o_lists, .ref o_counts])), (o_text, .inl (cC, 100, .inl oS_text)), (o_out, .inl (cC, 100, .inl oS_out)), (o_men, .inl (cI, 64, .inl oS_men)), (o_pastMen, .inl (cI, 25664, .inl oS_pastMen)), (o_pastSide, .inl (cI, 401, .inl oS_pastSide)), (o_pastRights, .inl (cI, 401, .inl oS_pastRights)), (o_pastPassed, .inl (cI, 401, .inl oS_pastPassed)), (o_pastClock, .inl (cI, 401, .inl oS_pastClock)), (o_pastNumber, .inl (cI, 401, .inl oS_pastNumber)), (o_pastTakes, .inl (cJ, 401, .inr (.inl oS_pastTakes))), (o_playedMoves, .inl (cI, 400, .inl oS_playedMoves)), (o_keptMen, .inl (cI, 384, .inl oS_keptMen)), (o_keptRest, .inl (cI, 30, .inl oS_keptRest)), (o_lists, .inl (cI, 8192, .inl oS_lists)), (o_counts, .inl (cI, 4, .inl oS_counts))] sz (GS ad)) (va_Qi (fun r (_ : Unit) => r = (f_Mo_out oS_told oS_out i).1) (rwB dC dI (TYS cI cJ cC) [(o, .inr (6, [.int ((f_Mo_out oS_told oS_out i).2), .int oS_typed, .ref o_text, .int oS_told, .ref o_out, .ref o_men, .int oS_side, .int oS_rights, .int oS_passed, .int oS_clock, .int oS_number, .int oS_plies, .ref o_pastMen, .ref o_pastSide, .ref o_pastRights, .ref o_pastPassed, .ref o_pastClock, .ref o_pastNumber, .ref o_pastTakes, .ref o_playedMoves, .ref o_keptMen, .ref o_keptRest, .ref o_lists, .ref o_counts])), (o_text, .inl (cC, 100, .inl oS_text)), (o_out, .inl (cC, 100, .inl oS_out)), (o_men, .inl (cI, 64, .inl oS_men)), (o_pastMen, .inl (cI, 25664, .inl oS_pastMen)), (o_pastSide, .inl (cI, 401, .inl oS_pastSide)), (o_pastRights, .inl (cI, 401, .inl oS_pastRights)), (o_pastPassed, .inl (cI, 401, .inl oS_pastPassed)), (o_pastClock, .inl (cI, 401, .inl oS_pastClock)), (o_pastNumber, .inl (cI, 401, .inl oS_pastNumber)), (o_pastTakes, .inl (cJ, 401, .inr (.inl oS_pastTakes))), (o_playedMoves, .inl (cI, 400, .inl oS_playedMoves)), (o_keptMen, .inl (cI, 384, .inl oS_keptMen)), (o_keptRest, .inl (cI, 30, .inl oS_keptRest)), (o_lists, .inl (cI, 8192, .inl oS_lists)), (o_counts, .inl (cI, 4, .inl oS_counts))] (va_A [(o, .inr (6, [.int oS_thrown, .int oS_typed, .ref o_text, .int oS_told, .ref o_out, .ref o_men, .int oS_side, .int oS_rights, .int oS_passed, .int oS_clock, .int oS_number, .int oS_plies, .ref o_pastMen, .ref o_pastSide, .ref o_pastRights, .ref o_pastPassed, .ref o_pastClock, .ref o_pastNumber, .ref o_pastTakes, .ref o_playedMoves, .ref o_keptMen, .ref o_keptRest, .ref o_lists, .ref o_counts])), (o_text, .inl (cC, 100, .inl oS_text)), (o_out, .inl (cC, 100, .inl oS_out)), (o_men, .inl (cI, 64, .inl oS_men)), (o_pastMen, .inl (cI, 25664, .inl oS_pastMen)), (o_pastSide, .inl (cI, 401, .inl oS_pastSide)), (o_pastRights, .inl (cI, 401, .inl oS_pastRights)), (o_pastPassed, .inl (cI, 401, .inl oS_pastPassed)), (o_pastClock, .inl (cI, 401, .inl oS_pastClock)), (o_pastNumber, .inl (cI, 401, .inl oS_pastNumber)), (o_pastTakes, .inl (cJ, 401, .inr (.inl oS_pastTakes))), (o_playedMoves, .inl (cI, 400, .inl oS_playedMoves)), (o_keptMen, .inl (cI, 384, .inl oS_keptMen)), (o_keptRest, .inl (cI, 30, .inl oS_keptRest)), (o_lists, .inl (cI, 8192, .inl oS_lists)), (o_counts, .inl (cI, 4, .inl oS_counts))] sz)) (va_A [(o, .inr (6, [.int oS_thrown, .int oS_typed, .ref o_text, .int oS_told, .ref o_out, .ref o_men, .int oS_side, .int oS_rights, .int oS_passed, .int oS_clock, .int oS_number, .int oS_plies, .ref o_pastMen, .ref o_pastSide, .ref o_pastRights, .ref o_pastPassed, .ref o_pastClock, .ref o_pastNumber, .ref o_pastTakes, .ref o_playedMoves, .ref o_keptMen, .ref o_keptRest, .ref o_lists, .ref o_counts])), (o_text, .inl (cC, 100, .inl oS_text)), (o_out, .inl (cC, 100, .inl oS_out)), (o_men, .inl (cI, 64, .inl oS_men)), (o_pastMen, .inl (cI, 25664, .inl oS_pastMen)), (o_pastSide, .inl (cI, 401, .inl oS_pastSide)), (o_pastRights, .inl (cI, 401, .inl oS_pastRights)), (o_pastPassed, .inl (cI, 401, .inl oS_pastPassed)), (o_pastClock, .inl (cI, 401, .inl oS_pastClock)), (o_pastNumber, .inl (cI, 401, .inl oS_pastNumber)), (o_pastTakes, .inl (cJ, 401, .inr (.inl oS_pastTakes))), (o_playedMoves, .inl (cI, 400, .inl oS_playedMoves)), (o_keptMen, .inl (cI, 384, .inl oS_keptMen)), (o_keptRest, .inl (cI, 30, .inl oS_keptRest)), (o_lists, .inl (cI, 8192, .inl oS_lists)), (o_counts, .inl (cI, 4, .inl oS_counts))] sz)) 0 0 (va_A [(o, .inr (6, [.int oS_thrown, .int oS_typed, .ref o_text, .int oS_told, .ref o_out, .ref o_men, .int oS_side, .int oS_rights, .int oS_passed, .int oS_clock, .int oS_number, .int oS_plies, .ref o_pastMen, .ref o_pastSide, .ref o_pastRights, .ref o_pastPassed, .ref o_pastClock, .ref o_pastNumber, .ref o_pastTakes, .ref o_playedMoves, .ref o_keptMen, .ref o_keptRest, .ref o_lists, .ref o_counts])), (o_text, .inl (cC, 100, .inl oS_text)), (o_out, .inl (cC, 100, .inl oS_out)), (o_men, .inl (cI, 64, .inl oS_men)), (o_pastMen, .inl (cI, 25664, .inl oS_pastMen)), (o_pastSide, .inl (cI, 401, .inl oS_pastSide)), (o_pastRights, .inl (cI, 401, .inl oS_pastRights)), (o_pastPassed, .inl (cI, 401, .inl oS_pastPassed)), (o_pastClock, .inl (cI, 401, .inl oS_pastClock)), (o_pastNumber, .inl (cI, 401, .inl oS_pastNumber)), (o_pastTakes, .inl (cJ, 401, .inr (.inl oS_pastTakes))), (o_playedMoves, .inl (cI, 400, .inl oS_playedMoves)), (o_keptMen, .inl (cI, 384, .inl oS_keptMen)), (o_keptRest, .inl (cI, 30, .inl oS_keptRest)), (o_lists, .inl (cI, 8192, .inl oS_lists)), (o_counts, .inl (cI, 4, .inl oS_counts))] sz) := by
  refine Met.ofW (cc := cMo_out) (maxL := 2) (ret := (some .int)) (by decide) rfl ?_
  intro p e s m args below meth c s₁ B hml hv
  obtain ⟨rfl, hsz, hP, hK, hD0, hG⟩ := hv
  have hx := B.exec
  have hb := B.bytes
  have hr := B.returns
  have hB : ∀ w9 ∈ BIG, w9.before ([.ref o, .int i]).toArray s = true := fun w9 h => atoms_spec (ws := wsMo_out) B.pre w9 (List.mem_cons_of_mem _ h)
  have hown : s.vm.findClass "ChessRulesModel" = some m.cls := findClass_of_methodNamed B.named
  have hlocks := B.notSynchronized
  subst hsz
  have hD := hD0.self (sz := s.heap.size)
  generalize hAe : va_A [(o, .inr (6, [.int oS_thrown, .int oS_typed, .ref o_text, .int oS_told, .ref o_out, .ref o_men, .int oS_side, .int oS_rights, .int oS_passed, .int oS_clock, .int oS_number, .int oS_plies, .ref o_pastMen, .ref o_pastSide, .ref o_pastRights, .ref o_pastPassed, .ref o_pastClock, .ref o_pastNumber, .ref o_pastTakes, .ref o_playedMoves, .ref o_keptMen, .ref o_keptRest, .ref o_lists, .ref o_counts])), (o_text, .inl (cC, 100, .inl oS_text)), (o_out, .inl (cC, 100, .inl oS_out)), (o_men, .inl (cI, 64, .inl oS_men)), (o_pastMen, .inl (cI, 25664, .inl oS_pastMen)), (o_pastSide, .inl (cI, 401, .inl oS_pastSide)), (o_pastRights, .inl (cI, 401, .inl oS_pastRights)), (o_pastPassed, .inl (cI, 401, .inl oS_pastPassed)), (o_pastClock, .inl (cI, 401, .inl oS_pastClock)), (o_pastNumber, .inl (cI, 401, .inl oS_pastNumber)), (o_pastTakes, .inl (cJ, 401, .inr (.inl oS_pastTakes))), (o_playedMoves, .inl (cI, 400, .inl oS_playedMoves)), (o_keptMen, .inl (cI, 384, .inl oS_keptMen)), (o_keptRest, .inl (cI, 30, .inl oS_keptRest)), (o_lists, .inl (cI, 8192, .inl oS_lists)), (o_counts, .inl (cI, 4, .inl oS_counts))] s.heap.size = A at hD hG ⊢
  have hA : ∀ q : Nat, s.heap.size ≤ q → A q := fun q h => by rw [← hAe]; exact Or.inr h
  have hS : va_S A s.heap s.heap [] := va_S.rf
  have hP : va_P (dC, dI) vwCl [(o, .inr (6, [.int oS_thrown, .int oS_typed, .ref o_text, .int oS_told, .ref o_out, .ref o_men, .int oS_side, .int oS_rights, .int oS_passed, .int oS_clock, .int oS_number, .int oS_plies, .ref o_pastMen, .ref o_pastSide, .ref o_pastRights, .ref o_pastPassed, .ref o_pastClock, .ref o_pastNumber, .ref o_pastTakes, .ref o_playedMoves, .ref o_keptMen, .ref o_keptRest, .ref o_lists, .ref o_counts])), (o_text, .inl (cC, 100, .inl oS_text)), (o_out, .inl (cC, 100, .inl oS_out)), (o_men, .inl (cI, 64, .inl oS_men)), (o_pastMen, .inl (cI, 25664, .inl oS_pastMen)), (o_pastSide, .inl (cI, 401, .inl oS_pastSide)), (o_pastRights, .inl (cI, 401, .inl oS_pastRights)), (o_pastPassed, .inl (cI, 401, .inl oS_pastPassed)), (o_pastClock, .inl (cI, 401, .inl oS_pastClock)), (o_pastNumber, .inl (cI, 401, .inl oS_pastNumber)), (o_pastTakes, .inl (cJ, 401, .inr (.inl oS_pastTakes))), (o_playedMoves, .inl (cI, 400, .inl oS_playedMoves)), (o_keptMen, .inl (cI, 384, .inl oS_keptMen)), (o_keptRest, .inl (cI, 30, .inl oS_keptRest)), (o_lists, .inl (cI, 8192, .inl oS_lists)), (o_counts, .inl (cI, 4, .inl oS_counts))] s.heap := hP
  have hl := lv_entry ([.ref o, .int i]) (n := 2) (Nat.le_of_ble_eq_true rfl)
  rw [lg_entry_eq]
  generalize (lg_sl ([.ref o, .int i]) ++ List.replicate (2 - (lg_sl ([.ref o, .int i])).length) Slot.unset).toArray = ls at hl ⊢
  have hl : lv_has ls 2 [(0, .ref o), (1, .int i)] := hl
  refine lv_aload_n hx hb dMo_out_0 rfl (lv_at hl 0 rfl) ?_
  refine lv_iconst (v := 0) hx hb dMo_out_1 (by decide) ?_
  refine va_put (D := (dC, dI)) (ci := 6) (v := .int 0) (ty := .int) (C := RMo) (T := TMo) (N := 24) hx hb hB inMo tyMo tyMo_ok nmMo hown hK hP hD hS 0 rfl rfl 0 (by decide) (hB _ q5_11) (fun _ h9 => h9) rfl (by decide +kernel) rfl rfl (Nat.le_of_ble_eq_true rfl) dMo_out_2 (fun H locs hP hD hS => ?_)
  have hP : va_P (dC, dI) vwCl [(o, .inr (6, [.int 0, .int oS_typed, .ref o_text, .int oS_told, .ref o_out, .ref o_men, .int oS_side, .int oS_rights, .int oS_passed, .int oS_clock, .int oS_number, .int oS_plies, .ref o_pastMen, .ref o_pastSide, .ref o_pastRights, .ref o_pastPassed, .ref o_pastClock, .ref o_pastNumber, .ref o_pastTakes, .ref o_playedMoves, .ref o_keptMen, .ref o_keptRest, .ref o_lists, .ref o_counts])), (o_text, .inl (cC, 100, .inl oS_text)), (o_out, .inl (cC, 100, .inl oS_out)), (o_men, .inl (cI, 64, .inl oS_men)), (o_pastMen, .inl (cI, 25664, .inl oS_pastMen)), (o_pastSide, .inl (cI, 401, .inl oS_pastSide)), (o_pastRights, .inl (cI, 401, .inl oS_pastRights)), (o_pastPassed, .inl (cI, 401, .inl oS_pastPassed)), (o_pastClock, .inl (cI, 401, .inl oS_pastClock)), (o_pastNumber, .inl (cI, 401, .inl oS_pastNumber)), (o_pastTakes, .inl (cJ, 401, .inr (.inl oS_pastTakes))), (o_playedMoves, .inl (cI, 400, .inl oS_playedMoves)), (o_keptMen, .inl (cI, 384, .inl oS_keptMen)), (o_keptRest, .inl (cI, 30, .inl oS_keptRest)), (o_lists, .inl (cI, 8192, .inl oS_lists)), (o_counts, .inl (cI, 4, .inl oS_counts))] H := hP
  have hD : va_D A [(o, .inr (6, [.int 0, .int oS_typed, .ref o_text, .int oS_told, .ref o_out, .ref o_men, .int oS_side, .int oS_rights, .int oS_passed, .int oS_clock, .int oS_number, .int oS_plies, .ref o_pastMen, .ref o_pastSide, .ref o_pastRights, .ref o_pastPassed, .ref o_pastClock, .ref o_pastNumber, .ref o_pastTakes, .ref o_playedMoves, .ref o_keptMen, .ref o_keptRest, .ref o_lists, .ref o_counts])), (o_text, .inl (cC, 100, .inl oS_text)), (o_out, .inl (cC, 100, .inl oS_out)), (o_men, .inl (cI, 64, .inl oS_men)), (o_pastMen, .inl (cI, 25664, .inl oS_pastMen)), (o_pastSide, .inl (cI, 401, .inl oS_pastSide)), (o_pastRights, .inl (cI, 401, .inl oS_pastRights)), (o_pastPassed, .inl (cI, 401, .inl oS_pastPassed)), (o_pastClock, .inl (cI, 401, .inl oS_pastClock)), (o_pastNumber, .inl (cI, 401, .inl oS_pastNumber)), (o_pastTakes, .inl (cJ, 401, .inr (.inl oS_pastTakes))), (o_playedMoves, .inl (cI, 400, .inl oS_playedMoves)), (o_keptMen, .inl (cI, 384, .inl oS_keptMen)), (o_keptRest, .inl (cI, 30, .inl oS_keptRest)), (o_lists, .inl (cI, 8192, .inl oS_lists)), (o_counts, .inl (cI, 4, .inl oS_counts))] := hD
  refine lv_iload_n hx hb dMo_out_5 rfl (lv_at hl 1 rfl) ?_
  refine lv_if_lt (tgt := 17) hx hb dMo_out_6 (by decide) (fun c_1 => ?_) (fun c_1 => ?_)
  · refine lv_iconst (v := 0) hx hb dMo_out_17 (by decide) ?_
    refine lv_goto (tgt := 27) hx hb dMo_out_18 (by decide) ?_
    have hv : f_Mo_out oS_told oS_out i = (0, 0) := (by rw [f_Mo_out_eq, if_pos c_1] <;> rfl)
    have hP9 : va_P (dC, dI) vwCl [(o, .inr (6, [.int ((f_Mo_out oS_told oS_out i).2), .int oS_typed, .ref o_text, .int oS_told, .ref o_out, .ref o_men, .int oS_side, .int oS_rights, .int oS_passed, .int oS_clock, .int oS_number, .int oS_plies, .ref o_pastMen, .ref o_pastSide, .ref o_pastRights, .ref o_pastPassed, .ref o_pastClock, .ref o_pastNumber, .ref o_pastTakes, .ref o_playedMoves, .ref o_keptMen, .ref o_keptRest, .ref o_lists, .ref o_counts])), (o_text, .inl (cC, 100, .inl oS_text)), (o_out, .inl (cC, 100, .inl oS_out)), (o_men, .inl (cI, 64, .inl oS_men)), (o_pastMen, .inl (cI, 25664, .inl oS_pastMen)), (o_pastSide, .inl (cI, 401, .inl oS_pastSide)), (o_pastRights, .inl (cI, 401, .inl oS_pastRights)), (o_pastPassed, .inl (cI, 401, .inl oS_pastPassed)), (o_pastClock, .inl (cI, 401, .inl oS_pastClock)), (o_pastNumber, .inl (cI, 401, .inl oS_pastNumber)), (o_pastTakes, .inl (cJ, 401, .inr (.inl oS_pastTakes))), (o_playedMoves, .inl (cI, 400, .inl oS_playedMoves)), (o_keptMen, .inl (cI, 384, .inl oS_keptMen)), (o_keptRest, .inl (cI, 30, .inl oS_keptRest)), (o_lists, .inl (cI, 8192, .inl oS_lists)), (o_counts, .inl (cI, 4, .inl oS_counts))] H := by first | (rw [hv]; exact hP.sub [0, 1, 2, 3, 4, 5, 6, 7, 8, 9, 10, 11, 12, 13, 14, 15] rfl) | exact hP.sub [0, 1, 2, 3, 4, 5, 6, 7, 8, 9, 10, 11, 12, 13, 14, 15] rfl
    have hD9 : va_D A [(o, .inr (6, [.int ((f_Mo_out oS_told oS_out i).2), .int oS_typed, .ref o_text, .int oS_told, .ref o_out, .ref o_men, .int oS_side, .int oS_rights, .int oS_passed, .int oS_clock, .int oS_number, .int oS_plies, .ref o_pastMen, .ref o_pastSide, .ref o_pastRights, .ref o_pastPassed, .ref o_pastClock, .ref o_pastNumber, .ref o_pastTakes, .ref o_playedMoves, .ref o_keptMen, .ref o_keptRest, .ref o_lists, .ref o_counts])), (o_text, .inl (cC, 100, .inl oS_text)), (o_out, .inl (cC, 100, .inl oS_out)), (o_men, .inl (cI, 64, .inl oS_men)), (o_pastMen, .inl (cI, 25664, .inl oS_pastMen)), (o_pastSide, .inl (cI, 401, .inl oS_pastSide)), (o_pastRights, .inl (cI, 401, .inl oS_pastRights)), (o_pastPassed, .inl (cI, 401, .inl oS_pastPassed)), (o_pastClock, .inl (cI, 401, .inl oS_pastClock)), (o_pastNumber, .inl (cI, 401, .inl oS_pastNumber)), (o_pastTakes, .inl (cJ, 401, .inr (.inl oS_pastTakes))), (o_playedMoves, .inl (cI, 400, .inl oS_playedMoves)), (o_keptMen, .inl (cI, 384, .inl oS_keptMen)), (o_keptRest, .inl (cI, 30, .inl oS_keptRest)), (o_lists, .inl (cI, 8192, .inl oS_lists)), (o_counts, .inl (cI, 4, .inl oS_counts))] := by first | (rw [hv]; exact hD.sub [0, 1, 2, 3, 4, 5, 6, 7, 8, 9, 10, 11, 12, 13, 14, 15] (by decide) rfl) | exact hD.sub [0, 1, 2, 3, 4, 5, 6, 7, 8, 9, 10, 11, 12, 13, 14, 15] (by decide) rfl
    exact rw_reti hx hb hr hlocks hK hP9 hD9 hS dMo_out_27 (by rw [hv])
  · refine lv_iload_n hx hb dMo_out_9 rfl (lv_at hl 1 rfl) ?_
    refine lv_aload_n hx hb dMo_out_10 rfl (lv_at hl 0 rfl) ?_
    refine va_get (D := (dC, dI)) (ci := 6) (v := .int oS_told) (C := RMo) (T := TMo) (N := 24) hx hb hB inMo hown hK hP 0 rfl rfl 3 (by decide) (hB _ q5_14) (fun _ h9 => h9) rfl dMo_out_11 ?_
    refine lv_icmp_lt (tgt := 21) hx hb dMo_out_14 (by decide) (fun c_2 => ?_) (fun c_2 => ?_)
    · refine lv_aload_n hx hb dMo_out_21 rfl (lv_at hl 0 rfl) ?_
      refine va_get (D := (dC, dI)) (ci := 6) (v := .ref o_out) (C := RMo) (T := TMo) (N := 24) hx hb hB inMo hown hK hP 0 rfl rfl 4 (by decide) (hB _ q5_15) (fun _ h9 => h9) rfl dMo_out_22 ?_
      refine lv_iload_n hx hb dMo_out_25 rfl (lv_at hl 1 rfl) ?_
      refine va_cald hx hb hK hP 2 2 rfl rfl (vp_in_iff.mpr (by have z0 := tnl c_1; have z1 := tl c_2; have y0 : (0 : Int32).toInt = 0 := rfl; omega)) dMo_out_26 ?_
      have hv : f_Mo_out oS_told oS_out i = (oS_out i.toNatClampNeg, 0) := (by rw [f_Mo_out_eq, if_neg c_1, if_pos c_2] <;> rfl)
      have hP9 : va_P (dC, dI) vwCl [(o, .inr (6, [.int ((f_Mo_out oS_told oS_out i).2), .int oS_typed, .ref o_text, .int oS_told, .ref o_out, .ref o_men, .int oS_side, .int oS_rights, .int oS_passed, .int oS_clock, .int oS_number, .int oS_plies, .ref o_pastMen, .ref o_pastSide, .ref o_pastRights, .ref o_pastPassed, .ref o_pastClock, .ref o_pastNumber, .ref o_pastTakes, .ref o_playedMoves, .ref o_keptMen, .ref o_keptRest, .ref o_lists, .ref o_counts])), (o_text, .inl (cC, 100, .inl oS_text)), (o_out, .inl (cC, 100, .inl oS_out)), (o_men, .inl (cI, 64, .inl oS_men)), (o_pastMen, .inl (cI, 25664, .inl oS_pastMen)), (o_pastSide, .inl (cI, 401, .inl oS_pastSide)), (o_pastRights, .inl (cI, 401, .inl oS_pastRights)), (o_pastPassed, .inl (cI, 401, .inl oS_pastPassed)), (o_pastClock, .inl (cI, 401, .inl oS_pastClock)), (o_pastNumber, .inl (cI, 401, .inl oS_pastNumber)), (o_pastTakes, .inl (cJ, 401, .inr (.inl oS_pastTakes))), (o_playedMoves, .inl (cI, 400, .inl oS_playedMoves)), (o_keptMen, .inl (cI, 384, .inl oS_keptMen)), (o_keptRest, .inl (cI, 30, .inl oS_keptRest)), (o_lists, .inl (cI, 8192, .inl oS_lists)), (o_counts, .inl (cI, 4, .inl oS_counts))] H := by first | (rw [hv]; exact hP.sub [0, 1, 2, 3, 4, 5, 6, 7, 8, 9, 10, 11, 12, 13, 14, 15] rfl) | exact hP.sub [0, 1, 2, 3, 4, 5, 6, 7, 8, 9, 10, 11, 12, 13, 14, 15] rfl
      have hD9 : va_D A [(o, .inr (6, [.int ((f_Mo_out oS_told oS_out i).2), .int oS_typed, .ref o_text, .int oS_told, .ref o_out, .ref o_men, .int oS_side, .int oS_rights, .int oS_passed, .int oS_clock, .int oS_number, .int oS_plies, .ref o_pastMen, .ref o_pastSide, .ref o_pastRights, .ref o_pastPassed, .ref o_pastClock, .ref o_pastNumber, .ref o_pastTakes, .ref o_playedMoves, .ref o_keptMen, .ref o_keptRest, .ref o_lists, .ref o_counts])), (o_text, .inl (cC, 100, .inl oS_text)), (o_out, .inl (cC, 100, .inl oS_out)), (o_men, .inl (cI, 64, .inl oS_men)), (o_pastMen, .inl (cI, 25664, .inl oS_pastMen)), (o_pastSide, .inl (cI, 401, .inl oS_pastSide)), (o_pastRights, .inl (cI, 401, .inl oS_pastRights)), (o_pastPassed, .inl (cI, 401, .inl oS_pastPassed)), (o_pastClock, .inl (cI, 401, .inl oS_pastClock)), (o_pastNumber, .inl (cI, 401, .inl oS_pastNumber)), (o_pastTakes, .inl (cJ, 401, .inr (.inl oS_pastTakes))), (o_playedMoves, .inl (cI, 400, .inl oS_playedMoves)), (o_keptMen, .inl (cI, 384, .inl oS_keptMen)), (o_keptRest, .inl (cI, 30, .inl oS_keptRest)), (o_lists, .inl (cI, 8192, .inl oS_lists)), (o_counts, .inl (cI, 4, .inl oS_counts))] := by first | (rw [hv]; exact hD.sub [0, 1, 2, 3, 4, 5, 6, 7, 8, 9, 10, 11, 12, 13, 14, 15] (by decide) rfl) | exact hD.sub [0, 1, 2, 3, 4, 5, 6, 7, 8, 9, 10, 11, 12, 13, 14, 15] (by decide) rfl
      exact rw_reti hx hb hr hlocks hK hP9 hD9 hS dMo_out_27 (by rw [hv])
    · refine lv_iconst (v := 0) hx hb dMo_out_17 (by decide) ?_
      refine lv_goto (tgt := 27) hx hb dMo_out_18 (by decide) ?_
      have hv : f_Mo_out oS_told oS_out i = (0, 0) := (by rw [f_Mo_out_eq, if_neg c_1, if_neg c_2] <;> rfl)
      have hP9 : va_P (dC, dI) vwCl [(o, .inr (6, [.int ((f_Mo_out oS_told oS_out i).2), .int oS_typed, .ref o_text, .int oS_told, .ref o_out, .ref o_men, .int oS_side, .int oS_rights, .int oS_passed, .int oS_clock, .int oS_number, .int oS_plies, .ref o_pastMen, .ref o_pastSide, .ref o_pastRights, .ref o_pastPassed, .ref o_pastClock, .ref o_pastNumber, .ref o_pastTakes, .ref o_playedMoves, .ref o_keptMen, .ref o_keptRest, .ref o_lists, .ref o_counts])), (o_text, .inl (cC, 100, .inl oS_text)), (o_out, .inl (cC, 100, .inl oS_out)), (o_men, .inl (cI, 64, .inl oS_men)), (o_pastMen, .inl (cI, 25664, .inl oS_pastMen)), (o_pastSide, .inl (cI, 401, .inl oS_pastSide)), (o_pastRights, .inl (cI, 401, .inl oS_pastRights)), (o_pastPassed, .inl (cI, 401, .inl oS_pastPassed)), (o_pastClock, .inl (cI, 401, .inl oS_pastClock)), (o_pastNumber, .inl (cI, 401, .inl oS_pastNumber)), (o_pastTakes, .inl (cJ, 401, .inr (.inl oS_pastTakes))), (o_playedMoves, .inl (cI, 400, .inl oS_playedMoves)), (o_keptMen, .inl (cI, 384, .inl oS_keptMen)), (o_keptRest, .inl (cI, 30, .inl oS_keptRest)), (o_lists, .inl (cI, 8192, .inl oS_lists)), (o_counts, .inl (cI, 4, .inl oS_counts))] H := by first | (rw [hv]; exact hP.sub [0, 1, 2, 3, 4, 5, 6, 7, 8, 9, 10, 11, 12, 13, 14, 15] rfl) | exact hP.sub [0, 1, 2, 3, 4, 5, 6, 7, 8, 9, 10, 11, 12, 13, 14, 15] rfl
      have hD9 : va_D A [(o, .inr (6, [.int ((f_Mo_out oS_told oS_out i).2), .int oS_typed, .ref o_text, .int oS_told, .ref o_out, .ref o_men, .int oS_side, .int oS_rights, .int oS_passed, .int oS_clock, .int oS_number, .int oS_plies, .ref o_pastMen, .ref o_pastSide, .ref o_pastRights, .ref o_pastPassed, .ref o_pastClock, .ref o_pastNumber, .ref o_pastTakes, .ref o_playedMoves, .ref o_keptMen, .ref o_keptRest, .ref o_lists, .ref o_counts])), (o_text, .inl (cC, 100, .inl oS_text)), (o_out, .inl (cC, 100, .inl oS_out)), (o_men, .inl (cI, 64, .inl oS_men)), (o_pastMen, .inl (cI, 25664, .inl oS_pastMen)), (o_pastSide, .inl (cI, 401, .inl oS_pastSide)), (o_pastRights, .inl (cI, 401, .inl oS_pastRights)), (o_pastPassed, .inl (cI, 401, .inl oS_pastPassed)), (o_pastClock, .inl (cI, 401, .inl oS_pastClock)), (o_pastNumber, .inl (cI, 401, .inl oS_pastNumber)), (o_pastTakes, .inl (cJ, 401, .inr (.inl oS_pastTakes))), (o_playedMoves, .inl (cI, 400, .inl oS_playedMoves)), (o_keptMen, .inl (cI, 384, .inl oS_keptMen)), (o_keptRest, .inl (cI, 30, .inl oS_keptRest)), (o_lists, .inl (cI, 8192, .inl oS_lists)), (o_counts, .inl (cI, 4, .inl oS_counts))] := by first | (rw [hv]; exact hD.sub [0, 1, 2, 3, 4, 5, 6, 7, 8, 9, 10, 11, 12, 13, 14, 15] (by decide) rfl) | exact hD.sub [0, 1, 2, 3, 4, 5, 6, 7, 8, 9, 10, 11, 12, 13, 14, 15] (by decide) rfl
      exact rw_reti hx hb hr hlocks hK hP9 hD9 hS dMo_out_27 (by rw [hv])

abbrev cMo_numberAt : ByteArray := prog_11_method_49_code
def yMo_numberAt : MethodName := ⟨"ChessRulesModel", "numberAt", "(I)I"⟩
def wsMo_numberAt : List Cond := Cond.code yMo_numberAt cMo_numberAt 4 (some .int) :: BIG
theorem dMo_numberAt_0 : decode cMo_numberAt 0 = .ok (.iconst 0, 1) := by decide +kernel
theorem dMo_numberAt_1 : decode cMo_numberAt 1 = .ok (.istore_n 2, 1) := by decide +kernel
theorem dMo_numberAt_2 : decode cMo_numberAt 2 = .ok (.iload_n 1, 1) := by decide +kernel
theorem dMo_numberAt_3 : decode cMo_numberAt 3 = .ok (.istore_n 3, 1) := by decide +kernel
theorem dMo_numberAt_4 : decode cMo_numberAt 4 = .ok (.iload_n 3, 1) := by decide +kernel
theorem dMo_numberAt_5 : decode cMo_numberAt 5 = .ok (.iload_n 1, 1) := by decide +kernel
theorem dMo_numberAt_6 : decode cMo_numberAt 6 = .ok (.iconst 4, 1) := by decide +kernel
theorem dMo_numberAt_7 : decode cMo_numberAt 7 = .ok (.iadd, 1) := by decide +kernel
theorem dMo_numberAt_8 : decode cMo_numberAt 8 = .ok (.if_icmp .ge 43, 3) := by decide +kernel
theorem dMo_numberAt_11 : decode cMo_numberAt 11 = .ok (.aload_n 0, 1) := by decide +kernel
theorem dMo_numberAt_12 : decode cMo_numberAt 12 = .ok (.iload_n 3, 1) := by decide +kernel
theorem dMo_numberAt_13 : decode cMo_numberAt 13 = .ok (.invokevirtual 190, 3) := by decide +kernel
theorem dMo_numberAt_16 : decode cMo_numberAt 16 = .ok (.bipush 48, 2) := by decide +kernel
theorem dMo_numberAt_18 : decode cMo_numberAt 18 = .ok (.if_icmp .lt 33, 3) := by decide +kernel
theorem dMo_numberAt_21 : decode cMo_numberAt 21 = .ok (.aload_n 0, 1) := by decide +kernel
theorem dMo_numberAt_22 : decode cMo_numberAt 22 = .ok (.iload_n 3, 1) := by decide +kernel
theorem dMo_numberAt_23 : decode cMo_numberAt 23 = .ok (.invokevirtual 190, 3) := by decide +kernel
theorem dMo_numberAt_26 : decode cMo_numberAt 26 = .ok (.bipush 57, 2) := by decide +kernel
theorem dMo_numberAt_28 : decode cMo_numberAt 28 = .ok (.if_icmp .gt 23, 3) := by decide +kernel
theorem dMo_numberAt_31 : decode cMo_numberAt 31 = .ok (.bipush 10, 2) := by decide +kernel
theorem dMo_numberAt_33 : decode cMo_numberAt 33 = .ok (.iload_n 2, 1) := by decide +kernel
theorem dMo_numberAt_34 : decode cMo_numberAt 34 = .ok (.imul, 1) := by decide +kernel
theorem dMo_numberAt_35 : decode cMo_numberAt 35 = .ok (.aload_n 0, 1) := by decide +kernel
theorem dMo_numberAt_36 : decode cMo_numberAt 36 = .ok (.iload_n 3, 1) := by decide +kernel
theorem dMo_numberAt_37 : decode cMo_numberAt 37 = .ok (.invokevirtual 190, 3) := by decide +kernel
theorem dMo_numberAt_40 : decode cMo_numberAt 40 = .ok (.iadd, 1) := by decide +kernel
theorem dMo_numberAt_41 : decode cMo_numberAt 41 = .ok (.bipush 48, 2) := by decide +kernel
theorem dMo_numberAt_43 : decode cMo_numberAt 43 = .ok (.isub, 1) := by decide +kernel
theorem dMo_numberAt_44 : decode cMo_numberAt 44 = .ok (.istore_n 2, 1) := by decide +kernel
theorem dMo_numberAt_45 : decode cMo_numberAt 45 = .ok (.iinc 3 1, 3) := by decide +kernel
theorem dMo_numberAt_48 : decode cMo_numberAt 48 = .ok (.goto (-44), 3) := by decide +kernel
theorem dMo_numberAt_51 : decode cMo_numberAt 51 = .ok (.iload_n 3, 1) := by decide +kernel
theorem dMo_numberAt_52 : decode cMo_numberAt 52 = .ok (.iload_n 1, 1) := by decide +kernel
theorem dMo_numberAt_53 : decode cMo_numberAt 53 = .ok (.if_icmp .eq 27, 3) := by decide +kernel
theorem dMo_numberAt_56 : decode cMo_numberAt 56 = .ok (.iload_n 3, 1) := by decide +kernel
theorem dMo_numberAt_57 : decode cMo_numberAt 57 = .ok (.iload_n 1, 1) := by decide +kernel
theorem dMo_numberAt_58 : decode cMo_numberAt 58 = .ok (.iconst 3, 1) := by decide +kernel
theorem dMo_numberAt_59 : decode cMo_numberAt 59 = .ok (.iadd, 1) := by decide +kernel
theorem dMo_numberAt_60 : decode cMo_numberAt 60 = .ok (.if_icmp .gt 20, 3) := by decide +kernel
theorem dMo_numberAt_63 : decode cMo_numberAt 63 = .ok (.iload_n 3, 1) := by decide +kernel
theorem dMo_numberAt_64 : decode cMo_numberAt 64 = .ok (.iload_n 1, 1) := by decide +kernel
theorem dMo_numberAt_65 : decode cMo_numberAt 65 = .ok (.iconst 1, 1) := by decide +kernel
theorem dMo_numberAt_66 : decode cMo_numberAt 66 = .ok (.iadd, 1) := by decide +kernel
theorem dMo_numberAt_67 : decode cMo_numberAt 67 = .ok (.if_icmp .le 17, 3) := by decide +kernel
theorem dMo_numberAt_70 : decode cMo_numberAt 70 = .ok (.aload_n 0, 1) := by decide +kernel
theorem dMo_numberAt_71 : decode cMo_numberAt 71 = .ok (.iload_n 1, 1) := by decide +kernel
theorem dMo_numberAt_72 : decode cMo_numberAt 72 = .ok (.invokevirtual 190, 3) := by decide +kernel
theorem dMo_numberAt_75 : decode cMo_numberAt 75 = .ok (.bipush 48, 2) := by decide +kernel
theorem dMo_numberAt_77 : decode cMo_numberAt 77 = .ok (.if_icmp .ne 7, 3) := by decide +kernel
theorem dMo_numberAt_80 : decode cMo_numberAt 80 = .ok (.iconst (-1), 1) := by decide +kernel
theorem dMo_numberAt_81 : decode cMo_numberAt 81 = .ok (.goto 4, 3) := by decide +kernel
theorem dMo_numberAt_84 : decode cMo_numberAt 84 = .ok (.iload_n 2, 1) := by decide +kernel
theorem dMo_numberAt_85 : decode cMo_numberAt 85 = .ok (.ireturn, 1) := by decide +kernel

def f_Mo_numberAt_51 (oS_typed : Int32) (oS_text : Nat → Int32) (pp : Int32) (v2_4 : Int32) (v3_4 : Int32) : Int32 :=
  (if v3_4 = pp then (-1) else (if (pp + 3) < v3_4 then (-1) else (if v3_4 ≤ (pp + 1) then v2_4 else (if (f_Mo_sign oS_typed oS_text pp) = 48 then (-1) else v2_4))))
theorem f_Mo_numberAt_51_eq (oS_typed : Int32) (oS_text : Nat → Int32) (pp : Int32) (v2_4 : Int32) (v3_4 : Int32) : f_Mo_numberAt_51 oS_typed oS_text pp v2_4 v3_4 =
  (if v3_4 = pp then (-1) else (if (pp + 3) < v3_4 then (-1) else (if v3_4 ≤ (pp + 1) then v2_4 else (if (f_Mo_sign oS_typed oS_text pp) = 48 then (-1) else v2_4)))) := rfl

def f_Mo_numberAt_4 (oS_typed : Int32) (oS_text : Nat → Int32) (pp : Int32) : Nat → Int32 → Int32 → Int32
  | 0 => fun _ _ => 0
  | n_4 + 1 => fun v2_4 v3_4 => (if (pp + 4) ≤ v3_4 then f_Mo_numberAt_51 oS_typed oS_text pp v2_4 v3_4 else (if (f_Mo_sign oS_typed oS_text v3_4) < 48 then f_Mo_numberAt_51 oS_typed oS_text pp v2_4 v3_4 else (if 57 < (f_Mo_sign oS_typed oS_text v3_4) then f_Mo_numberAt_51 oS_typed oS_text pp v2_4 v3_4 else (f_Mo_numberAt_4 oS_typed oS_text pp n_4) (((10 * v2_4) + (f_Mo_sign oS_typed oS_text v3_4)) - 48) (v3_4 + 1))))
theorem f_Mo_numberAt_4_eq (oS_typed : Int32) (oS_text : Nat → Int32) (pp : Int32) (n_4 : Nat) (v2_4 : Int32) (v3_4 : Int32) : f_Mo_numberAt_4 oS_typed oS_text pp (n_4 + 1) v2_4 v3_4 =
  (if (pp + 4) ≤ v3_4 then f_Mo_numberAt_51 oS_typed oS_text pp v2_4 v3_4 else (if (f_Mo_sign oS_typed oS_text v3_4) < 48 then f_Mo_numberAt_51 oS_typed oS_text pp v2_4 v3_4 else (if 57 < (f_Mo_sign oS_typed oS_text v3_4) then f_Mo_numberAt_51 oS_typed oS_text pp v2_4 v3_4 else (f_Mo_numberAt_4 oS_typed oS_text pp n_4) (((10 * v2_4) + (f_Mo_sign oS_typed oS_text v3_4)) - 48) (v3_4 + 1)))) := rfl

def f_Mo_numberAt (oS_typed : Int32) (oS_text : Nat → Int32) (pp : Int32) : Int32 :=
  f_Mo_numberAt_4 oS_typed oS_text pp (5) 0 pp
theorem f_Mo_numberAt_eq (oS_typed : Int32) (oS_text : Nat → Int32) (pp : Int32) : f_Mo_numberAt oS_typed oS_text pp =
  f_Mo_numberAt_4 oS_typed oS_text pp (5) 0 pp := rfl

set_option maxHeartbeats 4000000 in
set_option maxRecDepth 100000 in
theorem c_Mo_numberAt (l : Launch) (dC : Nat → ClassId) (dI : Nat → Nat → Nat) (cI cJ cC : ClassId) (ad : Nat → Nat) (o o_text o_out o_men o_pastMen o_pastSide o_pastRights o_pastPassed o_pastClock o_pastNumber o_pastTakes o_playedMoves o_keptMen o_keptRest o_lists o_counts : Nat) (oS_thrown : Int32) (oS_typed : Int32) (oS_text : Nat → Int32) (oS_told : Int32) (oS_out : Nat → Int32) (oS_men : Nat → Int32) (oS_side : Int32) (oS_rights : Int32) (oS_passed : Int32) (oS_clock : Int32) (oS_number : Int32) (oS_plies : Int32) (oS_pastMen : Nat → Int32) (oS_pastSide : Nat → Int32) (oS_pastRights : Nat → Int32) (oS_pastPassed : Nat → Int32) (oS_pastClock : Nat → Int32) (oS_pastNumber : Nat → Int32) (oS_pastTakes : Nat → Int64) (oS_playedMoves : Nat → Int32) (oS_keptMen : Nat → Int32) (oS_keptRest : Nat → Int32) (oS_lists : Nat → Int32) (oS_counts : Nat → Int32) (pp : Int32) (ht : ∀ j : Nat, j < 100 → narrow .char (.int (oS_text j)) = .int (oS_text j)) (hty : 0 ≤ oS_typed.toInt ∧ oS_typed.toInt ≤ 100) (hp : 0 ≤ pp.toInt ∧ pp.toInt ≤ 900) : Met l yMo_numberAt wsMo_numberAt { frames := 1, cells := 0, slots := 0, locals := 21 } (roP dC dI (TYS cI cJ cC) [.ref o, .int pp] [(o, .inr (6, [.int oS_thrown, .int oS_typed, .ref o_text, .int oS_told, .ref o_out, .ref o_men, .int oS_side, .int oS_rights, .int oS_passed, .int oS_clock, .int oS_number, .int oS_plies, .ref o_pastMen, .ref o_pastSide, .ref o_pastRights, .ref o_pastPassed, .ref o_pastClock, .ref o_pastNumber, .ref o_pastTakes, .ref o_playedMoves, .ref o_keptMen, .ref o_keptRest, .ref o_lists, .ref o_counts])), (o_text, .inl (cC, 100, .inl oS_text)), (o_out, .inl (cC, 100, .inl oS_out)), (o_men, .inl (cI, 64, .inl oS_men)), (o_pastMen, .inl (cI, 25664, .inl oS_pastMen)), (o_pastSide, .inl (cI, 401, .inl oS_pastSide)), (o_pastRights, .inl (cI, 401, .inl oS_pastRights)), (o_pastPassed, .inl (cI, 401, .inl oS_pastPassed)), (o_pastClock, .inl (cI, 401, .inl oS_pastClock)), (o_pastNumber, .inl (cI, 401, .inl oS_pastNumber)), (o_pastTakes, .inl (cJ, 401, .inr (.inl oS_pastTakes))), (o_playedMoves, .inl (cI, 400, .inl oS_playedMoves)), (o_keptMen, .inl (cI, 384, .inl oS_keptMen)), (o_keptRest, .inl (cI, 30, .inl oS_keptRest)), (o_lists, .inl (cI, 8192, .inl oS_lists)), (o_counts, .inl (cI, 4, .inl oS_counts))] (GS ad)) (vp_Si (fun r => r = f_Mo_numberAt oS_typed oS_text pp)) 0 0 (fun _ => False) := by
  refine Met.ofW (cc := cMo_numberAt) (maxL := 4) (ret := (some .int)) (by decide) rfl ?_
  intro p e s m args below meth c s₁ B hml hv
  obtain ⟨rfl, hP, hK, hG⟩ := hv
  have hx := B.exec
  have hb := B.bytes
  have hr := B.returns
  have hB : ∀ w9 ∈ BIG, w9.before ([.ref o, .int pp]).toArray s = true := fun w9 h => atoms_spec (ws := wsMo_numberAt) B.pre w9 (List.mem_cons_of_mem _ h)
  have hown : s.vm.findClass "ChessRulesModel" = some m.cls := findClass_of_methodNamed B.named
  have hlocks := B.notSynchronized
  have hS : va_S (fun _ => False) s.heap s.heap [] := va_S.rf
  have hP : va_P (dC, dI) vwCl [(o, .inr (6, [.int oS_thrown, .int oS_typed, .ref o_text, .int oS_told, .ref o_out, .ref o_men, .int oS_side, .int oS_rights, .int oS_passed, .int oS_clock, .int oS_number, .int oS_plies, .ref o_pastMen, .ref o_pastSide, .ref o_pastRights, .ref o_pastPassed, .ref o_pastClock, .ref o_pastNumber, .ref o_pastTakes, .ref o_playedMoves, .ref o_keptMen, .ref o_keptRest, .ref o_lists, .ref o_counts])), (o_text, .inl (cC, 100, .inl oS_text)), (o_out, .inl (cC, 100, .inl oS_out)), (o_men, .inl (cI, 64, .inl oS_men)), (o_pastMen, .inl (cI, 25664, .inl oS_pastMen)), (o_pastSide, .inl (cI, 401, .inl oS_pastSide)), (o_pastRights, .inl (cI, 401, .inl oS_pastRights)), (o_pastPassed, .inl (cI, 401, .inl oS_pastPassed)), (o_pastClock, .inl (cI, 401, .inl oS_pastClock)), (o_pastNumber, .inl (cI, 401, .inl oS_pastNumber)), (o_pastTakes, .inl (cJ, 401, .inr (.inl oS_pastTakes))), (o_playedMoves, .inl (cI, 400, .inl oS_playedMoves)), (o_keptMen, .inl (cI, 384, .inl oS_keptMen)), (o_keptRest, .inl (cI, 30, .inl oS_keptRest)), (o_lists, .inl (cI, 8192, .inl oS_lists)), (o_counts, .inl (cI, 4, .inl oS_counts))] s.heap := hP
  have hl := lv_entry ([.ref o, .int pp]) (n := 4) (Nat.le_of_ble_eq_true rfl)
  rw [lg_entry_eq]
  generalize (lg_sl ([.ref o, .int pp]) ++ List.replicate (4 - (lg_sl ([.ref o, .int pp])).length) Slot.unset).toArray = ls at hl ⊢
  have hl : lv_has ls 4 [(0, .ref o), (1, .int pp)] := hl
  refine lv_iconst (v := 0) hx hb dMo_numberAt_0 (by decide) ?_
  refine lv_istore_n (lv' := [(2, .int 0), (0, .ref o), (1, .int pp)]) hx hb dMo_numberAt_1 rfl hl (by decide) rfl (fun ls hl => ?_)
  refine lv_iload_n hx hb dMo_numberAt_2 rfl (lv_at hl 2 rfl) ?_
  refine lv_istore_n (lv' := [(3, .int pp), (2, .int 0), (0, .ref o), (1, .int pp)]) hx hb dMo_numberAt_3 rfl hl (by decide) rfl (fun ls hl => ?_)
  have J_4 : ∀ (n_4 : Nat) (v2_4 : Int32) (v3_4 : Int32), f_Mo_numberAt oS_typed oS_text pp = f_Mo_numberAt_4 oS_typed oS_text pp n_4 v2_4 v3_4 → (pp.toInt ≤ v3_4.toInt ∧ v3_4.toInt ≤ pp.toInt + 4 ∧ pp.toInt + 4 - v3_4.toInt + 1 ≤ (n_4 : Int) ∧ (1 : Int) ≤ (n_4 : Int)) → ∀ ls : Array Slot, lv_has ls 4 [(0, .ref o), (1, .int pp), (2, .int v2_4), (3, .int v3_4)] → W p l e (headSpec wsMo_numberAt { frames := 1, cells := 0, slots := 0, locals := 21 }).room s m ([.ref o, .int pp]).toArray below meth c s.heap [] 0 0 (MQ below (vp_Si (fun r => r = f_Mo_numberAt oS_typed oS_text pp)) ([.ref o, .int pp]).toArray s 0 0 (fun _ => False)) (F0 m 4 ls []) := by
    intro n_4
    induction n_4 with
    | zero => intro v2_4 v3_4 _ hm_4; exact absurd hm_4 (by omega)
    | succ n_4 ih_4 =>
      intro v2_4 v3_4 he_4 hm_4 ls hl
      refine lv_iload_n hx hb dMo_numberAt_4 rfl (lv_at hl 3 rfl) ?_
      refine lv_iload_n hx hb dMo_numberAt_5 rfl (lv_at hl 1 rfl) ?_
      refine lv_iconst (v := 4) hx hb dMo_numberAt_6 (by decide) ?_
      refine lv_iadd hx hb dMo_numberAt_7 ?_
      have J_51 : f_Mo_numberAt oS_typed oS_text pp = f_Mo_numberAt_51 oS_typed oS_text pp v2_4 v3_4 → ∀ ls : Array Slot, lv_has ls 4 [(0, .ref o), (1, .int pp), (2, .int v2_4), (3, .int v3_4)] → W p l e (headSpec wsMo_numberAt { frames := 1, cells := 0, slots := 0, locals := 21 }).room s m ([.ref o, .int pp]).toArray below meth c s.heap [] 0 0 (MQ below (vp_Si (fun r => r = f_Mo_numberAt oS_typed oS_text pp)) ([.ref o, .int pp]).toArray s 0 0 (fun _ => False)) (F0 m 51 ls []) := by
        intro he_51 ls hl
        refine lv_iload_n hx hb dMo_numberAt_51 rfl (lv_at hl 3 rfl) ?_
        refine lv_iload_n hx hb dMo_numberAt_52 rfl (lv_at hl 1 rfl) ?_
        refine lv_icmp_eq (tgt := 80) hx hb dMo_numberAt_53 (by decide) (fun c_1 => ?_) (fun c_1 => ?_)
        · refine lv_iconst (v := (-1)) hx hb dMo_numberAt_80 (by decide) ?_
          refine lv_goto (tgt := 85) hx hb dMo_numberAt_81 (by decide) ?_
          exact ro_reti hx hb hr hlocks dMo_numberAt_85 (Eq.symm (he_51.trans (by rw [f_Mo_numberAt_51_eq, if_pos c_1] <;> rfl)))
        · refine lv_iload_n hx hb dMo_numberAt_56 rfl (lv_at hl 3 rfl) ?_
          refine lv_iload_n hx hb dMo_numberAt_57 rfl (lv_at hl 1 rfl) ?_
          refine lv_iconst (v := 3) hx hb dMo_numberAt_58 (by decide) ?_
          refine lv_iadd hx hb dMo_numberAt_59 ?_
          refine lv_icmp_gt (tgt := 80) hx hb dMo_numberAt_60 (by decide) (fun c_2 => ?_) (fun c_2 => ?_)
          · refine lv_iconst (v := (-1)) hx hb dMo_numberAt_80 (by decide) ?_
            refine lv_goto (tgt := 85) hx hb dMo_numberAt_81 (by decide) ?_
            exact ro_reti hx hb hr hlocks dMo_numberAt_85 (Eq.symm (he_51.trans (by rw [f_Mo_numberAt_51_eq, if_neg c_1, if_pos c_2] <;> rfl)))
          · refine lv_iload_n hx hb dMo_numberAt_63 rfl (lv_at hl 3 rfl) ?_
            refine lv_iload_n hx hb dMo_numberAt_64 rfl (lv_at hl 1 rfl) ?_
            refine lv_iconst (v := 1) hx hb dMo_numberAt_65 (by decide) ?_
            refine lv_iadd hx hb dMo_numberAt_66 ?_
            refine lv_icmp_le (tgt := 84) hx hb dMo_numberAt_67 (by decide) (fun c_3 => ?_) (fun c_3 => ?_)
            · refine lv_iload_n hx hb dMo_numberAt_84 rfl (lv_at hl 2 rfl) ?_
              exact ro_reti hx hb hr hlocks dMo_numberAt_85 (Eq.symm (he_51.trans (by rw [f_Mo_numberAt_51_eq, if_neg c_1, if_neg c_2, if_pos c_3] <;> rfl)))
            · refine lv_aload_n hx hb dMo_numberAt_70 rfl (lv_at hl 0 rfl) ?_
              refine lv_iload_n hx hb dMo_numberAt_71 rfl (lv_at hl 1 rfl) ?_
              refine ro_goi (va_runV (C := "ChessRulesModel") (As := [.int pp]) (rest := []) ⟨hx, hb, hml, hown, hB⟩ (c_Mo_sign l dC dI cI cJ cC ad o o_text o_out o_men o_pastMen o_pastSide o_pastRights o_pastPassed o_pastClock o_pastNumber o_pastTakes o_playedMoves o_keptMen o_keptRest o_lists o_counts oS_thrown oS_typed oS_text oS_told oS_out oS_men oS_side oS_rights oS_passed oS_clock oS_number oS_plies oS_pastMen oS_pastSide oS_pastRights oS_pastPassed oS_pastClock oS_pastNumber oS_pastTakes oS_playedMoves oS_keptMen oS_keptRest oS_lists oS_counts pp ht hty (by omega)) ⟨callB_of 1 hB (big_self q5_207) rfl rfl rfl (hB _ q1_15) (hB _ q5_204) (by decide +kernel) ⟨Nat.le_of_ble_eq_true rfl, Nat.le_of_ble_eq_true rfl⟩, (hB _ q5_206), (hB _ qs6_8)⟩ (ro_preV (GS_ok ad) hK hP hG hS [0, 1, 2, 3, 4, 5, 6, 7, 8, 9, 10, 11, 12, 13, 14, 15] rfl (va_recv hK hP (ci := 6) (q0 := 0) rfl rfl)) rfl rfl hl.1 rfl (lv_room (Nat.le_of_ble_eq_true rfl)) dMo_numberAt_72 ⟨Nat.le_of_ble_eq_true rfl, Nat.le_of_ble_eq_true rfl⟩) ?_
              refine lv_bipush (v := 48) hx hb dMo_numberAt_75 (by decide) ?_
              refine lv_icmp_ne (tgt := 84) hx hb dMo_numberAt_77 (by decide) (fun c_4 => ?_) (fun c_4 => ?_)
              · refine lv_iload_n hx hb dMo_numberAt_84 rfl (lv_at hl 2 rfl) ?_
                exact ro_reti hx hb hr hlocks dMo_numberAt_85 (Eq.symm (he_51.trans (by rw [f_Mo_numberAt_51_eq, if_neg c_1, if_neg c_2, if_neg c_3, if_neg c_4] <;> rfl)))
              · refine lv_iconst (v := (-1)) hx hb dMo_numberAt_80 (by decide) ?_
                refine lv_goto (tgt := 85) hx hb dMo_numberAt_81 (by decide) ?_
                exact ro_reti hx hb hr hlocks dMo_numberAt_85 (Eq.symm (he_51.trans (by rw [f_Mo_numberAt_51_eq, if_neg c_1, if_neg c_2, if_neg c_3, if_pos c_4] <;> rfl)))
      refine lv_icmp_ge (tgt := 51) hx hb dMo_numberAt_8 (by decide) (fun c_5 => ?_) (fun c_5 => ?_)
      · exact J_51 (he_4.trans (by rw [f_Mo_numberAt_4_eq, if_pos c_5] <;> rfl)) ls (lv_sub hl [0, 1, 2, 3] rfl)
      · refine lv_aload_n hx hb dMo_numberAt_11 rfl (lv_at hl 0 rfl) ?_
        refine lv_iload_n hx hb dMo_numberAt_12 rfl (lv_at hl 3 rfl) ?_
        refine ro_goi (va_runV (C := "ChessRulesModel") (As := [.int v3_4]) (rest := []) ⟨hx, hb, hml, hown, hB⟩ (c_Mo_sign l dC dI cI cJ cC ad o o_text o_out o_men o_pastMen o_pastSide o_pastRights o_pastPassed o_pastClock o_pastNumber o_pastTakes o_playedMoves o_keptMen o_keptRest o_lists o_counts oS_thrown oS_typed oS_text oS_told oS_out oS_men oS_side oS_rights oS_passed oS_clock oS_number oS_plies oS_pastMen oS_pastSide oS_pastRights oS_pastPassed oS_pastClock oS_pastNumber oS_pastTakes oS_playedMoves oS_keptMen oS_keptRest oS_lists oS_counts v3_4 ht hty (by omega)) ⟨callB_of 1 hB (big_self q5_207) rfl rfl rfl (hB _ q1_15) (hB _ q5_204) (by decide +kernel) ⟨Nat.le_of_ble_eq_true rfl, Nat.le_of_ble_eq_true rfl⟩, (hB _ q5_206), (hB _ qs6_8)⟩ (ro_preV (GS_ok ad) hK hP hG hS [0, 1, 2, 3, 4, 5, 6, 7, 8, 9, 10, 11, 12, 13, 14, 15] rfl (va_recv hK hP (ci := 6) (q0 := 0) rfl rfl)) rfl rfl hl.1 rfl (lv_room (Nat.le_of_ble_eq_true rfl)) dMo_numberAt_13 ⟨Nat.le_of_ble_eq_true rfl, Nat.le_of_ble_eq_true rfl⟩) ?_
        refine lv_bipush (v := 48) hx hb dMo_numberAt_16 (by decide) ?_
        refine lv_icmp_lt (tgt := 51) hx hb dMo_numberAt_18 (by decide) (fun c_6 => ?_) (fun c_6 => ?_)
        · exact J_51 (he_4.trans (by rw [f_Mo_numberAt_4_eq, if_neg c_5, if_pos c_6] <;> rfl)) ls (lv_sub hl [0, 1, 2, 3] rfl)
        · refine lv_aload_n hx hb dMo_numberAt_21 rfl (lv_at hl 0 rfl) ?_
          refine lv_iload_n hx hb dMo_numberAt_22 rfl (lv_at hl 3 rfl) ?_
          refine ro_goi (va_runV (C := "ChessRulesModel") (As := [.int v3_4]) (rest := []) ⟨hx, hb, hml, hown, hB⟩ (c_Mo_sign l dC dI cI cJ cC ad o o_text o_out o_men o_pastMen o_pastSide o_pastRights o_pastPassed o_pastClock o_pastNumber o_pastTakes o_playedMoves o_keptMen o_keptRest o_lists o_counts oS_thrown oS_typed oS_text oS_told oS_out oS_men oS_side oS_rights oS_passed oS_clock oS_number oS_plies oS_pastMen oS_pastSide oS_pastRights oS_pastPassed oS_pastClock oS_pastNumber oS_pastTakes oS_playedMoves oS_keptMen oS_keptRest oS_lists oS_counts v3_4 ht hty (by omega)) ⟨callB_of 1 hB (big_self q5_207) rfl rfl rfl (hB _ q1_15) (hB _ q5_204) (by decide +kernel) ⟨Nat.le_of_ble_eq_true rfl, Nat.le_of_ble_eq_true rfl⟩, (hB _ q5_206), (hB _ qs6_8)⟩ (ro_preV (GS_ok ad) hK hP hG hS [0, 1, 2, 3, 4, 5, 6, 7, 8, 9, 10, 11, 12, 13, 14, 15] rfl (va_recv hK hP (ci := 6) (q0 := 0) rfl rfl)) rfl rfl hl.1 rfl (lv_room (Nat.le_of_ble_eq_true rfl)) dMo_numberAt_23 ⟨Nat.le_of_ble_eq_true rfl, Nat.le_of_ble_eq_true rfl⟩) ?_
          refine lv_bipush (v := 57) hx hb dMo_numberAt_26 (by decide) ?_
          refine lv_icmp_gt (tgt := 51) hx hb dMo_numberAt_28 (by decide) (fun c_7 => ?_) (fun c_7 => ?_)
          · exact J_51 (he_4.trans (by rw [f_Mo_numberAt_4_eq, if_neg c_5, if_neg c_6, if_pos c_7] <;> rfl)) ls (lv_sub hl [0, 1, 2, 3] rfl)
          · refine lv_bipush (v := 10) hx hb dMo_numberAt_31 (by decide) ?_
            refine lv_iload_n hx hb dMo_numberAt_33 rfl (lv_at hl 2 rfl) ?_
            refine lv_imul hx hb dMo_numberAt_34 ?_
            refine lv_aload_n hx hb dMo_numberAt_35 rfl (lv_at hl 0 rfl) ?_
            refine lv_iload_n hx hb dMo_numberAt_36 rfl (lv_at hl 3 rfl) ?_
            refine ro_goi (va_runV (C := "ChessRulesModel") (As := [.int v3_4]) (rest := [.int (10 * v2_4)]) ⟨hx, hb, hml, hown, hB⟩ (c_Mo_sign l dC dI cI cJ cC ad o o_text o_out o_men o_pastMen o_pastSide o_pastRights o_pastPassed o_pastClock o_pastNumber o_pastTakes o_playedMoves o_keptMen o_keptRest o_lists o_counts oS_thrown oS_typed oS_text oS_told oS_out oS_men oS_side oS_rights oS_passed oS_clock oS_number oS_plies oS_pastMen oS_pastSide oS_pastRights oS_pastPassed oS_pastClock oS_pastNumber oS_pastTakes oS_playedMoves oS_keptMen oS_keptRest oS_lists oS_counts v3_4 ht hty (by omega)) ⟨callB_of 1 hB (big_self q5_207) rfl rfl rfl (hB _ q1_15) (hB _ q5_204) (by decide +kernel) ⟨Nat.le_of_ble_eq_true rfl, Nat.le_of_ble_eq_true rfl⟩, (hB _ q5_206), (hB _ qs6_8)⟩ (ro_preV (GS_ok ad) hK hP hG hS [0, 1, 2, 3, 4, 5, 6, 7, 8, 9, 10, 11, 12, 13, 14, 15] rfl (va_recv hK hP (ci := 6) (q0 := 0) rfl rfl)) rfl rfl hl.1 rfl (lv_room (Nat.le_of_ble_eq_true rfl)) dMo_numberAt_37 ⟨Nat.le_of_ble_eq_true rfl, Nat.le_of_ble_eq_true rfl⟩) ?_
            refine lv_iadd hx hb dMo_numberAt_40 ?_
            refine lv_bipush (v := 48) hx hb dMo_numberAt_41 (by decide) ?_
            refine lv_isub hx hb dMo_numberAt_43 ?_
            refine lv_istore_n (lv' := [(2, .int (((10 * v2_4) + (f_Mo_sign oS_typed oS_text v3_4)) - 48)), (0, .ref o), (1, .int pp), (3, .int v3_4)]) hx hb dMo_numberAt_44 rfl hl (by decide) rfl (fun ls hl => ?_)
            refine lv_iinc (v := v3_4 + 1) (lv' := [(3, .int (v3_4 + 1)), (2, .int (((10 * v2_4) + (f_Mo_sign oS_typed oS_text v3_4)) - 48)), (0, .ref o), (1, .int pp)]) hx hb dMo_numberAt_45 hl (k := 3) rfl rfl (by decide) rfl (fun ls hl => ?_)
            refine lv_goto (tgt := 4) hx hb dMo_numberAt_48 (by decide) ?_
            exact ih_4 (((10 * v2_4) + (f_Mo_sign oS_typed oS_text v3_4)) - 48) (v3_4 + 1) (he_4.trans (by rw [f_Mo_numberAt_4_eq, if_neg c_5, if_neg c_6, if_neg c_7] <;> rfl)) (by have z1 := tnle c_5; have z2 := tnl c_6; have z3 := tnl c_7; have y4 : (4 : Int32).toInt = 4 := rfl; have y48 : (48 : Int32).toInt = 48 := rfl; have y57 : (57 : Int32).toInt = 57 := rfl; have e4 := i_p4 (x := pp) (by omega); have e1 := i_p1 (x := v3_4) (by omega); omega) ls (lv_sub hl [2, 3, 1, 0] rfl)
  exact J_4 (5) 0 pp (by rw [f_Mo_numberAt_eq] <;> rfl) (by omega) ls (lv_sub hl [2, 3, 1, 0] rfl)

section STT
theorem TZ_at {args : Array Value} {s : State} {n d : String} {A : Nat → Prop} (hl : (Cond.laysStatic "java/lang/Throwable" n d).before args s = true) (h : (Cond.isRef (.static "java/lang/Throwable" n d)).before args s = true) (hA : ∀ a : Nat, a < s.heap.size → ¬ A a) : TZ n d A s s.heap := by
  obtain ⟨c, k, i, f, a, cell, hc, hi, hst, ha, hcell, hs, hcls, hlt, hty⟩ := Cond.laysStatic_spec hl
  refine ⟨c, k, i, f, a, cell, hc, hi, hst, ha, hcell, hs, hcls, hlt, hty, ?_, hA a (Array.getElem?_eq_some_iff.mp hcell).1⟩
  cases hv : (Term.static "java/lang/Throwable" n d).eval args s none [] s with
  | none => simp [Cond.before, Cond.holds, Cond.value, hv] at h
  | some w =>
    simp only [Cond.before, Cond.holds, Cond.value, hv] at h
    obtain ⟨hst', a', cell', ha', hcell', -, hslot⟩ := Term.static_spec hi hv
    cases ha.symm.trans ha'
    cases hcell.symm.trans hcell'
    cases w with
    | null => exact Or.inl hslot
    | ref t => exact Or.inr ⟨t, hslot⟩
    | _ => simp at h
theorem NA_of {args : Array Value} {s : State} {a b : String} (h : (Cond.not (Cond.castable a b)).before args s = true) : NA a b s := by
  intro ca cb h1 h2
  simp only [Cond.before, Cond.holds, Cond.value, h1, h2] at h
  simpa using h
theorem GStr_of {args : Array Value} {s : State} {tm : Term} {n : Nat} {f : Nat → Int32} {A : Nat → Prop} (hN : n < 2 ^ 31) (hex : (Cond.exactly tm "java/lang/String").before args s = true) (hco : (Cond.eq (.field tm "java/lang/String" "coder" "B") (.int 0)).before args s = true)
    (har : (Cond.arrayOf (.field tm "java/lang/String" "value" "[B") .byte).before args s = true) (hle : (Cond.eq (.length (.field tm "java/lang/String" "value" "[B")) (.int (Int32.ofNat n))).before args s = true)
    (hel : ∀ j : Nat, j < n → (Cond.eq (.elem (.field tm "java/lang/String" "value" "[B") (.int (Int32.ofNat j))) (.int (f j))).before args s = true) (hA : ∀ a : Nat, a < s.heap.size → ¬ A a) :
    ∃ a v : Nat, tm.eval args s none [] s = some (.ref a) ∧ GStr a v n f A s s.heap := by
  obtain ⟨a, c, cA, kA, q1, q2, q3, q4, q5, q6, -⟩ := Cond.exactly_spec (args := args) (first := s) (o := none) (s := s) (idx := []) (t := tm) (cls := "java/lang/String") hex
  obtain ⟨t, ht, hT⟩ := va_Tof (f := fun j => .int (f j)) (A := A) hN har (va_eqt hle) (fun j hj => va_eqt (hel j hj)) hA
  exact ⟨a, t, q1, ⟨cA, q3, q5, by rw [q6]; exact q2, hA a (Array.getElem?_eq_some_iff.mp q3).1⟩, vk_OFof q1 (va_eqt hco) hA, vk_OFof q1 ht hA, hT⟩
theorem arr_of {args : Array Value} {s : State} {ty : FieldType} (h : (Cond.arrayClass ty).before args s = true) : ∃ cA, ArrOfT s cA ty ∧ s.vm.findClass ("[" ++ ty.toString) = some cA := by
  obtain ⟨c, k, comp, h1, h2, h3⟩ := Cond.arrayClass_spec h
  exact ⟨c, fun n z => ⟨fun k h => (by cases h), k, h2, comp, h3⟩, h1⟩
theorem start_nest {a9 : Array Value} {s : State} (hts : ∀ w ∈ lw_tbl, w.before a9 s = true) : ∀ w ∈ NEST, va_Nw w s := by
  intro w hw
  have h2 := (List.mem_filter.mp hw).2
  refine va_Nw.of ?_ (hts w (tb_in (List.mem_filter.mp hw).1))
  cases w <;> first | rfl | exact absurd h2 (by simp [isNest])
theorem start_face {a9 : Array Value} {s : State} (hts : ∀ w ∈ lw_tbl, w.before a9 s = true) : ∀ w ∈ FACE, va_Nw w s := by
  intro w hw
  have h2 := (List.mem_filter.mp hw).2
  rw [Bool.and_eq_true] at h2
  exact va_Nw.of h2.2 (hts w (tb_in (List.mem_filter.mp hw).1))
end STT
theorem start_K {a9 : Array Value} {s : State} (hB : ∀ w ∈ BIG, w.before a9 s = true) : ∃ (dC : Nat → ClassId) (dI : Nat → Nat → Nat) (cI cJ cC : ClassId), va_K (dC, dI) vwCl (TYS cI cJ cC) s := by
  obtain ⟨c0, i0, h0⟩ := u_known (C := RBo) (T := TBo) (N := 2) (n := 2) hB inBo (hB _ q1_62)
  obtain ⟨c1, i1, h1⟩ := u_known (C := RGa) (T := TGa) (N := 6) (n := 6) hB inGa (hB _ q1_135)
  obtain ⟨c2, i2, h2⟩ := u_known (C := RLi) (T := TLi) (N := 2) (n := 2) hB inLi (hB _ q1_40)
  obtain ⟨c3, i3, h3⟩ := u_known (C := RPo) (T := TPo) (N := 6) (n := 6) hB inPo (hB _ q1_56)
  obtain ⟨c4, i4, h4⟩ := u_known (C := RRe) (T := TRe) (N := 3) (n := 3) hB inRe (hB _ q1_34)
  obtain ⟨c5, i5, h5⟩ := u_known (C := RCh) (T := TCh) (N := 3) (n := 3) hB inCh (hB _ q1_26)
  obtain ⟨c6, i6, h6⟩ := u_known (C := RMo) (T := TMo) (N := 24) (n := 24) hB inMo (hB _ q4_183)
  obtain ⟨cI, aI, fI⟩ := arr_of (hB _ q1_75)
  obtain ⟨cJ, aJ, fJ⟩ := arr_of (hB _ q1_76)
  obtain ⟨cC, aC, fC⟩ := arr_of (hB _ q1_54)
  refine ⟨fun k => if k = 0 then c0 else if k = 1 then c1 else if k = 2 then c2 else if k = 3 then c3 else if k = 4 then c4 else if k = 5 then c5 else c6, fun k => if k = 0 then i0 else if k = 1 then i1 else if k = 2 then i2 else if k = 3 then i3 else if k = 4 then i4 else if k = 5 then i5 else i6, cI, cJ, cC, ?_, ?_⟩
  · intro k q hq
    match k, hq with
    | 0, hq => cases hq; exact h0
    | 1, hq => cases hq; exact h1
    | 2, hq => cases hq; exact h2
    | 3, hq => cases hq; exact h3
    | 4, hq => cases hq; exact h4
    | 5, hq => cases hq; exact h5
    | 6, hq => cases hq; exact h6
    | k + 7, hq => simp [vwCl] at hq
  · intro k q hq
    match k, hq with
    | 0, hq => cases hq; exact ⟨aI, fI⟩
    | 1, hq => cases hq; exact ⟨aJ, fJ⟩
    | 2, hq => cases hq; exact ⟨aC, fC⟩
    | k + 3, hq => simp [TYS] at hq
def NW9 : List Cond := flatC (Jvm.Cond.and given_1 narrow_1)
theorem eqR {args : Array Value} {s : State} {t u : Term} {a b : Nat} (h : (Cond.eq t u).before args s = true) (h1 : t.eval args s none [] s = some (.ref a)) (h2 : u.eval args s none [] s = some (.ref b)) : a = b := by
  simp only [Cond.before, Cond.holds, Cond.value, h1, h2] at h
  simpa using h
theorem strR {args : Array Value} {s : State} {tm : Term} (hex : (Cond.exactly tm "java/lang/String").before args s = true) : ∃ a : Nat, tm.eval args s none [] s = some (.ref a) := by
  obtain ⟨a, c, cA, kA, q1, q2⟩ := Cond.exactly_spec (args := args) (first := s) (o := none) (s := s) (idx := []) (t := tm) (cls := "java/lang/String") hex
  exact ⟨a, q1⟩
theorem nw_FIRST : ∀ j, j < 56 → Cond.eq (.elem (.field (.string "ChessRules" 30) "java/lang/String" "value" "[B") (.int (Int32.ofNat j))) (.int (tFIRST j)) ∈ NW9 := by decide +kernel
theorem nw_MEN : ∀ j, j < 15 → Cond.eq (.elem (.field (.string "ChessRules$Reader" 135) "java/lang/String" "value" "[B") (.int (Int32.ofNat j))) (.int (tMEN j)) ∈ NW9 := by decide +kernel
theorem nw_SIDE : ∀ j, j < 2 → Cond.eq (.elem (.field (.string "ChessRules$Reader" 146) "java/lang/String" "value" "[B") (.int (Int32.ofNat j))) (.int (tSIDE j)) ∈ NW9 := by decide +kernel
theorem nw_RIGHTS : ∀ j, j < 4 → Cond.eq (.elem (.field (.string "ChessRules$Reader" 148) "java/lang/String" "value" "[B") (.int (Int32.ofNat j))) (.int (tRIGHTS j)) ∈ NW9 := by decide +kernel
theorem nw_SHIFTS : ∀ j, j < 8 → Cond.eq (.elem (.static "ChessRules$Reach" "SHIFTS" "[I") (.int (Int32.ofNat j))) (.int (tSHIFTS j)) ∈ NW9 := by decide +kernel
theorem nw_STARTS : ∀ j, j < 8 → Cond.eq (.elem (.static "ChessRules$Reach" "STARTS" "[J") (.int (Int32.ofNat j))) (.long (tSTARTS j)) ∈ NW9 := by decide +kernel
set_option maxHeartbeats 4000000 in
theorem start_G {b : Nat} {s : State} (hts : ∀ w ∈ lw_tbl, w.before #[Value.ref b] s = true) (hgv : (Jvm.Cond.and given_1 narrow_1).before #[Value.ref b] s = true) : ∃ ad : Nat → Nat, GY ad (fun q : Nat => s.heap.size ≤ q) s s.heap := by
  have hs : ∀ c ∈ NW9, c.before #[Value.ref b] s = true := flat_of_before _ hgv
  have hA : ∀ a : Nat, a < s.heap.size → ¬ (fun q : Nat => s.heap.size ≤ q) a := fun a h => Nat.not_le.mpr h
  obtain ⟨a0, ea0, Ta0⟩ := va_Tof (args := #[Value.ref b]) (s := s) (A := fun q : Nat => s.heap.size ≤ q) (tm := (.static "ChessRules$Reach" "SHIFTS" "[I")) (ty := .int) (N := 8) (f := fun j => .int (tSHIFTS j)) (by decide) (hs (.arrayOf (.static "ChessRules$Reach" "SHIFTS" "[I") .int) (by decide +kernel)) (va_eqt (hs (.eq (.length (.static "ChessRules$Reach" "SHIFTS" "[I")) (.int 8)) (by decide +kernel))) (fun j hj => va_eqt (hs _ (nw_SHIFTS j hj))) hA
  have Za0 := va_Zref (A := fun q : Nat => s.heap.size ≤ q) (hts (.laysStatic "ChessRules$Reach" "SHIFTS" "[I") (by decide +kernel)) (hts (.initialized "ChessRules$Reach") (by decide +kernel)) ea0 hA
  obtain ⟨a1, ea1, Ta1⟩ := va_Tof (args := #[Value.ref b]) (s := s) (A := fun q : Nat => s.heap.size ≤ q) (tm := (.static "ChessRules$Reach" "STARTS" "[J")) (ty := .long) (N := 8) (f := fun j => .long (tSTARTS j)) (by decide) (hs (.arrayOf (.static "ChessRules$Reach" "STARTS" "[J") .long) (by decide +kernel)) (va_eqt (hs (.eq (.length (.static "ChessRules$Reach" "STARTS" "[J")) (.int 8)) (by decide +kernel))) (fun j hj => va_eqtl (hs _ (nw_STARTS j hj))) hA
  have Za1 := va_Zref (A := fun q : Nat => s.heap.size ≤ q) (hts (.laysStatic "ChessRules$Reach" "STARTS" "[J") (by decide +kernel)) (hts (.initialized "ChessRules$Reach") (by decide +kernel)) ea1 hA
  have Zc := va_Zof (A := fun q : Nat => s.heap.size ≤ q) (hts (.laysStatic "java/lang/String" "COMPACT_STRINGS" "Z") (by decide +kernel)) (hts (.initialized "java/lang/String") (by decide +kernel)) (va_eqt (hs (.eq (.static "java/lang/String" "COMPACT_STRINGS" "Z") (.int 1)) (by decide +kernel))) hA
  obtain ⟨a10, a11, e10, g10⟩ := GStr_of (args := #[Value.ref b]) (s := s) (A := fun q : Nat => s.heap.size ≤ q) (tm := (.string "ChessRules" 30)) (n := 56) (f := tFIRST) (by decide) (hs (.exactly (.string "ChessRules" 30) "java/lang/String") (by decide +kernel)) (hs (.eq (.field (.string "ChessRules" 30) "java/lang/String" "coder" "B") (.int 0)) (by decide +kernel)) (hs (.arrayOf (.field (.string "ChessRules" 30) "java/lang/String" "value" "[B") .byte) (by decide +kernel)) (hs (.eq (.length (.field (.string "ChessRules" 30) "java/lang/String" "value" "[B")) (.int 56)) (by decide +kernel)) (fun j hj => hs _ (nw_FIRST j hj)) hA
  obtain ⟨a12, a13, e12, g12⟩ := GStr_of (args := #[Value.ref b]) (s := s) (A := fun q : Nat => s.heap.size ≤ q) (tm := (.string "ChessRules$Reader" 135)) (n := 15) (f := tMEN) (by decide) (hs (.exactly (.string "ChessRules$Reader" 135) "java/lang/String") (by decide +kernel)) (hs (.eq (.field (.string "ChessRules$Reader" 135) "java/lang/String" "coder" "B") (.int 0)) (by decide +kernel)) (hs (.arrayOf (.field (.string "ChessRules$Reader" 135) "java/lang/String" "value" "[B") .byte) (by decide +kernel)) (hs (.eq (.length (.field (.string "ChessRules$Reader" 135) "java/lang/String" "value" "[B")) (.int 15)) (by decide +kernel)) (fun j hj => hs _ (nw_MEN j hj)) hA
  obtain ⟨a14, a15, e14, g14⟩ := GStr_of (args := #[Value.ref b]) (s := s) (A := fun q : Nat => s.heap.size ≤ q) (tm := (.string "ChessRules$Reader" 146)) (n := 2) (f := tSIDE) (by decide) (hs (.exactly (.string "ChessRules$Reader" 146) "java/lang/String") (by decide +kernel)) (hs (.eq (.field (.string "ChessRules$Reader" 146) "java/lang/String" "coder" "B") (.int 0)) (by decide +kernel)) (hs (.arrayOf (.field (.string "ChessRules$Reader" 146) "java/lang/String" "value" "[B") .byte) (by decide +kernel)) (hs (.eq (.length (.field (.string "ChessRules$Reader" 146) "java/lang/String" "value" "[B")) (.int 2)) (by decide +kernel)) (fun j hj => hs _ (nw_SIDE j hj)) hA
  obtain ⟨a16, a17, e16, g16⟩ := GStr_of (args := #[Value.ref b]) (s := s) (A := fun q : Nat => s.heap.size ≤ q) (tm := (.string "ChessRules$Reader" 148)) (n := 4) (f := tRIGHTS) (by decide) (hs (.exactly (.string "ChessRules$Reader" 148) "java/lang/String") (by decide +kernel)) (hs (.eq (.field (.string "ChessRules$Reader" 148) "java/lang/String" "coder" "B") (.int 0)) (by decide +kernel)) (hs (.arrayOf (.field (.string "ChessRules$Reader" 148) "java/lang/String" "value" "[B") .byte) (by decide +kernel)) (hs (.eq (.length (.field (.string "ChessRules$Reader" 148) "java/lang/String" "value" "[B")) (.int 4)) (by decide +kernel)) (fun j hj => hs _ (nw_RIGHTS j hj)) hA
  obtain ⟨w72, f72⟩ := strR (hs (.exactly (.string "ChessRules$Writer" 72) "java/lang/String") (by decide +kernel))
  have q72 := eqR (hs (.eq (.string "ChessRules$Reader" 135) (.string "ChessRules$Writer" 72)) (by decide +kernel)) e12 f72
  subst q72
  obtain ⟨w84, f84⟩ := strR (hs (.exactly (.string "ChessRules$Writer" 84) "java/lang/String") (by decide +kernel))
  have q84 := eqR (hs (.eq (.string "ChessRules$Reader" 148) (.string "ChessRules$Writer" 84)) (by decide +kernel)) e16 f84
  subst q84
  obtain ⟨a30, e30⟩ := strR (hs (.exactly (.string "ChessRules" 89) "java/lang/String") (by decide +kernel))
  obtain ⟨a31, e31⟩ := strR (hs (.exactly (.string "ChessRules" 124) "java/lang/String") (by decide +kernel))
  obtain ⟨a32, e32⟩ := strR (hs (.exactly (.string "ChessRules" 126) "java/lang/String") (by decide +kernel))
  obtain ⟨a33, e33⟩ := strR (hs (.exactly (.string "ChessRules" 142) "java/lang/String") (by decide +kernel))
  obtain ⟨a34, e34⟩ := strR (hs (.exactly (.string "ChessRules" 149) "java/lang/String") (by decide +kernel))
  obtain ⟨a35, e35⟩ := strR (hs (.exactly (.string "ChessRules" 157) "java/lang/String") (by decide +kernel))
  obtain ⟨a36, e36⟩ := strR (hs (.exactly (.string "ChessRules" 165) "java/lang/String") (by decide +kernel))
  obtain ⟨a37, e37⟩ := strR (hs (.exactly (.string "ChessRules" 171) "java/lang/String") (by decide +kernel))
  obtain ⟨a38, e38⟩ := strR (hs (.exactly (.string "ChessRules" 176) "java/lang/String") (by decide +kernel))
  obtain ⟨a39, e39⟩ := strR (hs (.exactly (.string "ChessRules" 188) "java/lang/String") (by decide +kernel))
  refine ⟨fun k => if k = 0 then a0 else if k = 1 then a1 else if k = 10 then a10 else if k = 11 then a11 else if k = 12 then a12 else if k = 13 then a13 else if k = 14 then a14 else if k = 15 then a15 else if k = 16 then a16 else if k = 17 then a17 else if k = 30 then a30 else if k = 31 then a31 else if k = 32 then a32 else if k = 33 then a33 else if k = 34 then a34 else if k = 35 then a35 else if k = 36 then a36 else if k = 37 then a37 else if k = 38 then a38 else if k = 39 then a39 else 0, ?_⟩
  have hst : GStatic (fun k => if k = 0 then a0 else if k = 1 then a1 else if k = 10 then a10 else if k = 11 then a11 else if k = 12 then a12 else if k = 13 then a13 else if k = 14 then a14 else if k = 15 then a15 else if k = 16 then a16 else if k = 17 then a17 else if k = 30 then a30 else if k = 31 then a31 else if k = 32 then a32 else if k = 33 then a33 else if k = 34 then a34 else if k = 35 then a35 else if k = 36 then a36 else if k = 37 then a37 else if k = 38 then a38 else if k = 39 then a39 else 0) (fun q : Nat => s.heap.size ≤ q) s s.heap := ⟨Za0, Ta0, Za1, Ta1, Zc, g10, g12, g14, g16, va_Zqof (hts (.laysStatic "jdk/internal/util/Preconditions" "SIOOBE_FORMATTER" "Ljava/util/function/BiFunction;") (by decide +kernel)) (hts (.initialized "jdk/internal/util/Preconditions") (by decide +kernel)) (hs (.isRef (.static "jdk/internal/util/Preconditions" "SIOOBE_FORMATTER" "Ljava/util/function/BiFunction;")) (by decide +kernel)) hA, va_Zqof (hts (.laysStatic "java/lang/Throwable" "UNASSIGNED_STACK" "[Ljava/lang/StackTraceElement;") (by decide +kernel)) (hts (.initialized "java/lang/Throwable") (by decide +kernel)) (hs (.isRef (.static "java/lang/Throwable" "UNASSIGNED_STACK" "[Ljava/lang/StackTraceElement;")) (by decide +kernel)) hA, va_Zqof (hts (.laysStatic "java/lang/Throwable" "SUPPRESSED_SENTINEL" "Ljava/util/List;") (by decide +kernel)) (hts (.initialized "java/lang/Throwable") (by decide +kernel)) (hs (.isRef (.static "java/lang/Throwable" "SUPPRESSED_SENTINEL" "Ljava/util/List;")) (by decide +kernel)) hA⟩
  have hrf : GRef (fun k => if k = 0 then a0 else if k = 1 then a1 else if k = 10 then a10 else if k = 11 then a11 else if k = 12 then a12 else if k = 13 then a13 else if k = 14 then a14 else if k = 15 then a15 else if k = 16 then a16 else if k = 17 then a17 else if k = 30 then a30 else if k = 31 then a31 else if k = 32 then a32 else if k = 33 then a33 else if k = 34 then a34 else if k = 35 then a35 else if k = 36 then a36 else if k = 37 then a37 else if k = 38 then a38 else if k = 39 then a39 else 0) s := ⟨vk_R.of (hts (.stringRef "ChessRules" 30 "rnbqkbnr/pppppppp/8/8/8/8/PPPPPPPP/RNBQKBNR w KQkq - 0 1") (by decide +kernel)) e10, vk_R.of (hts (.stringRef "ChessRules$Reader" 135 " PNBRQK  pnbrqk") (by decide +kernel)) e12, vk_R.of (hts (.stringRef "ChessRules$Reader" 146 "wb") (by decide +kernel)) e14, vk_R.of (hts (.stringRef "ChessRules$Reader" 148 "KQkq") (by decide +kernel)) e16, vk_R.of (hts (.stringRef "ChessRules$Writer" 72 " PNBRQK  pnbrqk") (by decide +kernel)) f72, vk_R.of (hts (.stringRef "ChessRules$Writer" 84 "KQkq") (by decide +kernel)) f84, vk_R.of (hts (.stringRef "ChessRules" 89 "no such square") (by decide +kernel)) e30, vk_R.of (hts (.stringRef "ChessRules" 124 "nothing is told of this") (by decide +kernel)) e31, vk_R.of (hts (.stringRef "ChessRules" 126 "no such square or side") (by decide +kernel)) e32, vk_R.of (hts (.stringRef "ChessRules" 142 "no such move") (by decide +kernel)) e33, vk_R.of (hts (.stringRef "ChessRules" 149 "the move is not legal") (by decide +kernel)) e34, vk_R.of (hts (.stringRef "ChessRules" 157 "the game is over") (by decide +kernel)) e35, vk_R.of (hts (.stringRef "ChessRules" 165 "the game is too long") (by decide +kernel)) e36, vk_R.of (hts (.stringRef "ChessRules" 171 "no move was played") (by decide +kernel)) e37, vk_R.of (hts (.stringRef "ChessRules" 176 "no such move was played") (by decide +kernel)) e38, vk_R.of (hts (.stringRef "ChessRules" 188 "the depth is not 0 .. 3") (by decide +kernel)) e39⟩
  exact ⟨⟨⟨start_nest hts, hst, hrf, start_face hts⟩, TZ_at (hts (.laysStatic "java/lang/Throwable" "UNASSIGNED_STACK" "[Ljava/lang/StackTraceElement;") (by decide +kernel)) (hs (.isRef (.static "java/lang/Throwable" "UNASSIGNED_STACK" "[Ljava/lang/StackTraceElement;")) (by decide +kernel)) hA, TZ_at (hts (.laysStatic "java/lang/Throwable" "SUPPRESSED_SENTINEL" "Ljava/util/List;") (by decide +kernel)) (hs (.isRef (.static "java/lang/Throwable" "SUPPRESSED_SENTINEL" "Ljava/util/List;")) (by decide +kernel)) hA⟩, NA_of (hs (.not (.castable "java/lang/IllegalStateException" "java/lang/IllegalArgumentException")) (by decide +kernel)), NA_of (hs (.not (.castable "java/lang/UnsupportedOperationException" "java/lang/IllegalArgumentException")) (by decide +kernel)), NA_of (hs (.not (.castable "java/lang/UnsupportedOperationException" "java/lang/IllegalStateException")) (by decide +kernel))⟩

set_option maxRecDepth 100000 in
theorem z_nI_ne0 {a : Nat} (h : ¬ a = 0) (ha : a < 2147483648) : ¬ nI a = 0 := fun e => h ((z_nI_inj (b := 0) ha (by decide)).mp e)
set_option maxRecDepth 100000 in
theorem z_nI_ne1 {a : Nat} (h : ¬ a = 1) (ha : a < 2147483648) : ¬ nI a = 1 := fun e => h ((z_nI_inj (b := 1) ha (by decide)).mp e)
set_option maxRecDepth 100000 in
theorem z_oneKing_cls {M : Nat → Int32} {W : St_Po} (hB : z_BdM M W.1) {s : Nat} (hs : s < 2) : f_Re_hasOneKing W (nI s) = if z_oneK M s then 1 else 0 := by
  have e : z_pc (f_Bo_setOf W.1.2 6 (nI s)) = z_cF (fun q => decide (M q = nI (6 + 8 * s))) 0 64 := by
    rw [← z_cF_pc]
    exact z_cF_congr 64 0 (fun r _ hr => z_setOf_eq hB.bd (k := 6) (by decide) hs (by omega))
  unfold f_Re_hasOneKing z_oneK
  rw [z_bitCount_eq, e]
  have hle := z_cF_le (fun q => decide (M q = nI (6 + 8 * s))) 64 0
  by_cases c : z_cF (fun q => decide (M q = nI (6 + 8 * s))) 0 64 = 1
  · rw [c]; rfl
  · rw [if_neg (z_nI_ne1 c (by omega)), decide_eq_false c]; rfl
set_option maxRecDepth 100000 in
theorem z_outer_bits : ∀ q, q < 64 → z_tb (-72057594037927681) q = (decide (q < 8) || decide (56 ≤ q)) := by decide +kernel
set_option maxRecDepth 100000 in
theorem z_pawnE_cls {M : Nat → Int32} {sets : Nat → Int64} (B : z_Bd M sets) : ((f_Bo_bothOf sets 1) &&& (-72057594037927681)) = 0 ↔ z_pawnE M = false := by
  have eb : ∀ q, q < 64 → z_tb ((f_Bo_bothOf sets 1) &&& (-72057594037927681)) q = (z_kdB M (nI 1) q && (decide (q < 8) || decide (56 ≤ q))) := by
    intro q hq
    rw [z_tb_and, show f_Bo_bothOf sets 1 = f_Bo_bothOf sets (nI 1) from rfl, z_bothOf_eq B (by decide) (by decide) hq, z_outer_bits q hq]
  rw [z_eq0_iff]
  unfold z_pawnE
  rw [List.any_eq_false]
  constructor
  · intro h f hf hc
    have hf8 : f < 8 := List.mem_range.mp hf
    have h1 := h f (by omega)
    have h2 := h (56 + f) (by omega)
    rw [eb _ (by omega)] at h1 h2
    rw [Bool.or_eq_true, decide_eq_true_eq, decide_eq_true_eq] at hc
    rcases hc with hc | hc
    · have k1 : z_kdB M (nI 1) f = true := decide_eq_true hc
      rw [k1, decide_eq_true hf8] at h1
      simp at h1
    · have k2 : z_kdB M (nI 1) (56 + f) = true := decide_eq_true hc
      rw [k2, decide_eq_true (show 56 ≤ 56 + f by omega)] at h2
      simp at h2
  · intro h q hq
    rw [eb q hq]
    by_cases c : z_kdB M (nI 1) q = true
    · have hk : M q &&& 7 = 1 := of_decide_eq_true c
      by_cases c8 : q < 8
      · have := h q (List.mem_range.mpr c8)
        rw [decide_eq_true hk] at this; simp at this
      · by_cases c56 : 56 ≤ q
        · have := h (q - 56) (List.mem_range.mpr (by omega))
          rw [show 56 + (q - 56) = q by omega, decide_eq_true hk] at this; simp at this
        · rw [decide_eq_false c8, decide_eq_false c56]; simp
    · rw [Bool.eq_false_iff.mpr c]; rfl
set_option maxRecDepth 100000 in
theorem z_chk_cls {M : Nat → Int32} {sets : Nat → Int64} (B : z_Bd M sets) {s : Nat} (hs : s < 2) (h1 : z_oneK M (1 - s) = true) : f_Bo_isInCheck sets (1 - nI s) = if z_chk M s then 1 else 0 := by
  obtain ⟨k, hk⟩ := z_oneK_is h1
  rw [show (1 : Int32) - nI s = nI (1 - s) from z_nI_sub (a := 1) (by omega) (by omega), z_isInCheck_eq B (by omega) hk, z_chk_K hk, show 1 - (1 - s) = s by omega]
set_option maxRecDepth 100000 in
theorem z_hasRight_b : ∀ r, r < 16 → ∀ s, s < 2 → ∀ w, w < 2 → f_Po_hasRight (nI r) (nI s) (nI w) = if r.testBit (2 * s + w) then 1 else 0 := by decide +kernel
set_option maxRecDepth 100000 in
theorem z_rookHome_b : ∀ s, s < 2 → ∀ w, w < 2 → f_Po_rookHome (nI s) (nI w) = nI (56 * s + (if w = 0 then 7 else 0)) := by decide
set_option maxRecDepth 100000 in
theorem z_rt32_step {P : z_Pos} (hr : P.rights < 16) {W : St_Po} (R : z_RelP W P) {s w n : Nat} (hs : s < 2) (hw : w < 2) {k : Int32} (hk : k = if P.men (z_home s) = nI (6 + 8 * s) then 1 else 0) :
    f_Re_rightsHaveTheirMen_32 W (nI s) k (n + 1) (nI w) = if z_rtOk P s w then f_Re_rightsHaveTheirMen_32 W (nI s) k n (nI (w + 1)) else 0 := by
  have e1 : W.2.2.1 = nI P.rights := by rw [R.2]
  have a2 : 56 * s + (if w = 0 then 7 else 0) < 64 := by split <;> omega
  have e3 : (4 : Int32) + 8 * nI s = nI (4 + 8 * s) := by
    rw [show (4 : Int32) = nI 4 from rfl, show (8 : Int32) = nI 8 from rfl, z_nI_mul, z_nI_add]
  rw [f_Re_rightsHaveTheirMen_32]; dsimp only
  rw [if_neg (by rw [show (2 : Int32) = nI 2 from rfl, z_nI_le (by omega) (by omega)]; omega), z_rookHome_b s hs w hw, z_manAt_eq _ a2, R.1.2 _ a2, e3]
  unfold f_Re_rightsHaveTheirMen_66
  rw [e1, z_hasRight_b P.rights hr s hs w hw, show nI w + 1 = nI (w + 1) from z_nI_add w 1]
  have z1 : ¬ (1 : Int32) = 0 := by decide
  unfold z_rtOk
  cases hb : P.rights.testBit (2 * s + w)
  · simp
  · by_cases ck : P.men (z_home s) = nI (6 + 8 * s)
    · rw [if_pos ck] at hk
      by_cases cr : P.men (56 * s + (if w = 0 then 7 else 0)) = nI (4 + 8 * s)
      · rw [if_pos cr, hk, if_neg (by decide), if_neg z1, if_neg z1, decide_eq_true ck, decide_eq_true cr]; rfl
      · rw [if_neg cr, hk, if_neg (by decide), if_neg z1, if_pos rfl, decide_eq_false cr]; simp
    · rw [if_neg ck] at hk
      rw [hk, decide_eq_false ck]
      simp
set_option maxRecDepth 100000 in
theorem z_rights_cls {P : z_Pos} (hr : P.rights < 16) {W : St_Po} (R : z_RelP W P) {s : Nat} (hs : s < 2) : f_Re_rightsHaveTheirMen W (nI s) = if z_rtOk P s 0 && z_rtOk P s 1 then 1 else 0 := by
  have a1 : z_home s < 64 := by unfold z_home; omega
  have e0 : f_Po_kingHome (nI s) = nI (z_home s) := (by decide : ∀ s, s < 2 → f_Po_kingHome (nI s) = nI (z_home s)) s hs
  have e3 : (6 : Int32) + 8 * nI s = nI (6 + 8 * s) := by
    rw [show (6 : Int32) = nI 6 from rfl, show (8 : Int32) = nI 8 from rfl, z_nI_mul, z_nI_add]
  have key : ∀ k : Int32, (k = if P.men (z_home s) = nI (6 + 8 * s) then 1 else 0) → f_Re_rightsHaveTheirMen_29 W (nI s) k = if z_rtOk P s 0 && z_rtOk P s 1 then 1 else 0 := by
    intro k hk
    unfold f_Re_rightsHaveTheirMen_29
    rw [show (0 : Int32) = nI 0 from rfl, z_rt32_step hr R hs (by decide) hk, z_rt32_step hr R hs (by decide) hk]
    have e : f_Re_rightsHaveTheirMen_32 W (nI s) k 1 (nI (0 + 1 + 1)) = 1 := by
      rw [f_Re_rightsHaveTheirMen_32]; dsimp only
      rw [if_pos (by decide)]
    rw [e]
    cases z_rtOk P s 0 <;> cases z_rtOk P s 1 <;> rfl
  unfold f_Re_rightsHaveTheirMen
  rw [e0, z_manAt_eq _ a1, R.1.2 _ a1, e3]
  by_cases c : P.men (z_home s) = nI (6 + 8 * s)
  · rw [if_pos c]; exact key 1 (by rw [if_pos c])
  · rw [if_neg c]; exact key 0 (by rw [if_neg c])
set_option maxRecDepth 100000 in
theorem z_atkP_cls {P : z_Pos} (hs : P.side < 2) {W : St_Po} (R : z_RelP W P) {q : Nat} (hq : q < 64) : z_tb (f_Po_pawnsThatAttackPassed W.1 (nI P.side) (z_pI P.passed)) q = (decide (P.passed < 64) && z_pnHit (decide (P.side = 0)) q P.passed && decide (P.men q = nI (1 + 8 * P.side))) := by
  rw [f_Po_pawnsThatAttackPassed, z_tb_and, show f_Bo_setOf W.1.2 1 (nI P.side) = f_Bo_setOf W.1.2 (nI 1) (nI P.side) from rfl, z_setOf_eq R.1.bd (by decide) hs hq]
  congr 1
  rw [f_Po_passedSet, z_pI]
  by_cases c : P.passed < 64
  · rw [if_pos c, if_neg (z_nI_m1 _ (by omega)), show shl64 1 (nI P.passed) = z_bt P.passed from rfl]
    have pn := z_all2 z_pn_cls0 c hq
    rw [Bool.and_eq_true, beq_iff_eq, beq_iff_eq] at pn
    have hs2 : P.side = 0 ∨ P.side = 1 := by omega
    rcases hs2 with h | h
    · rw [h, show (1 : Int32) - nI 0 = 1 from by decide, pn.1]; simp [c]
    · rw [h, show (1 : Int32) - nI 1 = 0 from by decide, pn.2]; simp [c]
  · rw [if_neg c, if_pos rfl]
    have : f_Ra_byPawn 0 (1 - nI P.side) = 0 := (by decide : ∀ s, s < 2 → f_Ra_byPawn 0 (1 - nI s) = 0) _ hs
    rw [this, z_tb_zero]; simp [c]
set_option maxRecDepth 100000 in
theorem z_atkP_zero {P : z_Pos} (hs : P.side < 2) (hp : P.passed < 64) {W : St_Po} (R : z_RelP W P) : f_Po_pawnsThatAttackPassed W.1 (nI P.side) (z_pI P.passed) = 0 ↔ (List.range 64).any (fun q => decide (P.men q = nI (1 + 8 * P.side)) && z_pnHit (decide (P.side = 0)) q P.passed) = false := by
  rw [z_eq0_iff, List.any_eq_false]
  constructor
  · intro h q hq hc
    have h1 := h q (List.mem_range.mp hq)
    rw [z_atkP_cls hs R (List.mem_range.mp hq), decide_eq_true hp] at h1
    rw [Bool.and_eq_true] at hc
    rw [hc.1, hc.2] at h1
    simp at h1
  · intro h q hq
    have h1 := Bool.eq_false_iff.mpr (h q (List.mem_range.mpr hq))
    rw [z_atkP_cls hs R hq, decide_eq_true hp, Bool.true_and, Bool.and_comm]
    exact h1
set_option maxRecDepth 100000 in
theorem z_st_b : ∀ p, p < 64 → nI p - (-8) = nI (p + 8) ∧ (8 ≤ p → nI p + (-8) = nI (p - 8)) := by decide
set_option maxRecDepth 100000 in
theorem z_shr3_b : ∀ p, p < 64 → nI p >>> ((3 : Int32) &&& 31) = nI (p / 8) := by decide
set_option maxRecDepth 100000 in
theorem z_free_cls {M : Nat → Int32} {b : St_Bo} (hB : z_BdM M b) {q : Nat} (hq : q < 64) : f_Bo_isFree b.1 (nI q) = if z_fre M q then 1 else 0 := by
  rw [f_Bo_isFree, z_manAt_eq _ hq, hB.2 q hq, z_fre]
  by_cases h : M q = 0
  · simp [h]
  · simp [h]
set_option maxRecDepth 100000 in
theorem z_just_25 {P : z_Pos} (hs : P.side < 2) (hp : P.passed < 64) {W : St_Po} (R : z_RelP W P) {d : Nat} (hd : d = if P.side = 0 then 5 else 2) : f_Re_justPassed_25 W (nI d) = if z_psOk P then 1 else 0 := by
  have e1 : W.2.1 = nI P.side := by rw [R.2]
  have e2 : W.2.2.2.1 = nI P.passed := by rw [R.2]; show z_pI P.passed = _; unfold z_pI; rw [if_pos hp]
  have e2' : z_pI P.passed = nI P.passed := by unfold z_pI; rw [if_pos hp]
  have hd64 : d < 64 := by rw [hd]; split <;> decide
  unfold f_Re_justPassed_25
  rw [e1, e2, z_free_cls R.1 hp, z_shr3_b _ hp]
  unfold z_psOk
  rw [show decide (64 ≤ P.passed) = false from decide_eq_false (by omega), Bool.false_or, ← hd]
  cases h1 : z_fre P.men P.passed
  · simp
  · rw [if_neg (by decide)]
    by_cases h2 : P.passed / 8 = d
    · rw [if_pos (by rw [h2]), decide_eq_true h2]
      have s1 : nI P.passed - f_Ch_stepOf (nI P.side) = nI (if P.side = 0 then P.passed - 8 else P.passed + 8) ∧ (if P.side = 0 then P.passed - 8 else P.passed + 8) < 64 ∧ nI P.passed + f_Ch_stepOf (nI P.side) = nI (if P.side = 0 then P.passed + 8 else P.passed - 8) ∧ (if P.side = 0 then P.passed + 8 else P.passed - 8) < 64 := by
        by_cases c : P.side = 0
        · rw [if_pos c] at hd
          rw [if_pos c, if_pos c, c, show f_Ch_stepOf (nI 0) = nI 8 from rfl, z_nI_sub (by omega) (by omega), z_nI_add]
          exact ⟨rfl, by omega, rfl, by omega⟩
        · rw [if_neg c] at hd
          have c1 : P.side = 1 := by omega
          rw [if_neg c, if_neg c, c1, show f_Ch_stepOf (nI 1) = -8 from by decide]
          exact ⟨(z_st_b P.passed hp).1, by omega, (z_st_b P.passed hp).2 (by omega), by omega⟩
      obtain ⟨s1, s2, z_s3, s4⟩ := s1
      have e5 : (1 : Int32) + 8 * (1 - nI P.side) = nI (1 + 8 * (1 - P.side)) := by
        rw [show (1 : Int32) - nI P.side = nI (1 - P.side) from z_nI_sub (a := 1) (by omega) (by omega), show (1 : Int32) = nI 1 from rfl, show (8 : Int32) = nI 8 from rfl, z_nI_mul, z_nI_add]
      rw [s1, z_s3, z_manAt_eq _ s2, R.1.2 _ s2, z_free_cls R.1 s4, e5, ← e2']
      by_cases h3 : P.men (if P.side = 0 then P.passed - 8 else P.passed + 8) = nI (1 + 8 * (1 - P.side))
      · rw [if_pos h3, decide_eq_true h3]
        cases h4 : z_fre P.men (if P.side = 0 then P.passed + 8 else P.passed - 8)
        · simp
        · rw [if_neg (by decide)]
          have az := z_atkP_zero hs hp R
          cases h5 : (List.range 64).any (fun q => decide (P.men q = nI (1 + 8 * P.side)) && z_pnHit (decide (P.side = 0)) q P.passed)
          · rw [if_pos (az.mpr h5)]; rfl
          · rw [if_neg (fun h => by rw [az.mp h] at h5; exact absurd h5 (by decide))]; rfl
      · rw [if_neg h3, decide_eq_false h3]; simp
    · rw [if_neg (fun h => h2 ((z_nI_inj (by omega) (by omega)).mp h)), decide_eq_false h2]; simp
set_option maxRecDepth 100000 in
theorem z_just_cls {P : z_Pos} (hs : P.side < 2) (hp : P.passed < 64) {W : St_Po} (R : z_RelP W P) : f_Re_justPassed W = if z_psOk P then 1 else 0 := by
  have e1 : W.2.1 = nI P.side := by rw [R.2]
  unfold f_Re_justPassed
  rw [e1]
  by_cases c : P.side = 0
  · rw [if_pos (by rw [c]; rfl)]; exact z_just_25 hs hp R (d := 5) (by rw [if_pos c])
  · rw [if_neg (by rw [show P.side = 1 by omega]; decide)]; exact z_just_25 hs hp R (d := 2) (by rw [if_neg c])
set_option maxRecDepth 100000 in
theorem z_flt_cls {P : z_Pos} (hs : P.side < 2) (hr : P.rights < 16) (hp : P.passed ≤ 64) {W : St_Po} (R : z_RelP W P) (t : St_Li) (W0 : St_Po) (R9 : St_Bo × Int32 × Int32 × Int32 × Int32 × Int32) (a : Int32) :
    f_Re_findFault_r13 t W0 R9 (1, W, a) = (nI (z_fltN P), W, a) := by
  have e1 : W.2.1 = nI P.side := by rw [R.2]
  have z1 : ¬ (1 : Int32) = 0 := by decide
  unfold f_Re_findFault_r13
  dsimp only
  rw [if_neg z1, show (0 : Int32) = nI 0 from rfl, z_oneKing_cls R.1 (show 0 < 2 by decide), show f_Re_hasOneKing W 1 = f_Re_hasOneKing W (nI 1) from rfl, z_oneKing_cls R.1 (show 1 < 2 by decide), show f_Re_rightsHaveTheirMen W 1 = f_Re_rightsHaveTheirMen W (nI 1) from rfl, z_rights_cls hr R (show 0 < 2 by decide), z_rights_cls hr R (show 1 < 2 by decide), e1]
  unfold z_fltN
  cases k0 : z_oneK P.men 0
  · rw [if_pos (by rfl)]; rfl
  · cases k1 : z_oneK P.men 1
    · rw [if_neg (by decide), if_pos (by rfl)]; rfl
    · rw [if_neg (by decide), if_neg (by decide)]
      cases kp : z_pawnE P.men
      · rw [if_pos ((z_pawnE_cls R.1.bd).mpr kp)]
        have hk : z_oneK P.men (1 - P.side) = true := by
          rcases (show P.side = 0 ∨ P.side = 1 by omega) with h | h
          · rw [h]; exact k1
          · rw [h]; exact k0
        rw [z_chk_cls R.1.bd hs hk]
        cases kc : z_chk P.men P.side
        · rw [if_pos (by rfl)]
          cases r00 : z_rtOk P 0 0
          · rw [if_pos (by rfl)]; rfl
          · cases r01 : z_rtOk P 0 1
            · rw [if_pos (by rfl)]; rfl
            · rw [if_neg (by decide)]
              cases z_r10 : z_rtOk P 1 0
              · rw [if_pos (by rfl)]; rfl
              · cases r11 : z_rtOk P 1 1
                · rw [if_pos (by rfl)]; rfl
                · rw [if_neg (by decide)]
                  by_cases c : P.passed < 64
                  · have e2 : W.2.2.2.1 = nI P.passed := by rw [R.2]; show z_pI P.passed = _; unfold z_pI; rw [if_pos c]
                    rw [e2, if_neg (z_nI_m1 _ (by omega)), z_just_cls hs c R]
                    cases kj : z_psOk P
                    · rw [if_pos (by rfl)]; rfl
                    · rw [if_neg (by decide)]; rfl
                  · have e2 : W.2.2.2.1 = -1 := by rw [R.2]; show z_pI P.passed = _; unfold z_pI; rw [if_neg c]
                    have e3 : z_psOk P = true := by unfold z_psOk; rw [decide_eq_true (show 64 ≤ P.passed by omega)]; rfl
                    rw [if_pos e2, e3]; rfl
        · rw [if_neg (by decide)]; rfl
      · rw [if_neg (fun h => by rw [(z_pawnE_cls R.1.bd).mp h] at kp; exact absurd kp (by decide))]; rfl
set_option maxRecDepth 100000 in
theorem z_findFault_eq {t : St_Li} {n : Nat} {sg : Nat → Nat} (hn : n ≤ 100) (ht : t.2 = nI n) (hsg : z_SgC t sg) (hz : ∀ p, n ≤ p → sg p = 0) {W : St_Po} {M : Nat → Int32} (hB : z_BdM M W.1) :
    match z_txS sg n with
    | none => ∃ M' W' a, z_BdM M' W'.1 ∧ f_Re_findFault t W = (1, W', a)
    | some P => ∃ W', z_RelP W' P ∧ f_Re_findFault t W = (nI (z_fltN P), W', nI n) := by
  obtain ⟨b', hb', eb⟩ := z_clear_eq hB W.2.1 W.2.2.1 W.2.2.2.1 W.2.2.2.2.1 W.2.2.2.2.2
  have e0 : f_Re_findFault t W = f_Re_findFault_r13 t W (b', 0, 0, -1, 0, 1) (f_Re_readAll t (b', 0, 0, -1, 0, 1) 0) := by
    rw [f_Re_findFault, eb, f_Re_findFault_r9]
  have RA := z_readAll_eq hn ht hsg hz (W := (b', 0, 0, -1, 0, 1)) hb' rfl rfl
  have hfail : ∀ R, z_FailR R → ∃ M' W' a, z_BdM M' W'.1 ∧ f_Re_findFault_r13 t W (b', 0, 0, -1, 0, 1) R = (1, W', a) := by
    rintro R ⟨M', W', a', h1, h2⟩
    refine ⟨M', W', a', h1, ?_⟩
    rw [h2, f_Re_findFault_r13]; dsimp only
    rw [if_pos rfl]
  cases hx : z_txS sg n with
  | none =>
    dsimp only
    rw [e0]
    apply hfail
    unfold z_txS at hx
    cases hq : z_mnS sg 8 0 (fun _ => 0) with
    | none => rw [hq] at RA; exact RA
    | some q =>
      rw [hq] at RA hx
      dsimp only at RA hx
      cases hy : z_restS sg n q.1 with
      | none => rw [hy] at RA; exact RA
      | some x => rw [hy] at hx; exact absurd hx (by simp)
  | some P =>
    dsimp only
    obtain ⟨_, hs, hr, hp, _⟩ := z_tx_bd hx
    rw [e0]
    unfold z_txS at hx
    cases hq : z_mnS sg 8 0 (fun _ => 0) with
    | none => rw [hq] at hx; exact absurd hx (by simp)
    | some q =>
      rw [hq] at RA hx
      dsimp only at RA hx
      cases hy : z_restS sg n q.1 with
      | none => rw [hy] at hx; exact absurd hx (by simp)
      | some x =>
        rw [hy] at RA hx
        dsimp only at RA hx
        obtain ⟨b2, h2, e2⟩ := RA
        have hP : P = (q.2, x.1, x.2.1, x.2.2.1, x.2.2.2.1, x.2.2.2.2) := (Option.some.inj hx).symm
        refine ⟨(b2, nI x.1, nI x.2.1, z_pI x.2.2.1, nI x.2.2.2.1, nI x.2.2.2.2), ?_, ?_⟩
        · rw [hP]; exact ⟨h2, rfl⟩
        · rw [e2]
          refine z_flt_cls hs hr hp ?_ t W _ (nI n)
          rw [hP]; exact ⟨h2, rfl⟩

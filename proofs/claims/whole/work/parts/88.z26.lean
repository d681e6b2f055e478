set_option maxRecDepth 100000 in
theorem z_list0 {P : z_Pos} (V : z_Val P) (kM kR ls cs : Nat → Int32) : ∃ kM' kR', f_Mo_list P.men (nI P.side) (nI P.rights) (z_pI P.passed) (nI P.clock) (nI P.number) kM kR ls cs 0 = (kM', kR', z_wr ls 0 (z_all P), upd cs 0 (nI (z_all P).length)) := by
  obtain ⟨kM', kR', _, h⟩ := z_list_eq V (dp := 0) (by decide) kM kR ls cs
  exact ⟨kM', kR', h⟩
set_option maxRecDepth 100000 in
theorem z_clamp0 : (0 : Int32).toNatClampNeg = 0 := by decide
set_option maxRecDepth 100000 in
theorem z_updL_z (out : Nat → Int64) (x : Int64) : vp_updL out (0 : Int32).toNatClampNeg x 0 = x := by rw [z_clamp0, z_updL_same]
set_option maxRecDepth 100000 in
theorem z_le64 {j : Nat} (hj : j < 2147483648) (h : ¬ j < 64) : (64 : Int32) ≤ nI j := by rw [show (64 : Int32) = nI 64 from rfl, z_nI_le (by omega) hj]; omega
set_option maxRecDepth 100000 in
theorem z_le63 {j : Nat} (h : j < 64) : nI j ≤ (63 : Int32) := by rw [show (63 : Int32) = nI 63 from rfl, z_nI_le (by omega) (by omega)]; omega
set_option maxRecDepth 100000 in
theorem z_gt63 {j : Nat} (hj : j < 2147483648) (h : ¬ j < 64) : (63 : Int32) < nI j := by rw [show (63 : Int32) = nI 63 from rfl, z_nI_lt (by omega) hj]; omega
set_option maxRecDepth 100000 in
theorem z_hasMove_R {P : z_Pos} (V : z_Val P) {W : St_Po} (R : z_RelP W P) : f_Po_hasMove W.1 W.2.1 W.2.2.1 W.2.2.2.1 = if z_all P = [] then 0 else 1 := by
  rw [R.2]; exact z_hasMove_eq V R.1.2 R.1.bd (z_kOf_is V)
set_option maxRecDepth 100000 in
theorem z_isLegal_R {P : z_Pos} (V : z_Val P) {W : St_Po} (R : z_RelP W P) (m : Int32) : f_Po_isLegal W.1 W.2.1 W.2.2.1 W.2.2.2.1 m = if m ∈ z_all P then 1 else 0 := by
  rw [R.2]; exact z_isLegal_eq V R.1.2 R.1.bd (z_kOf_is V) m
set_option maxRecDepth 100000 in
theorem z_inOrder_R {P : z_Pos} (V : z_Val P) {W : St_Po} (R : z_RelP W P) {kk : Nat} (hkk : kk < 2147483648) : f_Po_moveInOrder W.1 W.2.1 W.2.2.1 W.2.2.2.1 (nI kk) = (z_all P).getD kk (-1) := by
  rw [R.2]; exact z_moveInOrder_eq V R.1.2 R.1.bd (z_kOf_is V) hkk
set_option maxRecDepth 100000 in
theorem z_check_same {P : z_Pos} (V : z_Val P) {W : St_Po} (R : z_RelP W P) : f_Po_isInCheck W.1 W.2.1 = f_Mo_inCheck P.men (nI P.side) := by
  rw [f_Po_isInCheck, R.2, z_inCheck_eq V.hs (z_kOf_is V)]
  exact z_isInCheck_eq R.1.bd V.hs (z_kOf_is V)
set_option maxRecDepth 100000 in
theorem z_gi_VP {g : St_Ga} {men : Nat → Int32} {a b c d e pls : Int32} {pm p1 p2 p3 p4 p5 : Nat → Int32} {pt : Nat → Int64} {pl : Nat → Int32} (h : z_GI g men a b c d e pls pm p1 p2 p3 p4 p5 pt pl) : z_VP men a b c d e := by
  obtain ⟨n, Ps, hn, hg, hp, R, hv, H⟩ := h
  exact ⟨Ps n, (H.1 n (Nat.le_refl _)).1, hv⟩
set_option maxRecDepth 100000 in
theorem z_gi_pl {g : St_Ga} {men : Nat → Int32} {a b c d e pls : Int32} {pm p1 p2 p3 p4 p5 : Nat → Int32} {pt : Nat → Int64} {pl : Nat → Int32} (h : z_GI g men a b c d e pls pm p1 p2 p3 p4 p5 pt pl) : 0 ≤ pls.toInt ∧ pls.toInt ≤ 400 := by
  obtain ⟨n, Ps, hn, hg, hp, R, hv, H⟩ := h
  rw [hp, z_nI_toInt (by omega)]; omega
set_option maxRecDepth 100000 in
theorem z_gi_ct {g : St_Ga} {men : Nat → Int32} {a b c d e pls : Int32} {pm p1 p2 p3 p4 p5 : Nat → Int32} {pt : Nat → Int64} {pl : Nat → Int32} (h : z_GI g men a b c d e pls pm p1 p2 p3 p4 p5 pt pl) : g.2.1.toInt ≤ 400 := by
  obtain ⟨n, Ps, hn, hg, hp, R, hv, H⟩ := h
  rw [hg, z_nI_toInt (by omega)]; omega
set_option maxRecDepth 100000 in
theorem z_same_moves {g : St_Ga} {men : Nat → Int32} {a b c d e pls : Int32} {pm p1 p2 p3 p4 p5 : Nat → Int32} {pt : Nat → Int64} {pl : Nat → Int32} (h : z_GI g men a b c d e pls pm p1 p2 p3 p4 p5 pt pl) (kM kR ls cs : Nat → Int32) : f_Ch_moves g = (f_Mo_moves men a b c d e kM kR ls cs).1 := by
  obtain ⟨n, Ps, hn, hg, hp, R, hv, H⟩ := h
  obtain ⟨rfl, rfl, rfl, rfl, rfl, rfl⟩ := hv
  have V := (H.1 n (Nat.le_refl _)).1
  obtain ⟨kM', kR', LE⟩ := z_list0 V kM kR ls cs
  rw [f_Ch_moves, z_count_moves V R, f_Mo_moves, LE, f_Mo_moves_r7]
  dsimp only
  rw [z_clamp0, z_upd_same]
set_option maxRecDepth 100000 in
theorem z_same_move {g : St_Ga} {men : Nat → Int32} {a b c d e pls : Int32} {pm p1 p2 p3 p4 p5 : Nat → Int32} {pt : Nat → Int64} {pl : Nat → Int32} (h : z_GI g men a b c d e pls pm p1 p2 p3 p4 p5 pt pl) (out : Nat → Int64) (kM kR ls cs : Nat → Int32) (k : Int32) :
    (f_Mo_move men a b c d e kM kR ls cs k).2.1 = (f_La_move g out k).1 ∧ ((f_La_move g out k).1 = 0 → (f_La_move g out k).2 0 = (f_Mo_move men a b c d e kM kR ls cs k).1.toInt64) := by
  obtain ⟨n, Ps, hn, hg, hp, R, hv, H⟩ := h
  obtain ⟨rfl, rfl, rfl, rfl, rfl, rfl⟩ := hv
  have V := (H.1 n (Nat.le_refl _)).1
  obtain ⟨kM', kR', LE⟩ := z_list0 V kM kR ls cs
  have hlen := z_all_1792 V
  rw [f_Mo_move, LE, f_Mo_move_r2, f_La_move, f_Ch_move]
  dsimp only
  by_cases c1 : k < 0
  · rw [if_pos c1, if_neg (fun hh => by have := tl c1; have := tle hh; omega), if_pos rfl]
    rw [f_Mo_move_20, f_Mo_move_25, if_neg (by decide), f_La_move_r4]
    dsimp only
    rw [if_neg (by decide)]
    exact ⟨rfl, fun hh => absurd hh (show ¬ (1 : Int32) = 0 by decide)⟩
  · have d1 := tnl c1
    rw [show (0 : Int32).toInt = 0 from rfl] at d1
    obtain ⟨j, hj, rfl⟩ : ∃ j : Nat, j < 2147483648 ∧ k = nI j := ⟨k.toInt.toNat, by have := Int32.toInt_lt k; omega, z_of_nonneg d1⟩
    rw [if_neg c1, if_pos (show (0 : Int32) ≤ nI j by rw [show (0 : Int32) = nI 0 from rfl, z_nI_le (by omega) (by omega)]; omega), z_inOrder_R V R hj]
    by_cases c2 : j < (z_all (Ps n)).length
    · rw [if_pos (show nI j < upd cs 0 (nI (z_all (Ps n)).length) (0 : Int32).toNatClampNeg by rw [z_clamp0, z_upd_same, z_nI_lt (by omega) (by omega)]; exact c2)]
      have hmem : (z_all (Ps n)).getD j (-1) ∈ z_all (Ps n) := z_getD_mem c2 (-1)
      obtain ⟨fr, to, pr, hf, ht, _, _, _, _, hpr, em, _⟩ := z_leg_of V hmem
      have hne : ¬ (z_all (Ps n)).getD j (-1) = -1 := by rw [em]; unfold z_mv; exact z_nI_m1 _ (by omega)
      have e0 : (z_all (Ps n)).getD j 0 = (z_all (Ps n)).getD j (-1) := by
        rw [List.getD_eq_getElem?_getD, List.getD_eq_getElem?_getD, List.getElem?_eq_getElem c2]; rfl
      rw [if_neg hne, f_Mo_move_25, if_pos (by decide), f_La_move_r4]
      dsimp only
      rw [if_pos rfl, z_nI_clamp (by omega)]
      have e1 : z_wr ls 0 (z_all (Ps n)) j = (z_all (Ps n)).getD j 0 := by
        have := z_wr_get (W := ls) (b := 0) c2; rwa [Nat.zero_add] at this
      rw [e1, e0]
      exact ⟨rfl, fun _ => z_updL_z out _⟩
    · rw [if_neg (show ¬ nI j < upd cs 0 (nI (z_all (Ps n)).length) (0 : Int32).toNatClampNeg by rw [z_clamp0, z_upd_same, z_nI_lt (by omega) (by omega)]; exact c2)]
      have e0 : (z_all (Ps n)).getD j (-1) = -1 := by
        rw [List.getD_eq_getElem?_getD, List.getElem?_eq_none (by omega)]; rfl
      rw [e0, if_pos rfl, f_Mo_move_20, f_Mo_move_25, if_neg (by decide), f_La_move_r4]
      dsimp only
      rw [if_neg (by decide)]
      exact ⟨rfl, fun hh => absurd hh (show ¬ (1 : Int32) = 0 by decide)⟩
set_option maxRecDepth 100000 in
theorem z_times_same {g : St_Ga} {men : Nat → Int32} {a b c d e pls : Int32} {pm p1 p2 p3 p4 p5 : Nat → Int32} {pt : Nat → Int64} {pl : Nat → Int32} (h : z_GI g men a b c d e pls pm p1 p2 p3 p4 p5 pt pl) : f_Ga_timesStood g.2.1 g.2.2.2.2.1 g.2.2.2.2.2 = f_Mo_occurrences pls pm p1 p2 p3 pt := by
  obtain ⟨n, Ps, hn, hg, hp, R, hv, H⟩ := h
  rw [hg, hp]
  obtain ⟨Vn, _, _, mn, pn, An⟩ := H.1 n (Nat.le_refl _)
  have e1 := z_times_eq (marks := g.2.2.2.2.1) (pics := g.2.2.2.2.2) hn (p := fun i => z_sameP (Ps i) (Ps n)) (fun i hi => by
    obtain ⟨Vi, _, _, mi, pi, Ai⟩ := H.1 i hi
    exact z_isSame_eq Vi Vn hi hn mi mn pi pn)
  have e2 := z_occ_eq (pm := pm) (ps := p1) (pr := p2) (pp := p3) (pt := pt) hn (p := fun i => z_sameP (Ps i) (Ps n)) (fun i hi => by
    obtain ⟨Vi, _, _, mi, pi, Ai⟩ := H.1 i hi
    exact z_areSame_eq Vi Vn (by omega) hn Ai An)
  rw [e1, e2]
set_option maxRecDepth 100000 in
theorem z_same_occ {g : St_Ga} {men : Nat → Int32} {a b c d e pls : Int32} {pm p1 p2 p3 p4 p5 : Nat → Int32} {pt : Nat → Int64} {pl : Nat → Int32} (h : z_GI g men a b c d e pls pm p1 p2 p3 p4 p5 pt pl) : f_Ch_occurrence g = (f_Mo_occurrence pls pm p1 p2 p3 pt).1 := by
  rw [f_Ch_occurrence, f_Mo_occurrence]; exact z_times_same h
set_option maxRecDepth 100000 in
theorem z_stands_same {g : St_Ga} {men : Nat → Int32} {a b c d e pls : Int32} {pm p1 p2 p3 p4 p5 : Nat → Int32} {pt : Nat → Int64} {pl : Nat → Int32} (h : z_GI g men a b c d e pls pm p1 p2 p3 p4 p5 pt pl) (kM kR ls cs : Nat → Int32) : (f_Mo_stands men a b c d e pls pm p1 p2 p3 pt kM kR ls cs).1 = f_Ch_result g := by
  have ht := z_times_same h
  obtain ⟨n, Ps, hn, hg, hp, R, hv, H⟩ := h
  obtain ⟨rfl, rfl, rfl, rfl, rfl, rfl⟩ := hv
  have V := (H.1 n (Nat.le_refl _)).1
  obtain ⟨kM', kR', LE⟩ := z_list0 V kM kR ls cs
  have hlen := z_all_1792 V
  have ec : g.1.2.2.2.2.1 = nI (Ps n).clock := by rw [R.2]
  rw [f_Mo_stands, LE, f_Mo_stands_r2, f_Ch_result, z_hasMove_R V R, z_check_same V R, f_Ga_endByItself, z_too_cls R.1.bd, z_too_ref, ht, ec]
  dsimp only
  have hcnt : upd cs 0 (nI (z_all (Ps n)).length) (0 : Int32).toNatClampNeg = nI (z_all (Ps n)).length := by rw [z_clamp0, z_upd_same]
  by_cases c1 : z_all (Ps n) = []
  · have h0 : upd cs 0 (nI (z_all (Ps n)).length) (0 : Int32).toNatClampNeg = 0 := by rw [hcnt, c1]; rfl
    rw [if_pos h0, if_pos c1, if_pos rfl]
    by_cases c2 : f_Mo_inCheck (Ps n).men (nI (Ps n).side) = 0
    · rw [if_pos c2, if_pos c2]
    · rw [if_neg c2, if_neg c2]
  · have hl : ¬ nI (z_all (Ps n)).length = 0 := by
      intro hh
      have := (z_nI_inj (b := 0) (by omega) (by omega)).mp hh
      exact c1 (List.eq_nil_of_length_eq_zero this)
    have h0 : ¬ upd cs 0 (nI (z_all (Ps n)).length) (0 : Int32).toNatClampNeg = 0 := by rw [hcnt]; exact hl
    rw [if_neg h0, if_neg c1, if_neg (show ¬ (1 : Int32) = 0 by decide)]
    by_cases c3 : (if z_tooB (Ps n).men then (1 : Int32) else 0) = 0
    · rw [if_pos c3, if_pos c3]
      by_cases c4 : f_Mo_occurrences pls pm p1 p2 p3 pt < 5
      · rw [if_pos c4, if_pos c4]
        by_cases c5 : nI (Ps n).clock < 150
        · rw [if_pos c5, if_pos c5]
        · rw [if_neg c5, if_neg c5]
      · rw [if_neg c4, if_neg c4]
    · rw [if_neg c3, if_neg c3]
set_option maxRecDepth 100000 in
theorem z_same_result {g : St_Ga} {men : Nat → Int32} {a b c d e pls : Int32} {pm p1 p2 p3 p4 p5 : Nat → Int32} {pt : Nat → Int64} {pl : Nat → Int32} (h : z_GI g men a b c d e pls pm p1 p2 p3 p4 p5 pt pl) (kM kR ls cs : Nat → Int32) : f_Ch_result g = (f_Mo_result men a b c d e pls pm p1 p2 p3 pt kM kR ls cs).1 := by
  rw [f_Mo_result, f_Mo_result_r6]; dsimp only
  exact (z_stands_same h kM kR ls cs).symm
set_option maxRecDepth 100000 in
theorem z_same_claims {g : St_Ga} {men : Nat → Int32} {a b c d e pls : Int32} {pm p1 p2 p3 p4 p5 : Nat → Int32} {pt : Nat → Int64} {pl : Nat → Int32} (h : z_GI g men a b c d e pls pm p1 p2 p3 p4 p5 pt pl) (kM kR ls cs : Nat → Int32) : f_Ch_claims g = (f_Mo_claims men a b c d e pls pm p1 p2 p3 pt kM kR ls cs).1 := by
  have ht := z_times_same h
  have hst := z_stands_same h kM kR ls cs
  obtain ⟨n, Ps, hn, hg, hp, R, hv, H⟩ := h
  obtain ⟨rfl, rfl, rfl, rfl, rfl, rfl⟩ := hv
  have V := (H.1 n (Nat.le_refl _)).1
  have ec : g.1.2.2.2.2.1 = nI (Ps n).clock := by rw [R.2]
  rw [f_Mo_claims, f_Mo_claims_r6, hst, f_Ch_claims, f_Ch_result, z_hasMove_R V R, ht]
  by_cases c1 : z_all (Ps n) = []
  · rw [if_pos c1, if_pos rfl, if_pos rfl]
    by_cases c2 : f_Po_isInCheck g.1.1 g.1.2.1 = 0
    · rw [if_pos c2, if_neg (by decide)]
    · rw [if_neg c2, if_neg (by decide)]
  · rw [if_neg c1, if_neg (show ¬ (1 : Int32) = 0 by decide), if_neg (show ¬ (1 : Int32) = 0 by decide)]
    have e0 : f_Ga_endByItself g.1 g.2.1 g.2.2.2.2.1 g.2.2.2.2.2 ≤ 0 ↔ f_Ga_endByItself g.1 g.2.1 g.2.2.2.2.1 g.2.2.2.2.2 = 0 := by
      unfold f_Ga_endByItself
      repeat' split
      all_goals decide
    by_cases c2 : f_Ga_endByItself g.1 g.2.1 g.2.2.2.2.1 g.2.2.2.2.2 = 0
    · rw [if_pos c2, if_pos (e0.mpr c2)]
      by_cases c3 : f_Mo_occurrences pls pm p1 p2 p3 pt < 3
      · rw [if_pos c3, if_pos c3, f_Ch_claims_41, f_Mo_claims_29, ec]
        by_cases c4 : nI (Ps n).clock < 100
        · rw [if_pos c4, if_pos c4]
        · rw [if_neg c4, if_neg c4]
      · rw [if_neg c3, if_neg c3, f_Ch_claims_41, f_Mo_claims_29, ec]
        by_cases c4 : nI (Ps n).clock < 100
        · rw [if_pos c4, if_pos c4]
        · rw [if_neg c4, if_neg c4]
    · rw [if_neg c2, if_neg (fun hh => c2 (e0.mp hh))]
set_option maxRecDepth 100000 in
theorem z_same_man {g : St_Ga} {men : Nat → Int32} {a b c d e pls : Int32} {pm p1 p2 p3 p4 p5 : Nat → Int32} {pt : Nat → Int64} {pl : Nat → Int32} (h : z_GI g men a b c d e pls pm p1 p2 p3 p4 p5 pt pl) (out : Nat → Int64) (q : Int32) :
    (f_Mo_man men q).2 = (f_La_man g out q).1 ∧ ((f_La_man g out q).1 = 0 → (f_La_man g out q).2 0 = (f_Mo_man men q).1.toInt64) := by
  obtain ⟨n, Ps, hn, hg, hp, R, hv, H⟩ := h
  obtain ⟨rfl, rfl, rfl, rfl, rfl, rfl⟩ := hv
  rw [f_Mo_man, f_La_man, f_Ch_man, f_Ch_isSquare]
  by_cases c1 : q < 0
  · rw [if_pos c1, if_pos c1, if_pos rfl, f_La_man_r4, f_Mo_man_11, f_Mo_man_16, if_neg (by decide)]
    dsimp only
    rw [if_neg (by decide)]
    exact ⟨rfl, fun hh => absurd hh (show ¬ (1 : Int32) = 0 by decide)⟩
  · have d1 := tnl c1
    rw [show (0 : Int32).toInt = 0 from rfl] at d1
    obtain ⟨j, hj, rfl⟩ : ∃ j : Nat, j < 2147483648 ∧ q = nI j := ⟨q.toInt.toNat, by have := Int32.toInt_lt q; omega, z_of_nonneg d1⟩
    rw [if_neg c1, if_neg c1]
    by_cases c2 : j < 64
    · rw [if_pos (z_le63 c2), if_neg (z_nI_lt64 j c2), if_neg (show ¬ (1 : Int32) = 0 by decide), z_manAt_eq _ c2, R.1.2 j c2, f_La_man_r4, f_Mo_man_16, if_pos (by decide), z_nI_nat j c2]
      dsimp only
      rw [if_pos rfl]
      exact ⟨rfl, fun _ => z_updL_z out _⟩
    · rw [if_neg (show ¬ nI j ≤ (63 : Int32) by rw [show (63 : Int32) = nI 63 from rfl, z_nI_le (by omega) (by omega)]; omega), if_pos (z_le64 hj c2), if_pos rfl, f_La_man_r4, f_Mo_man_11, f_Mo_man_16, if_neg (by decide)]
      dsimp only
      rw [if_neg (by decide)]
      exact ⟨rfl, fun hh => absurd hh (show ¬ (1 : Int32) = 0 by decide)⟩
set_option maxRecDepth 100000 in
theorem z_same_about {g : St_Ga} {men : Nat → Int32} {a b c d e pls : Int32} {pm p1 p2 p3 p4 p5 : Nat → Int32} {pt : Nat → Int64} {pl : Nat → Int32} (h : z_GI g men a b c d e pls pm p1 p2 p3 p4 p5 pt pl) (out : Nat → Int64) (q : Int32) :
    (f_Mo_about men a b c d e q).2 = (f_La_about g out q).1 ∧ ((f_La_about g out q).1 = 0 → (f_La_about g out q).2 0 = (f_Mo_about men a b c d e q).1.toInt64) := by
  obtain ⟨n, Ps, hn, hg, hp, R, hv, H⟩ := h
  obtain ⟨rfl, rfl, rfl, rfl, rfl, rfl⟩ := hv
  have V := (H.1 n (Nat.le_refl _)).1
  have ck := z_check_same V R
  have f1 : g.1.2.1 = nI (Ps n).side := by rw [R.2]
  have f2 : g.1.2.2.1 = nI (Ps n).rights := by rw [R.2]
  have f3 : g.1.2.2.2.1 = z_pI (Ps n).passed := by rw [R.2]
  have f4 : g.1.2.2.2.2.1 = nI (Ps n).clock := by rw [R.2]
  have f5 : g.1.2.2.2.2.2 = nI (Ps n).number := by rw [R.2]
  have fin : ∀ v : Int32, ((0 : Int32), v).1 = 0 → (v, (0 : Int32)).2 = (f_La_about_r4 g out q (0, v)).1 ∧ ((f_La_about_r4 g out q (0, v)).1 = 0 → (f_La_about_r4 g out q (0, v)).2 0 = (v, (0 : Int32)).1.toInt64) := by
    intro v _
    rw [f_La_about_r4]; dsimp only
    rw [if_pos rfl]
    exact ⟨rfl, fun _ => z_updL_z out _⟩
  have bad : ((0 : Int32), (1 : Int32)).2 = (f_La_about_r4 g out q (1, 0)).1 ∧ ((f_La_about_r4 g out q (1, 0)).1 = 0 → (f_La_about_r4 g out q (1, 0)).2 0 = ((0 : Int32), (1 : Int32)).1.toInt64) := by
    rw [f_La_about_r4]; dsimp only
    rw [if_neg (by decide)]
    exact ⟨rfl, fun hh => absurd hh (show ¬ (1 : Int32) = 0 by decide)⟩
  rw [f_Mo_about, f_La_about, f_Ch_about, ck, f1, f2, f3, f4, f5]
  by_cases k0 : q = 0
  · subst k0; rw [if_pos rfl, if_neg (by decide), if_pos (by decide), f_Mo_about_15, if_pos (by decide), if_pos rfl]; exact fin _ rfl
  rw [if_neg k0]
  by_cases k1 : q = 1
  · subst k1; rw [if_pos rfl, if_neg (by decide), if_pos (by decide), f_Mo_about_15, if_pos (by decide), if_neg k0, if_pos rfl]; exact fin _ rfl
  rw [if_neg k1]
  by_cases k2 : q = 2
  · subst k2; rw [if_pos rfl, if_neg (by decide), if_pos (by decide), f_Mo_about_15, if_pos (by decide), if_neg k0, if_neg k1, if_pos rfl]; exact fin _ rfl
  rw [if_neg k2]
  by_cases k3 : q = 3
  · subst k3; rw [if_pos rfl, if_neg (by decide), if_pos (by decide), f_Mo_about_15, if_pos (by decide), if_neg k0, if_neg k1, if_neg k2, if_pos rfl]; exact fin _ rfl
  rw [if_neg k3]
  by_cases k4 : q = 4
  · subst k4; rw [if_pos rfl, if_neg (by decide), if_pos (by decide), f_Mo_about_15, if_pos (by decide), if_neg k0, if_neg k1, if_neg k2, if_neg k3, if_pos rfl]; exact fin _ rfl
  rw [if_neg k4]
  by_cases k5 : q = 5
  · subst k5; rw [if_pos rfl, if_neg (by decide), if_pos (by decide), f_Mo_about_15, if_pos (by decide), if_neg k0, if_neg k1, if_neg k2, if_neg k3, if_neg k4]
    by_cases cc : f_Mo_inCheck (Ps n).men (nI (Ps n).side) = 0
    · rw [if_pos cc, if_pos cc]; exact fin _ rfl
    · rw [if_neg cc, if_neg cc]; exact fin _ rfl
  rw [if_neg k5]
  have out5 : ¬ (¬ q < 0 ∧ q ≤ 5) := by
    rintro ⟨u1, u2⟩
    have d1 := tnl u1
    have d2 := tle u2
    rw [show (0 : Int32).toInt = 0 from rfl] at d1
    rw [show (5 : Int32).toInt = 5 from rfl] at d2
    have n0 := tne k0; have n1 := tne k1; have n2 := tne k2; have n3 := tne k3; have n4 := tne k4; have n5 := tne k5
    rw [show (0 : Int32).toInt = 0 from rfl] at n0
    rw [show (1 : Int32).toInt = 1 from rfl] at n1
    rw [show (2 : Int32).toInt = 2 from rfl] at n2
    rw [show (3 : Int32).toInt = 3 from rfl] at n3
    rw [show (4 : Int32).toInt = 4 from rfl] at n4
    rw [show (5 : Int32).toInt = 5 from rfl] at n5
    omega
  by_cases c1 : q < 0
  · rw [if_pos c1, f_Mo_about_10, f_Mo_about_15, if_neg (by decide)]; exact bad
  · rw [if_neg c1, if_neg (fun hh => out5 ⟨c1, hh⟩), f_Mo_about_10, f_Mo_about_15, if_neg (by decide)]; exact bad
set_option maxRecDepth 100000 in
theorem z_same_attackers {g : St_Ga} {men : Nat → Int32} {a b c d e pls : Int32} {pm p1 p2 p3 p4 p5 : Nat → Int32} {pt : Nat → Int64} {pl : Nat → Int32} (h : z_GI g men a b c d e pls pm p1 p2 p3 p4 p5 pt pl) (out : Nat → Int64) (q s : Int32) :
    (f_Mo_attackers men q s).2 = (f_La_attackers g out q s).1 ∧ ((f_La_attackers g out q s).1 = 0 → (f_La_attackers g out q s).2 0 = (f_Mo_attackers men q s).1) := by
  obtain ⟨n, Ps, hn, hg, hp, R, hv, H⟩ := h
  obtain ⟨rfl, rfl, rfl, rfl, rfl, rfl⟩ := hv
  have B := R.1.bd
  have bad : ((0 : Int64), (1 : Int32)).2 = (f_La_attackers_r5 g out q s (1, 0)).1 ∧ ((f_La_attackers_r5 g out q s (1, 0)).1 = 0 → (f_La_attackers_r5 g out q s (1, 0)).2 0 = ((0 : Int64), (1 : Int32)).1) := by
    rw [f_La_attackers_r5]; dsimp only
    rw [if_neg (by decide)]
    exact ⟨rfl, fun hh => absurd hh (show ¬ (1 : Int32) = 0 by decide)⟩
  have good : ∀ v : Int64, (v, (0 : Int32)).2 = (f_La_attackers_r5 g out q s (0, v)).1 ∧ ((f_La_attackers_r5 g out q s (0, v)).1 = 0 → (f_La_attackers_r5 g out q s (0, v)).2 0 = (v, (0 : Int32)).1) := by
    intro v
    rw [f_La_attackers_r5]; dsimp only
    rw [if_pos rfl]
    exact ⟨rfl, fun _ => z_updL_z out _⟩
  have key : ∀ j t : Nat, j < 64 → t < 2 → f_Bo_attackersOf g.1.1.2 (shl64 1 (nI j)) (nI t) (f_Bo_empty g.1.1.2) = f_Mo_attackersOf (Ps n).men (nI j) (nI t) := by
    intro j t hj ht
    apply z_tb_ext
    intro r hr
    rw [show shl64 1 (nI j) = z_bt j from rfl, z_attackersOf_cls B hj ht _ hr, z_attackersOf_ref _ hj _ hr]
    rw [z_hits_congr (e := z_tb (f_Bo_empty g.1.1.2)) (e' := fun t => decide ((Ps n).men t = 0)) (fun q hq => B.2 0 (by decide) q hq)]
  rw [f_Mo_attackers, f_La_attackers, f_Ch_attackers, f_Ch_isSquare]
  by_cases c1 : q < 0
  · rw [if_pos c1, if_pos c1, if_pos rfl, f_Mo_attackers_20, f_Mo_attackers_25, if_neg (by decide)]; exact bad
  · have d1 := tnl c1
    rw [show (0 : Int32).toInt = 0 from rfl] at d1
    obtain ⟨j, hj, rfl⟩ : ∃ j : Nat, j < 2147483648 ∧ q = nI j := ⟨q.toInt.toNat, by have := Int32.toInt_lt q; omega, z_of_nonneg d1⟩
    rw [if_neg c1, if_neg c1]
    by_cases c2 : j < 64
    · rw [if_neg (show ¬ (63 : Int32) < nI j by rw [show (63 : Int32) = nI 63 from rfl, z_nI_lt (by omega) (by omega)]; omega), if_neg (z_nI_lt64 j c2), if_neg (show ¬ (1 : Int32) = 0 by decide)]
      by_cases s0 : s = 0
      · subst s0
        rw [if_neg (by decide), if_pos (by decide), if_pos rfl, f_Mo_attackers_25, if_pos (by decide), f_Ch_attackers_26, show (0 : Int32) = nI 0 from rfl, key j 0 c2 (by decide)]
        exact good _
      · by_cases s1 : s = 1
        · subst s1
          rw [if_neg (by decide), if_pos (by decide), if_neg s0, if_pos rfl, f_Mo_attackers_25, if_pos (by decide), f_Ch_attackers_26, show (1 : Int32) = nI 1 from rfl, key j 1 c2 (by decide)]
          exact good _
        · rw [if_neg s0, if_neg s1]
          by_cases sn : s < 0
          · rw [if_pos sn, f_Mo_attackers_20, f_Mo_attackers_25, if_neg (by decide)]; exact bad
          · have n0 := tne s0; have n1 := tne s1; have n2 := tnl sn
            rw [show (0 : Int32).toInt = 0 from rfl] at n0 n2
            rw [show (1 : Int32).toInt = 1 from rfl] at n1
            rw [if_neg sn, if_neg (fun hh => by have := tle hh; rw [show (1 : Int32).toInt = 1 from rfl] at this; omega), f_Mo_attackers_20, f_Mo_attackers_25, if_neg (by decide)]; exact bad
    · rw [if_pos (z_gt63 hj c2), if_pos (z_le64 hj c2), if_pos rfl, f_Mo_attackers_20, f_Mo_attackers_25, if_neg (by decide)]; exact bad
set_option maxRecDepth 100000 in
theorem z_same_played {g : St_Ga} {men : Nat → Int32} {a b c d e pls : Int32} {pm p1 p2 p3 p4 p5 : Nat → Int32} {pt : Nat → Int64} {pl : Nat → Int32} (h : z_GI g men a b c d e pls pm p1 p2 p3 p4 p5 pt pl) (out : Nat → Int64) (i : Int32) :
    (f_Mo_played pls pl i).2 = (f_La_played g out i).1 ∧ ((f_La_played g out i).1 = 0 → (f_La_played g out i).2 0 = (f_Mo_played pls pl i).1.toInt64) := by
  obtain ⟨n, Ps, hn, hg, hp, R, hv, H⟩ := h
  have bad : ((0 : Int32), (1 : Int32)).2 = (f_La_played_r4 g out i (1, 0)).1 ∧ ((f_La_played_r4 g out i (1, 0)).1 = 0 → (f_La_played_r4 g out i (1, 0)).2 0 = ((0 : Int32), (1 : Int32)).1.toInt64) := by
    rw [f_La_played_r4]; dsimp only
    rw [if_neg (by decide)]
    exact ⟨rfl, fun hh => absurd hh (show ¬ (1 : Int32) = 0 by decide)⟩
  rw [f_Mo_played, f_La_played, f_Ch_played, hg, hp]
  by_cases c1 : i < 0
  · rw [if_pos c1, if_pos c1, f_Mo_played_13, f_Mo_played_18, if_neg (by decide)]; exact bad
  · have d1 := tnl c1
    rw [show (0 : Int32).toInt = 0 from rfl] at d1
    obtain ⟨j, hj, rfl⟩ : ∃ j : Nat, j < 2147483648 ∧ i = nI j := ⟨i.toInt.toNat, by have := Int32.toInt_lt i; omega, z_of_nonneg d1⟩
    rw [if_neg c1, if_neg c1]
    by_cases c2 : j < n
    · rw [if_pos (by rw [z_nI_lt (by omega) (by omega)]; exact c2), if_neg (by rw [z_nI_le (by omega) (by omega)]; omega), if_pos (by rw [show (400 : Int32) = nI 400 from rfl, z_nI_lt (by omega) (by omega)]; omega), f_Mo_played_18, if_pos (by decide), z_nI_clamp (by omega), (H.2 j c2).2.1, f_La_played_r4]
      dsimp only
      rw [if_pos rfl]
      exact ⟨rfl, fun _ => z_updL_z out _⟩
    · rw [if_neg (by rw [z_nI_lt (by omega) (by omega)]; exact c2), if_pos (by rw [z_nI_le (by omega) (by omega)]; omega), f_Mo_played_13, f_Mo_played_18, if_neg (by decide)]; exact bad
set_option maxRecDepth 100000 in
theorem z_same_back {g : St_Ga} {men : Nat → Int32} {a b c d e pls : Int32} {pm p1 p2 p3 p4 p5 : Nat → Int32} {pt : Nat → Int64} {pl : Nat → Int32} (h : z_GI g men a b c d e pls pm p1 p2 p3 p4 p5 pt pl) (out : Nat → Int64) :
    (f_Mo_back men a b c d e pls pm p1 p2 p3 p4 p5).2.1 = (f_La_back g out).1 ∧ ((f_La_back g out).1 = 0 → (f_La_back g out).2.2 0 = (f_Mo_back men a b c d e pls pm p1 p2 p3 p4 p5).1.toInt64) ∧
    z_GI (f_La_back g out).2.1 (f_Mo_back men a b c d e pls pm p1 p2 p3 p4 p5).2.2.1 (f_Mo_back men a b c d e pls pm p1 p2 p3 p4 p5).2.2.2.1 (f_Mo_back men a b c d e pls pm p1 p2 p3 p4 p5).2.2.2.2.1 (f_Mo_back men a b c d e pls pm p1 p2 p3 p4 p5).2.2.2.2.2.1 (f_Mo_back men a b c d e pls pm p1 p2 p3 p4 p5).2.2.2.2.2.2.1 (f_Mo_back men a b c d e pls pm p1 p2 p3 p4 p5).2.2.2.2.2.2.2.1 (f_Mo_back men a b c d e pls pm p1 p2 p3 p4 p5).2.2.2.2.2.2.2.2 pm p1 p2 p3 p4 p5 pt pl := by
  have h0 := h
  obtain ⟨n, Ps, hn, hg, hp, R, hv, H⟩ := h
  cases n with
  | zero =>
    rw [f_Mo_back, f_La_back, f_Ch_back, hg, hp, if_pos (show nI 0 = 0 from rfl), if_pos (show nI 0 = 0 from rfl), f_Mo_back_13, if_neg (by decide), f_La_back_r3]
    dsimp only
    rw [if_neg (by decide)]
    refine ⟨rfl, fun hh => absurd hh (show ¬ (1 : Int32) = 0 by decide), ?_⟩
    rw [hp] at h0; exact h0
  | succ n =>
    have hz : ¬ nI (n + 1) = 0 := fun hh => by have := (z_nI_inj (b := 0) (by omega) (by omega)).mp hh; omega
    obtain ⟨b1, b2, b3⟩ := z_gi_back (by omega) hg R H men a b c d e rfl
    have eC : f_La_back g out = (0, ((f_Ga_retreat g.1 g.2.1 g.2.2.1 g.2.2.2.1).1, (f_Ga_retreat g.1 g.2.1 g.2.2.1 g.2.2.2.1).2, g.2.2.1, g.2.2.2.1, g.2.2.2.2.1, g.2.2.2.2.2), vp_updL out 0 (f_Ga_retreat g.1 g.2.1 g.2.2.1 g.2.2.2.1).2.toInt64) := by
      rw [f_La_back, f_Ch_back, if_neg (by rw [hg]; exact hz), f_Ch_back_r24, f_La_back_r3]
      dsimp only
      rw [if_pos rfl, z_clamp0]
    have eM : f_Mo_back men a b c d e pls pm p1 p2 p3 p4 p5 = ((f_Mo_goTo men a b c d e (nI (n + 1)) pm p1 p2 p3 p4 p5 (nI (n + 1) - 1)).2.2.2.2.2.2, 0, (f_Mo_goTo men a b c d e (nI (n + 1)) pm p1 p2 p3 p4 p5 (nI (n + 1) - 1)).1, (f_Mo_goTo men a b c d e (nI (n + 1)) pm p1 p2 p3 p4 p5 (nI (n + 1) - 1)).2.1, (f_Mo_goTo men a b c d e (nI (n + 1)) pm p1 p2 p3 p4 p5 (nI (n + 1) - 1)).2.2.1, (f_Mo_goTo men a b c d e (nI (n + 1)) pm p1 p2 p3 p4 p5 (nI (n + 1) - 1)).2.2.2.1, (f_Mo_goTo men a b c d e (nI (n + 1)) pm p1 p2 p3 p4 p5 (nI (n + 1) - 1)).2.2.2.2.1, (f_Mo_goTo men a b c d e (nI (n + 1)) pm p1 p2 p3 p4 p5 (nI (n + 1) - 1)).2.2.2.2.2.1, (f_Mo_goTo men a b c d e (nI (n + 1)) pm p1 p2 p3 p4 p5 (nI (n + 1) - 1)).2.2.2.2.2.2) := by
      rw [f_Mo_back, hp, if_neg hz, f_Mo_back_13, if_pos (by decide), f_Mo_back_r32]
    rw [eC, eM]
    exact ⟨rfl, fun _ => by rw [b1, b2]; exact z_updL_same out 0 _, b3⟩
set_option maxRecDepth 100000 in
theorem z_same_ways {g : St_Ga} {men : Nat → Int32} {a b c d e pls : Int32} {pm p1 p2 p3 p4 p5 : Nat → Int32} {pt : Nat → Int64} {pl : Nat → Int32} (h : z_GI g men a b c d e pls pm p1 p2 p3 p4 p5 pt pl) (out : Nat → Int64) (kM kR ls cs : Nat → Int32) (dp : Int32) :
    (f_Mo_ways men a b c d e kM kR ls cs dp).2.1 = (f_La_ways g out dp).1 ∧ ((f_La_ways g out dp).1 = 0 → (f_La_ways g out dp).2.2 0 = (f_Mo_ways men a b c d e kM kR ls cs dp).1) ∧
    z_GI (f_La_ways g out dp).2.1 (f_Mo_ways men a b c d e kM kR ls cs dp).2.2.1 (f_Mo_ways men a b c d e kM kR ls cs dp).2.2.2.1 (f_Mo_ways men a b c d e kM kR ls cs dp).2.2.2.2.1 (f_Mo_ways men a b c d e kM kR ls cs dp).2.2.2.2.2.1 (f_Mo_ways men a b c d e kM kR ls cs dp).2.2.2.2.2.2.1 (f_Mo_ways men a b c d e kM kR ls cs dp).2.2.2.2.2.2.2.1 pls pm p1 p2 p3 p4 p5 pt pl := by
  have h0 := h
  obtain ⟨n, Ps, hn, hg, hp, R, hv, H⟩ := h
  have bad : ((0 : Int64), (1 : Int32), men, a, b, c, d, e, kM, kR, ls, cs).2.1 = (f_La_ways_r4 g out dp (2, 0, g)).1 ∧ ((f_La_ways_r4 g out dp (2, 0, g)).1 = 0 → (f_La_ways_r4 g out dp (2, 0, g)).2.2 0 = 0) ∧ z_GI (f_La_ways_r4 g out dp (2, 0, g)).2.1 men a b c d e pls pm p1 p2 p3 p4 p5 pt pl := by
    rw [f_La_ways_r4]; dsimp only
    rw [if_neg (by decide)]
    exact ⟨rfl, fun hh => absurd hh (show ¬ (1 : Int32) = 0 by decide), h0⟩
  rw [f_Mo_ways, f_La_ways, f_Ch_ways]
  by_cases c1 : dp < 0
  · rw [if_pos c1, if_pos c1, f_Mo_ways_10, f_Mo_ways_15, if_neg (by decide)]; exact bad
  · have d1 := tnl c1
    rw [show (0 : Int32).toInt = 0 from rfl] at d1
    obtain ⟨j, hj, rfl⟩ : ∃ j : Nat, j < 2147483648 ∧ dp = nI j := ⟨dp.toInt.toNat, by have := Int32.toInt_lt dp; omega, z_of_nonneg d1⟩
    rw [if_neg c1, if_neg c1]
    by_cases c2 : j ≤ 3
    · rw [if_pos (by rw [show (3 : Int32) = nI 3 from rfl, z_nI_le (by omega) (by omega)]; exact c2), if_pos (by rw [show (3 : Int32) = nI 3 from rfl, z_nI_le (by omega) (by omega)]; exact c2)]
      obtain ⟨rfl, rfl, rfl, rfl, rfl, rfl⟩ := hv
      obtain ⟨V, hcl, _⟩ := H.1 n (Nat.le_refl _)
      obtain ⟨W', R', eW⟩ := z_count_L2_eq V R (by omega) c2
      obtain ⟨kM', kR', ls', cs', _, eC⟩ := z_cnt_L3 V c2 kM kR ls cs
      rw [f_Mo_ways_15, if_pos (by decide), eC, eW, f_Mo_ways_r31, f_Ch_ways_r27, f_La_ways_r4]
      dsimp only
      rw [if_pos rfl]
      exact ⟨rfl, fun _ => z_updL_z out _, n, Ps, hn, hg, hp, R', ⟨rfl, rfl, rfl, rfl, rfl, rfl⟩, H⟩
    · rw [if_neg (by rw [show (3 : Int32) = nI 3 from rfl, z_nI_le (by omega) (by omega)]; exact c2), if_neg (by rw [show (3 : Int32) = nI 3 from rfl, z_nI_le (by omega) (by omega)]; exact c2), f_Mo_ways_10, f_Mo_ways_15, if_neg (by decide)]; exact bad

set_option maxRecDepth 100000 in
theorem z_play_10 {th : Int32} {men : Nat → Int32} {a b c d e pls : Int32} {pm p1 p2 p3 p4 p5 : Nat → Int32} {pt : Nat → Int64} {pl kM kR ls cs : Nat → Int32} {m : Int32} {R : Int32 × (Nat → Int32) × (Nat → Int32) × (Nat → Int32) × (Nat → Int32)} {L : List Int32} (hL : L.length ≤ 1792) (h1 : R.2.2.2.2 0 = nI L.length) (h2 : ∀ j, j < L.length → R.2.2.2.1 j = L.getD j 0) :
    ∀ n k v e9, k + n = L.length → (v = 0 ∨ v = 1) → ∃ w : Int32, (w = 0 ↔ v = 0 ∧ m ∉ L.drop k) ∧
    f_Mo_play_10 th men a b c d e pls pm p1 p2 p3 p4 p5 pt pl kM kR ls cs m R (e9 + n + 1) v (nI k) =
    (if w = 0 then f_Mo_play_81 th men a b c d e pls pm p1 p2 p3 p4 p5 pt pl kM kR ls cs m R w (nI L.length) 1 else (if R.1 ≤ 2 then (if pls = 400 then f_Mo_play_81 th men a b c d e pls pm p1 p2 p3 p4 p5 pt pl kM kR ls cs m R w (nI L.length) 3 else f_Mo_play_81 th men a b c d e pls pm p1 p2 p3 p4 p5 pt pl kM kR ls cs m R w (nI L.length) 0) else f_Mo_play_81 th men a b c d e pls pm p1 p2 p3 p4 p5 pt pl kM kR ls cs m R w (nI L.length) 2)) := by
  intro n
  induction n with
  | zero =>
    intro k v e9 hk hv
    refine ⟨v, ⟨fun hz => ⟨hz, by rw [List.drop_eq_nil_of_le (by omega)]; simp⟩, fun hz => hz.1⟩, ?_⟩
    rw [f_Mo_play_10]; dsimp only
    rw [z_clamp0, h1, if_pos (by rw [z_nI_le (by omega) (by omega)]; omega), show k = L.length by omega]
  | succ n ih =>
    intro k v e9 hk hv
    have hkl : k < L.length := by omega
    have e1 : nI k + 1 = nI (k + 1) := z_nI_add k 1
    have ed : L.drop k = L.getD k 0 :: L.drop (k + 1) := by
      rw [List.drop_eq_getElem_cons hkl, List.getD_eq_getElem?_getD, List.getElem?_eq_getElem hkl]; rfl
    rw [show e9 + (n + 1) + 1 = (e9 + n + 1) + 1 by omega, f_Mo_play_10]; dsimp only
    rw [z_clamp0, h1, if_neg (by rw [z_nI_le (by omega) (by omega)]; omega), z_nI_clamp (by omega), h2 k hkl, e1]
    rcases hv with hv | hv
    · rw [if_pos hv]
      by_cases cm : L.getD k 0 = m
      · rw [if_pos cm]
        obtain ⟨w, hw, ew⟩ := ih (k + 1) 1 e9 (by omega) (Or.inr rfl)
        refine ⟨w, ⟨fun hz => absurd (hw.mp hz).1 (by decide), fun hz => ?_⟩, ew⟩
        rw [ed, cm] at hz
        exact absurd (by simp) hz.2
      · rw [if_neg cm]
        obtain ⟨w, hw, ew⟩ := ih (k + 1) 0 e9 (by omega) (Or.inl rfl)
        refine ⟨w, ⟨fun hz => ⟨hv, ?_⟩, fun hz => hw.mpr ⟨rfl, ?_⟩⟩, ew⟩
        · rw [ed, List.mem_cons]
          rintro (x | x)
          · exact cm x.symm
          · exact (hw.mp hz).2 x
        · intro x
          rw [ed, List.mem_cons] at hz
          exact hz.2 (Or.inr x)
    · have hv0 : ¬ v = 0 := by rw [hv]; decide
      rw [if_neg hv0]
      obtain ⟨w, hw, ew⟩ := ih (k + 1) 1 e9 (by omega) (Or.inr rfl)
      exact ⟨w, ⟨fun hz => absurd (hw.mp hz).1 (by decide), fun hz => absurd hz.1 hv0⟩, ew⟩
set_option maxRecDepth 100000 in
theorem z_end_kinds (g : St_Ga) : f_Ga_endByItself g.1 g.2.1 g.2.2.2.2.1 g.2.2.2.2.2 ≤ 2 ↔ f_Ga_endByItself g.1 g.2.1 g.2.2.2.2.1 g.2.2.2.2.2 = 0 := by
  unfold f_Ga_endByItself
  repeat' split
  all_goals decide
set_option maxRecDepth 100000 in
theorem z_same_play {g : St_Ga} {men : Nat → Int32} {a b c d e pls : Int32} {pm p1 p2 p3 p4 p5 : Nat → Int32} {pt : Nat → Int64} {pl : Nat → Int32} (h : z_GI g men a b c d e pls pm p1 p2 p3 p4 p5 pt pl) (out : Nat → Int64) (th : Int32) (kM kR ls cs : Nat → Int32) (m : Int32) {B : Int32 × Int32 × (Nat → Int32) × Int32 × Int32 × Int32 × Int32 × Int32 × Int32 × (Nat → Int32) × (Nat → Int32) × (Nat → Int32) × (Nat → Int32) × (Nat → Int32) × (Nat → Int32) × (Nat → Int64) × (Nat → Int32) × (Nat → Int32) × (Nat → Int32) × (Nat → Int32) × (Nat → Int32)}
    (hB : B = f_Mo_play th men a b c d e pls pm p1 p2 p3 p4 p5 pt pl kM kR ls cs m) :
    B.2.1 = (f_La_play g out m).1 ∧ ((f_La_play g out m).1 = 0 → (f_La_play g out m).2.2 0 = B.1.toInt64) ∧
    z_GI (f_La_play g out m).2.1 B.2.2.1 B.2.2.2.1 B.2.2.2.2.1 B.2.2.2.2.2.1 B.2.2.2.2.2.2.1 B.2.2.2.2.2.2.2.1 B.2.2.2.2.2.2.2.2.1 B.2.2.2.2.2.2.2.2.2.1 B.2.2.2.2.2.2.2.2.2.2.1 B.2.2.2.2.2.2.2.2.2.2.2.1 B.2.2.2.2.2.2.2.2.2.2.2.2.1 B.2.2.2.2.2.2.2.2.2.2.2.2.2.1 B.2.2.2.2.2.2.2.2.2.2.2.2.2.2.1 B.2.2.2.2.2.2.2.2.2.2.2.2.2.2.2.1 B.2.2.2.2.2.2.2.2.2.2.2.2.2.2.2.2.1 := by
  have h0 := h
  have hst := z_stands_same h kM kR ls cs
  obtain ⟨n, Ps, hn, hg, rfl, R, hv, H⟩ := h
  obtain ⟨rfl, rfl, rfl, rfl, rfl, rfl⟩ := hv
  have V := (H.1 n (Nat.le_refl _)).1
  obtain ⟨kM', kR', LE⟩ := z_list0 V kM kR ls cs
  have hlen := z_all_1792 V
  have hs2 := z_st_L (Ps n).men (nI (Ps n).side) (nI (Ps n).rights) (z_pI (Ps n).passed) (nI (Ps n).clock) (nI (Ps n).number) (nI n) pm p1 p2 p3 pt kM kR ls cs
  rw [LE] at hs2
  have bad : ∀ (k : Int32) (S : Int32 × (Nat → Int32) × (Nat → Int32) × (Nat → Int32) × (Nat → Int32)) (w : Int32), 0 < k → B = f_Mo_play_81 th (Ps n).men (nI (Ps n).side) (nI (Ps n).rights) (z_pI (Ps n).passed) (nI (Ps n).clock) (nI (Ps n).number) (nI n) pm p1 p2 p3 p4 p5 pt pl kM kR ls cs m S w (nI (z_all (Ps n)).length) k →
      ∀ A : Int32 × St_Ga × (Nat → Int64), A = (k, g, out) → B.2.1 = A.1 ∧ (A.1 = 0 → A.2.2 0 = B.1.toInt64) ∧ z_GI A.2.1 B.2.2.1 B.2.2.2.1 B.2.2.2.2.1 B.2.2.2.2.2.1 B.2.2.2.2.2.2.1 B.2.2.2.2.2.2.2.1 B.2.2.2.2.2.2.2.2.1 B.2.2.2.2.2.2.2.2.2.1 B.2.2.2.2.2.2.2.2.2.2.1 B.2.2.2.2.2.2.2.2.2.2.2.1 B.2.2.2.2.2.2.2.2.2.2.2.2.1 B.2.2.2.2.2.2.2.2.2.2.2.2.2.1 B.2.2.2.2.2.2.2.2.2.2.2.2.2.2.1 B.2.2.2.2.2.2.2.2.2.2.2.2.2.2.2.1 B.2.2.2.2.2.2.2.2.2.2.2.2.2.2.2.2.1 := by
    intro k S w hk eB A hA
    rw [eB, f_Mo_play_81, if_neg (fun hh => by have := tl hk; have := tle hh; omega), hA]
    exact ⟨rfl, fun hh => by dsimp only at hh; rw [hh] at hk; exact absurd hk (by decide), h0⟩
  obtain ⟨w, hw, ew⟩ := z_play_10 (th := th) (men := (Ps n).men) (a := nI (Ps n).side) (b := nI (Ps n).rights) (c := z_pI (Ps n).passed) (d := nI (Ps n).clock) (e := nI (Ps n).number) (pls := nI n) (pm := pm) (p1 := p1) (p2 := p2) (p3 := p3) (p4 := p4) (p5 := p5) (pt := pt) (pl := pl) (kM := kM) (kR := kR) (ls := ls) (cs := cs) (m := m)
    (R := f_Mo_stands (Ps n).men (nI (Ps n).side) (nI (Ps n).rights) (z_pI (Ps n).passed) (nI (Ps n).clock) (nI (Ps n).number) (nI n) pm p1 p2 p3 pt kM kR ls cs) (L := z_all (Ps n)) hlen
    (by rw [hs2]; exact z_upd_same cs 0 _) (fun j hj => by rw [hs2]; have := z_wr_get (W := ls) (b := 0) hj; rwa [Nat.zero_add] at this)
    (z_all (Ps n)).length 0 0 (1792 - (z_all (Ps n)).length) (by omega) (Or.inl rfl)
  rw [List.drop_zero] at hw
  rw [show 1792 - (z_all (Ps n)).length + (z_all (Ps n)).length + 1 = 1793 by omega] at ew
  have eB : B = _ := hB.trans ((show f_Mo_play th (Ps n).men (nI (Ps n).side) (nI (Ps n).rights) (z_pI (Ps n).passed) (nI (Ps n).clock) (nI (Ps n).number) (nI n) pm p1 p2 p3 p4 p5 pt pl kM kR ls cs m = f_Mo_play_10 th (Ps n).men (nI (Ps n).side) (nI (Ps n).rights) (z_pI (Ps n).passed) (nI (Ps n).clock) (nI (Ps n).number) (nI n) pm p1 p2 p3 p4 p5 pt pl kM kR ls cs m (f_Mo_stands (Ps n).men (nI (Ps n).side) (nI (Ps n).rights) (z_pI (Ps n).passed) (nI (Ps n).clock) (nI (Ps n).number) (nI n) pm p1 p2 p3 pt kM kR ls cs) 1793 0 (nI 0) by unfold f_Mo_play f_Mo_play_r1; rfl).trans ew)
  have eL := z_isLegal_R V R m
  by_cases cm : m ∈ z_all (Ps n)
  · rw [if_pos cm] at eL
    have hw0 : ¬ w = 0 := fun hz => (hw.mp hz).2 cm
    have hne : z_all (Ps n) ≠ [] := fun hz => by rw [hz] at cm; simp at cm
    have hst2 : (f_Mo_stands (Ps n).men (nI (Ps n).side) (nI (Ps n).rights) (z_pI (Ps n).passed) (nI (Ps n).clock) (nI (Ps n).number) (nI n) pm p1 p2 p3 pt kM kR ls cs).1 = f_Ga_endByItself g.1 g.2.1 g.2.2.2.2.1 g.2.2.2.2.2 := by
      rw [hst, f_Ch_result, z_hasMove_R V R, if_neg hne, if_neg (by decide)]
    rw [if_neg hw0, hst2] at eB
    by_cases ce : f_Ga_endByItself g.1 g.2.1 g.2.2.2.2.1 g.2.2.2.2.2 = 0
    · rw [if_pos ((z_end_kinds g).mpr ce)] at eB
      by_cases c4 : n < 400
      · have hpl : ¬ nI n = 400 := by
          intro hh
          have := (z_nI_inj (b := 400) (by omega) (by omega)).mp hh; omega
        rw [if_neg hpl] at eB
        obtain ⟨VM, eM⟩ := z_inL_make V cm
        obtain ⟨z_g1, z_g2⟩ := z_gi_play c4 hg R H cm rfl (kM := (f_Mo_stands (Ps n).men (nI (Ps n).side) (nI (Ps n).rights) (z_pI (Ps n).passed) (nI (Ps n).clock) (nI (Ps n).number) (nI n) pm p1 p2 p3 pt kM kR ls cs).2.1) (kR := (f_Mo_stands (Ps n).men (nI (Ps n).side) (nI (Ps n).rights) (z_pI (Ps n).passed) (nI (Ps n).clock) (nI (Ps n).number) (nI n) pm p1 p2 p3 pt kM kR ls cs).2.2.1) rfl
        have eA : f_La_play g out m = (0, f_Ga_advance g.1 g.2.1 g.2.2.1 g.2.2.2.1 g.2.2.2.2.1 g.2.2.2.2.2 m, vp_updL out 0 (nI (n + 1)).toInt64) := by
          rw [f_La_play, f_Ch_play, eL, if_neg (by decide), if_pos ce, if_pos (by rw [hg, show (400 : Int32) = nI 400 from rfl, z_nI_lt (by omega) (by omega)]; exact c4), f_Ch_play_r72, f_La_play_r4]
          dsimp only
          rw [if_pos rfl, z_clamp0, z_g1]
        rw [eA, eB, f_Mo_play_81, if_pos (by decide), eM, f_Mo_play_r95, f_Mo_play_r119]
        dsimp only
        refine ⟨rfl, fun _ => ?_, z_g2⟩
        rw [z_updL_same, show nI n + 1 = nI (n + 1) from z_nI_add n 1]
      · have hn4 : n = 400 := by omega
        rw [if_pos (show nI n = 400 by rw [hn4]; rfl)] at eB
        refine bad 3 _ _ (by decide) eB _ ?_
        rw [f_La_play, f_Ch_play, eL, if_neg (by decide), if_pos ce, if_neg (by rw [hg, show (400 : Int32) = nI 400 from rfl, z_nI_lt (by omega) (by omega)]; exact c4), f_La_play_r4]
        dsimp only
        rw [if_neg (by decide), if_neg (by decide), if_neg (by decide)]
    · rw [if_neg (fun hh => ce ((z_end_kinds g).mp hh))] at eB
      refine bad 2 _ _ (by decide) eB _ ?_
      rw [f_La_play, f_Ch_play, eL, if_neg (by decide), if_neg ce, f_La_play_r4]
      dsimp only
      rw [if_neg (by decide), if_neg (by decide), if_pos rfl]
  · rw [if_neg cm] at eL
    have hw0 : w = 0 := hw.mpr ⟨rfl, cm⟩
    rw [if_pos hw0] at eB
    refine bad 1 _ _ (by decide) eB _ ?_
    rw [f_La_play, f_Ch_play, eL, if_pos rfl, f_La_play_r4]
    dsimp only
    rw [if_neg (by decide), if_pos rfl]
set_option maxRecDepth 100000 in
theorem z_same_load {g : St_Ga} {men : Nat → Int32} {a b c d e pls : Int32} {pm p1 p2 p3 p4 p5 : Nat → Int32} {pt : Nat → Int64} {pl : Nat → Int32} (h : z_GI g men a b c d e pls pm p1 p2 p3 p4 p5 pt pl) {r : St_Re} {typed : Int32} {text : Nat → Int32} (hT : z_TI r.1 typed text) {M : Nat → Int32} (hM : z_BdM M r.2.1.1) (kM kR : Nat → Int32)
    {B : Int32 × Int32 × Int32 × (Nat → Int32) × Int32 × Int32 × Int32 × Int32 × Int32 × Int32 × (Nat → Int32) × (Nat → Int32) × (Nat → Int32) × (Nat → Int32) × (Nat → Int32) × (Nat → Int32) × (Nat → Int64) × (Nat → Int32) × (Nat → Int32)}
    (hB : B = f_Mo_load typed text men a b c d e pls pm p1 p2 p3 p4 p5 pt kM kR) :
    (f_Ch_load r g).1 = B.1 ∧ z_TI (f_Ch_load r g).2.1.1 B.2.2.1 text ∧ (∃ M', z_BdM M' (f_Ch_load r g).2.1.2.1.1) ∧
    z_GI (f_Ch_load r g).2.2 B.2.2.2.1 B.2.2.2.2.1 B.2.2.2.2.2.1 B.2.2.2.2.2.2.1 B.2.2.2.2.2.2.2.1 B.2.2.2.2.2.2.2.2.1 B.2.2.2.2.2.2.2.2.2.1 B.2.2.2.2.2.2.2.2.2.2.1 B.2.2.2.2.2.2.2.2.2.2.2.1 B.2.2.2.2.2.2.2.2.2.2.2.2.1 B.2.2.2.2.2.2.2.2.2.2.2.2.2.1 B.2.2.2.2.2.2.2.2.2.2.2.2.2.2.1 B.2.2.2.2.2.2.2.2.2.2.2.2.2.2.2.1 B.2.2.2.2.2.2.2.2.2.2.2.2.2.2.2.2.1 pl := by
  obtain ⟨n, sg, hn, ht, hty, sok, sc, hz⟩ := hT.sg
  have FC := z_findFault_eq hn ht sc hz hM
  subst hty
  obtain ⟨W, hW, FR⟩ := z_fault_eq hn sok men a b c d e
  have hK : f_Mo_keep men a b c d e kM kR 5 = (z_kept kM men 5 0, z_keptR kR 5 a b c d e) := z_keep_eq men a b c d e kM kR (lv := 5) (by decide)
  have hK5 := z_keptR_get kR 5 a b c d e
  have hbr : ∀ x1 x2 x3 x4 x5, f_Mo_bringBack W x1 x2 x3 x4 x5 (z_kept kM men 5 0) (z_keptR kR 5 a b c d e) 5 = (men, a, b, c, d, e) := by
    intro x1 x2 x3 x4 x5
    have := z_bring_eq W x1 x2 x3 x4 x5 (z_kept kM men 5 0) (z_keptR kR 5 a b c d e) (lv := 5) (by decide)
    rw [show (5 : Int32) = nI 5 from rfl, this, z_brought_kept hW, hK5.1, hK5.2.1, hK5.2.2.1, hK5.2.2.2.1, hK5.2.2.2.2]
  have bad : ∀ (k : Nat) (x1 x2 x3 x4 x5 at9 : Int32) (W' : St_Po) (M' : Nat → Int32), 0 < k → k ≤ 6 → z_BdM M' W'.1 → f_Mo_fault (nI n) text men a b c d e = (nI k, W, x1, x2, x3, x4, x5) → f_Re_findFault r.1 r.2.1 = (nI k, W', at9) →
      (f_Ch_load r g).1 = B.1 ∧ z_TI (f_Ch_load r g).2.1.1 B.2.2.1 text ∧ (∃ M', z_BdM M' (f_Ch_load r g).2.1.2.1.1) ∧
    z_GI (f_Ch_load r g).2.2 B.2.2.2.1 B.2.2.2.2.1 B.2.2.2.2.2.1 B.2.2.2.2.2.2.1 B.2.2.2.2.2.2.2.1 B.2.2.2.2.2.2.2.2.1 B.2.2.2.2.2.2.2.2.2.1 B.2.2.2.2.2.2.2.2.2.2.1 B.2.2.2.2.2.2.2.2.2.2.2.1 B.2.2.2.2.2.2.2.2.2.2.2.2.1 B.2.2.2.2.2.2.2.2.2.2.2.2.2.1 B.2.2.2.2.2.2.2.2.2.2.2.2.2.2.1 B.2.2.2.2.2.2.2.2.2.2.2.2.2.2.2.1 B.2.2.2.2.2.2.2.2.2.2.2.2.2.2.2.2.1 pl := by
    intro k x1 x2 x3 x4 x5 at9 W' M' hk hk6 hM' eR eC
    have k0 : ¬ nI k = 0 := fun hh => by have := (z_nI_inj (b := 0) (by omega) (by omega)).mp hh; omega
    have k1 : ¬ nI k ≤ 0 := by rw [show (0 : Int32) = nI 0 from rfl, z_nI_le (by omega) (by omega)]; omega
    rw [hB, f_Mo_load, hK, f_Mo_load_r7, eR, f_Mo_load_r11]
    dsimp only
    rw [if_neg k1, hbr, f_Mo_load_r21, f_Ch_load, eC, f_Ch_load_r4]
    dsimp only
    rw [if_neg k0]
    exact ⟨rfl, hT, ⟨M', hM'⟩, h⟩
  cases hx : z_txS sg n with
  | none =>
    rw [hx] at FC FR
    obtain ⟨M', W', a', h1, h2⟩ := FC
    obtain ⟨x1, x2, x3, x4, x5, h3⟩ := FR
    exact bad 1 x1 x2 x3 x4 x5 a' W' M' (by decide) (by decide) h1 h3 h2
  | some P =>
    obtain ⟨hvm, _, _, _, hcl, _, hnm⟩ := z_tx_bd hx
    rw [hx] at FC FR
    obtain ⟨W', RW, eC⟩ := FC
    obtain ⟨hs, hr, hps, hWm, eR⟩ := FR
    have E : z_Eqv P (W, P.2) := ⟨fun q hq => (hWm q hq).symm, rfl⟩
    have ef : z_fltN (W, P.2) = z_fltN P := z_fltN_congr (M' := P.men) P.2 hs hWm
    rw [ef] at eR
    by_cases c0 : z_fltN P = 0
    · have VW : z_Val (W, P.2) := by
        refine z_flt_val hs hr hps (fun q hq => ?_) (ef.trans c0)
        show z_vm (W q) = true
        rw [hWm q hq]; exact hvm q
      obtain ⟨n0, Ps, hn0, hg0, hp0, R0, hv0, H0⟩ := h
      have GB := z_gi_begin VW hcl hnm R0.1 (E.rel RW) (pm := pm) (p1 := p1) (p2 := p2) (p3 := p3) (p4 := p4) (p5 := p5) (pt := pt) (pl := pl) (kM := z_kept kM men 5 0) (kR := z_keptR kR 5 a b c d e) rfl rfl
      rw [c0] at eR eC
      rw [hB, f_Mo_load, hK, f_Mo_load_r7, eR, f_Mo_load_r11]
      dsimp only
      rw [if_pos (show nI 0 ≤ 0 by decide), f_Mo_load_r37, f_Ch_load, eC, f_Ch_load_r4]
      dsimp only
      rw [if_pos (show nI 0 = 0 from rfl), f_Ch_load_r23]
      dsimp only
      obtain ⟨n9, t1, t2, t3, t4, t5⟩ := hT
      have es : f_Li_shorten r.1.2 0 = 0 := by
        rw [t2, f_Li_shorten, if_neg (by decide), if_neg (by rw [show (0 : Int32) = nI 0 from rfl, z_nI_lt (by omega) (by omega)]; omega)]
      rw [es]
      exact ⟨rfl, ⟨0, by omega, rfl, rfl, fun j hj => by omega, t5⟩, ⟨P.men, RW.1⟩, GB⟩
    · exact bad (z_fltN P) _ _ _ _ _ _ W' P.men (by omega) (z_flt_le P) RW.1 eR eC

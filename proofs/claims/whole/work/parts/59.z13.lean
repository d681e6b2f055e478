set_option maxRecDepth 100000 in
theorem z_getD_mem {L : List Int32} {i : Nat} (h : i < L.length) (x : Int32) : L.getD i x ∈ L := by
  rw [List.getD_eq_getElem?_getD, List.getElem?_eq_getElem h]; exact List.getElem_mem h
set_option maxRecDepth 100000 in
theorem z_sum_drop (L : List Int32) (f : Int32 → Nat) {i : Nat} (hi : i < L.length) (x : Int32) : ((L.drop i).map f).sum = f (L.getD i x) + ((L.drop (i + 1)).map f).sum := by
  rw [List.drop_eq_getElem_cons hi, List.map_cons, List.sum_cons, List.getD_eq_getElem?_getD, List.getElem?_eq_getElem hi]; rfl
set_option maxRecDepth 100000 in
theorem z_cnt1_loop {P : z_Pos} (V : z_Val P) {kM0 kR0 ls0 cs0 : Nat → Int32} {L : (Nat → Int32) × (Nat → Int32) × (Nat → Int32) × (Nat → Int32)} (hl : ∀ i, i < (z_all P).length → L.2.2.1 (2048 + i) = (z_all P).getD i 0) (hc : L.2.2.2 1 = nI (z_all P).length) :
    ∀ c i acc kM kR e9, i + c = (z_all P).length → ∃ kM' kR', z_FRd 1 kM kR L.2.2.1 L.2.2.2 kM' kR' L.2.2.1 L.2.2.2 ∧
      f_Mo_count_L1_16 P.men (nI P.side) (nI P.rights) (z_pI P.passed) (nI P.clock) (nI P.number) kM0 kR0 ls0 cs0 1 L (e9 + c + 1) (z_nL acc) (nI i) P.men (nI P.side) (nI P.rights) (z_pI P.passed) (nI P.clock) (nI P.number) kM kR =
      (z_nL (acc + (((z_all P).drop i).map (fun m => z_perft 0 (z_mkM P m))).sum), P.men, nI P.side, nI P.rights, z_pI P.passed, nI P.clock, nI P.number, kM', kR', L.2.2.1, L.2.2.2) := by
  have h17 := z_all_1792 V
  intro c
  induction c with
  | zero =>
    intro i acc kM kR e9 h
    refine ⟨kM, kR, z_FRd.rf _ _ _ _ _, ?_⟩
    rw [f_Mo_count_L1_16]; dsimp only
    rw [show (1 : Int32).toNatClampNeg = 1 from rfl, hc, if_pos (by rw [show i = (z_all P).length by omega]; exact Int32.le_refl _), List.drop_eq_nil_of_le (by omega)]; rfl
  | succ c ih =>
    intro i acc kM kR e9 h
    have hi : i < (z_all P).length := by omega
    have hm := z_getD_mem hi 0
    have F : z_FRd (1 - 1) (z_kept kM P.men 1 0) (z_keptR kR 1 (nI P.side) (nI P.rights) (z_pI P.passed) (nI P.clock) (nI P.number)) L.2.2.1 L.2.2.2 (z_kept kM P.men 1 0) (z_keptR kR 1 (nI P.side) (nI P.rights) (z_pI P.passed) (nI P.clock) (nI P.number)) L.2.2.1 L.2.2.2 := z_FRd.rf _ _ _ _ _
    have bk := z_ct_back V (Nat.le_refl 1) (by decide) hm F
    have K := z_keep_eq P.men (nI P.side) (nI P.rights) (z_pI P.passed) (nI P.clock) (nI P.number) kM kR (lv := 1) (by decide)
    rw [show nI 1 = 1 from rfl] at bk K
    have ix : ((2048 : Int32) * 1 + nI i).toNatClampNeg = 2048 + i := by
      rw [show (2048 : Int32) * 1 = nI 2048 from by decide, z_nI_add, z_nI_clamp (by omega)]
    obtain ⟨kM', kR', z_g1, z_g2⟩ := ih (i + 1) (acc + 1) (z_kept kM P.men 1 0) (z_keptR kR 1 (nI P.side) (nI P.rights) (z_pI P.passed) (nI P.clock) (nI P.number)) e9 (by omega)
    refine ⟨kM', kR', (z_FRd_keep (d := 1) (by decide) kM kR L.2.2.1 L.2.2.2 P.men _ _ _ _ _).tr z_g1, ?_⟩
    rw [f_Mo_count_L1_16]; dsimp only
    rw [show (1 : Int32).toNatClampNeg = 1 from rfl, hc, if_neg (by rw [z_nI_le (by omega) (by omega)]; omega), K, f_Mo_count_L1_r29, ix, hl i hi, f_Mo_count_L1_r46, f_Mo_count_L1_r61]
    dsimp only
    rw [bk, show f_Mo_count_L0 (1 - 1) = z_nL 1 from by decide, z_nL_add, show nI i + 1 = nI (i + 1) from z_nI_add i 1]
    dsimp only
    rw [show e9 + (c + 1) = e9 + c + 1 from rfl, z_g2, z_sum_drop _ _ hi 0, Nat.add_assoc]; rfl
set_option maxRecDepth 100000 in
theorem z_cnt_L1 {P : z_Pos} (V : z_Val P) {d : Nat} (hd : d ≤ 1) (kM kR ls cs : Nat → Int32) : ∃ kM' kR' ls' cs', z_FRd d kM kR ls cs kM' kR' ls' cs' ∧
    f_Mo_count_L1 P.men (nI P.side) (nI P.rights) (z_pI P.passed) (nI P.clock) (nI P.number) kM kR ls cs (nI d) = (z_nL (z_perft d P), P.men, nI P.side, nI P.rights, z_pI P.passed, nI P.clock, nI P.number, kM', kR', ls', cs') := by
  have hd2 : d = 0 ∨ d = 1 := by omega
  rcases hd2 with rfl | rfl
  · exact ⟨kM, kR, ls, cs, z_FRd.rf _ _ _ _ _, by rw [f_Mo_count_L1, if_pos (by decide)]; rfl⟩
  · have h17 := z_all_1792 V
    obtain ⟨kM1, kR1, k1, e1⟩ := z_list_eq V (dp := 1) (by decide) kM kR ls cs
    rw [show nI 1 = 1 from rfl] at e1
    have hl : ∀ i, i < (z_all P).length → z_wr ls (2048 * 1) (z_all P) (2048 + i) = (z_all P).getD i 0 := fun i hi => z_wr_get hi
    obtain ⟨e9, he9⟩ : ∃ e9, 1793 = e9 + (z_all P).length + 1 := ⟨1792 - (z_all P).length, by omega⟩
    obtain ⟨kM', kR', z_g1, z_g2⟩ := z_cnt1_loop V (kM0 := kM) (kR0 := kR) (ls0 := ls) (cs0 := cs) (L := (kM1, kR1, z_wr ls (2048 * 1) (z_all P), upd cs 1 (nI (z_all P).length))) hl (z_upd_same cs 1 (nI (z_all P).length)) (z_all P).length 0 0 kM1 kR1 e9 (by omega)
    refine ⟨kM', kR', _, _, (z_FRd_list (d := 1) (ls := ls) (cs := cs) (by decide) k1 (by omega) (nI (z_all P).length)).tr z_g1, ?_⟩
    rw [show nI 1 = 1 from rfl, f_Mo_count_L1, if_neg (by decide), e1, f_Mo_count_L1_r8, he9]
    dsimp only at z_g2 ⊢
    rw [Nat.zero_add, List.drop_zero] at z_g2
    exact z_g2
set_option maxRecDepth 100000 in
theorem z_cb1 {men : Nat → Int32} {sd rt ps ck nm d : Int32} (hV : z_VP men sd rt ps ck nm) (hd : 0 ≤ d.toInt ∧ d.toInt ≤ 1) (kM kR ls cs : Nat → Int32) :
    (f_Mo_count_L1 men sd rt ps ck nm kM kR ls cs d).2.1 = men ∧ (f_Mo_count_L1 men sd rt ps ck nm kM kR ls cs d).2.2.1 = sd ∧ (f_Mo_count_L1 men sd rt ps ck nm kM kR ls cs d).2.2.2.1 = rt ∧ (f_Mo_count_L1 men sd rt ps ck nm kM kR ls cs d).2.2.2.2.1 = ps ∧ (f_Mo_count_L1 men sd rt ps ck nm kM kR ls cs d).2.2.2.2.2.1 = ck ∧ (f_Mo_count_L1 men sd rt ps ck nm kM kR ls cs d).2.2.2.2.2.2.1 = nm := by
  obtain ⟨P, V, rfl, rfl, rfl, rfl, rfl, rfl⟩ := hV
  obtain ⟨j, hj, rfl⟩ : ∃ j : Nat, j ≤ 1 ∧ d = nI j := ⟨d.toInt.toNat, by omega, z_of_nonneg hd.1⟩
  obtain ⟨kM', kR', ls', cs', -, e⟩ := z_cnt_L1 V hj kM kR ls cs
  rw [e]; exact ⟨rfl, rfl, rfl, rfl, rfl, rfl⟩

set_option maxRecDepth 100000 in
theorem z_cnt2_loop {P : z_Pos} (V : z_Val P) {d : Nat} (hd1 : 1 ≤ d) (hd : d ≤ 2) {kM0 kR0 ls0 cs0 : Nat → Int32} {L : (Nat → Int32) × (Nat → Int32) × (Nat → Int32) × (Nat → Int32)} :
    ∀ c i acc kM kR wl wk e9, i + c = (z_all P).length → (∀ i, i < (z_all P).length → wl (2048 * d + i) = (z_all P).getD i 0) → wk d = nI (z_all P).length → ∃ kM' kR' wl' wk', z_FRd d kM kR wl wk kM' kR' wl' wk' ∧
      f_Mo_count_L2_16 P.men (nI P.side) (nI P.rights) (z_pI P.passed) (nI P.clock) (nI P.number) kM0 kR0 ls0 cs0 (nI d) L (e9 + c + 1) (z_nL acc) (nI i) P.men (nI P.side) (nI P.rights) (z_pI P.passed) (nI P.clock) (nI P.number) kM kR wl wk =
      (z_nL (acc + (((z_all P).drop i).map (fun m => z_perft (d - 1) (z_mkM P m))).sum), P.men, nI P.side, nI P.rights, z_pI P.passed, nI P.clock, nI P.number, kM', kR', wl', wk') := by
  have h17 := z_all_1792 V
  intro c
  induction c with
  | zero =>
    intro i acc kM kR wl wk e9 h hl hc
    refine ⟨kM, kR, wl, wk, z_FRd.rf _ _ _ _ _, ?_⟩
    rw [f_Mo_count_L2_16]; dsimp only
    rw [z_nI_clamp (by omega), hc, if_pos (by rw [show i = (z_all P).length by omega]; exact Int32.le_refl _), List.drop_eq_nil_of_le (by omega)]; rfl
  | succ c ih =>
    intro i acc kM kR wl wk e9 h hl hc
    have hi : i < (z_all P).length := by omega
    have hm := z_getD_mem hi 0
    obtain ⟨V1, eM⟩ := z_inL_make V hm
    obtain ⟨kM2, kR2, wl2, wk2, F, eT⟩ := z_cs1 V1 (d := d - 1) (by omega) (z_kept kM P.men d 0) (z_keptR kR d (nI P.side) (nI P.rights) (z_pI P.passed) (nI P.clock) (nI P.number)) wl wk
    have bk := z_ct_back V hd1 (by omega) hm F
    have K := z_keep_eq P.men (nI P.side) (nI P.rights) (z_pI P.passed) (nI P.clock) (nI P.number) kM kR (lv := d) (by omega)
    have ix : ((2048 : Int32) * nI d + nI i).toNatClampNeg = 2048 * d + i := by
      rw [show (2048 : Int32) = nI 2048 from rfl, z_nI_mul, z_nI_add, z_nI_clamp (by omega)]
    obtain ⟨kM', kR', wl', wk', z_g1, z_g2⟩ := ih (i + 1) (acc + z_perft (d - 1) (z_mkM P ((z_all P).getD i 0))) kM2 kR2 wl2 wk2 e9 (by omega) (fun q hq => by rw [F.2.2.1 _ (by omega)]; exact hl q hq) (by rw [F.2.2.2 _ (by omega)]; exact hc)
    refine ⟨kM', kR', wl', wk', ((z_FRd_keep (d := d) (by omega) kM kR wl wk P.men _ _ _ _ _).tr (F.up (by omega))).tr z_g1, ?_⟩
    rw [f_Mo_count_L2_16]; dsimp only
    rw [z_nI_clamp (by omega), hc, if_neg (by rw [z_nI_le (by omega) (by omega)]; omega), K, f_Mo_count_L2_r29, ix, hl i hi, eM, f_Mo_count_L2_r46]
    dsimp only
    rw [show nI d - 1 = nI (d - 1) from z_nI_sub (b := 1) (by omega) (by omega), eT, f_Mo_count_L2_r54, f_Mo_count_L2_r61]
    dsimp only
    rw [eM] at bk
    dsimp only at bk
    rw [bk, z_nL_add, show nI i + 1 = nI (i + 1) from z_nI_add i 1]
    dsimp only
    rw [show e9 + (c + 1) = e9 + c + 1 from rfl, z_g2, z_sum_drop _ _ hi 0, Nat.add_assoc]
set_option maxRecDepth 100000 in
theorem z_cnt_L2 {P : z_Pos} (V : z_Val P) {d : Nat} (hd : d ≤ 2) (kM kR ls cs : Nat → Int32) : ∃ kM' kR' ls' cs', z_FRd d kM kR ls cs kM' kR' ls' cs' ∧
    f_Mo_count_L2 P.men (nI P.side) (nI P.rights) (z_pI P.passed) (nI P.clock) (nI P.number) kM kR ls cs (nI d) = (z_nL (z_perft d P), P.men, nI P.side, nI P.rights, z_pI P.passed, nI P.clock, nI P.number, kM', kR', ls', cs') := by
  have h17 := z_all_1792 V
  by_cases h0 : d = 0
  · subst h0
    exact ⟨kM, kR, ls, cs, z_FRd.rf _ _ _ _ _, by rw [f_Mo_count_L2, if_pos (by decide)]; rfl⟩
  · obtain ⟨kM1, kR1, k1, e1⟩ := z_list_eq V (dp := d) (by omega) kM kR ls cs
    have hl : ∀ i, i < (z_all P).length → z_wr ls (2048 * d) (z_all P) (2048 * d + i) = (z_all P).getD i 0 := fun i hi => z_wr_get hi
    obtain ⟨e9, he9⟩ : ∃ e9, 1793 = e9 + (z_all P).length + 1 := ⟨1792 - (z_all P).length, by omega⟩
    obtain ⟨kM', kR', wl', wk', z_g1, z_g2⟩ := z_cnt2_loop V (d := d) (by omega) hd (kM0 := kM) (kR0 := kR) (ls0 := ls) (cs0 := cs) (L := (kM1, kR1, z_wr ls (2048 * d) (z_all P), upd cs d (nI (z_all P).length))) (z_all P).length 0 0 kM1 kR1 (z_wr ls (2048 * d) (z_all P)) (upd cs d (nI (z_all P).length)) e9 (by omega) hl (z_upd_same _ _ _)
    refine ⟨kM', kR', wl', wk', (z_FRd_list (d := d) (ls := ls) (cs := cs) (by omega) k1 (by omega) (nI (z_all P).length)).tr z_g1, ?_⟩
    have hn0 : ¬ nI d = 0 := fun g => h0 ((z_nI_inj (a := d) (b := 0) (by omega) (by omega)).mp g)
    rw [f_Mo_count_L2, if_neg hn0, e1, f_Mo_count_L2_r8, he9]
    dsimp only at z_g2 ⊢
    rw [Nat.zero_add, List.drop_zero] at z_g2
    obtain ⟨d', rfl⟩ : ∃ d', d = d' + 1 := ⟨d - 1, by omega⟩
    exact z_g2
set_option maxRecDepth 100000 in
theorem z_cb2 {men : Nat → Int32} {sd rt ps ck nm d : Int32} (hV : z_VP men sd rt ps ck nm) (hd : 0 ≤ d.toInt ∧ d.toInt ≤ 2) (kM kR ls cs : Nat → Int32) :
    (f_Mo_count_L2 men sd rt ps ck nm kM kR ls cs d).2.1 = men ∧ (f_Mo_count_L2 men sd rt ps ck nm kM kR ls cs d).2.2.1 = sd ∧ (f_Mo_count_L2 men sd rt ps ck nm kM kR ls cs d).2.2.2.1 = rt ∧ (f_Mo_count_L2 men sd rt ps ck nm kM kR ls cs d).2.2.2.2.1 = ps ∧ (f_Mo_count_L2 men sd rt ps ck nm kM kR ls cs d).2.2.2.2.2.1 = ck ∧ (f_Mo_count_L2 men sd rt ps ck nm kM kR ls cs d).2.2.2.2.2.2.1 = nm := by
  obtain ⟨P, V, rfl, rfl, rfl, rfl, rfl, rfl⟩ := hV
  obtain ⟨j, hj, rfl⟩ : ∃ j : Nat, j ≤ 2 ∧ d = nI j := ⟨d.toInt.toNat, by omega, z_of_nonneg hd.1⟩
  obtain ⟨kM', kR', ls', cs', -, e⟩ := z_cnt_L2 V hj kM kR ls cs
  rw [e]; exact ⟨rfl, rfl, rfl, rfl, rfl, rfl⟩

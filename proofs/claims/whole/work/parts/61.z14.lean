set_option maxRecDepth 100000 in
theorem z_cs1 {P : z_Pos} (V : z_Val P) {d : Nat} (hd : d ≤ 1) (kM kR ls cs : Nat → Int32) : ∃ kM' kR' ls' cs', z_FRd d kM kR ls cs kM' kR' ls' cs' ∧ f_Mo_count_L1S P.men (nI P.side) (nI P.rights) (z_pI P.passed) (nI P.clock) (nI P.number) kM kR ls cs (nI d) = (z_nL (z_perft d P), kM', kR', ls', cs') := by
  obtain ⟨kM', kR', ls', cs', F, e⟩ := z_cnt_L1 V hd kM kR ls cs
  refine ⟨kM', kR', ls', cs', F, ?_⟩
  unfold f_Mo_count_L1S
  rw [e]
set_option maxRecDepth 100000 in
theorem z_ct_fr2 {M : (Nat → Int32) × Int32 × Int32 × Int32 × Int32 × Int32} {K : (Nat → Int32) × (Nat → Int32)} {wl wk : Nat → Int32} {T : Int64 × (Nat → Int32) × (Nat → Int32) × (Nat → Int32) × (Nat → Int32)} {d : Int32} (hT : T = f_Mo_count_L1S M.1 M.2.1 M.2.2.1 M.2.2.2.1 M.2.2.2.2.1 M.2.2.2.2.2 K.1 K.2 wl wk (d - 1)) (hd : 1 ≤ d.toInt ∧ d.toInt ≤ 2) :
    ∀ P, z_Val P → P.men = M.1 → nI P.side = M.2.1 → nI P.rights = M.2.2.1 → z_pI P.passed = M.2.2.2.1 → nI P.clock = M.2.2.2.2.1 → nI P.number = M.2.2.2.2.2 → z_FRd (d.toNatClampNeg - 1) K.1 K.2 wl wk T.2.1 T.2.2.1 T.2.2.2.1 T.2.2.2.2 := by
  intro P V e1 e2 e3 e4 e5 e6
  obtain ⟨j, hj1, hj, rfl⟩ : ∃ j : Nat, 1 ≤ j ∧ j ≤ 2 ∧ d = nI j := ⟨d.toInt.toNat, by omega, by omega, z_of_nonneg (by omega)⟩
  obtain ⟨kM', kR', ls', cs', F, e⟩ := z_cs1 V (d := j - 1) (by omega) K.1 K.2 wl wk
  rw [← e1, ← e2, ← e3, ← e4, ← e5, ← e6, show nI j - 1 = nI (j - 1) from z_nI_sub (b := 1) (by omega) (by omega), e] at hT
  rw [hT, z_nI_clamp (by omega)]; exact F

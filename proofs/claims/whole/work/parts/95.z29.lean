set_option maxRecDepth 100000 in
theorem z_bo_init : z_BdM (fun _ => 0) f_Bo_init := by
  refine ⟨⟨fun q _ => by rfl, fun k hk q hq => ?_⟩, fun q _ => rfl⟩
  show z_tb (vp_updL (fun _ => 0) (0 : Int32).toNatClampNeg (-1) k) q = decide ((0 : Int32) = nI k)
  rw [z_clamp0]
  by_cases c : k = 0
  · subst c
    rw [z_updL_same, z_tb_m1 hq]; rfl
  · rw [z_updL_ne _ c, z_tb_zero]
    symm
    exact decide_eq_false (fun h => c ((z_nI_inj (a := 0) (by omega) (by omega)).mp h).symm)
set_option maxRecDepth 100000 in
theorem z_ci_39 : ∀ c k (W : St_Re), k + c = 56 → W.1.2 = nI k → (∀ j, j < k → W.1.1 j = nI (z_sg0 j)) →
    ∃ V : St_Re, V.1.2 = nI 56 ∧ (∀ j, j < 56 → V.1.1 j = nI (z_sg0 j)) ∧ V.2 = W.2 ∧ f_Ch_init_39 (c + 1) (nI k) W = f_Ch_init_r74 (nI 56) V (f_Re_findFault V.1 V.2.1) := by
  intro c
  induction c with
  | zero =>
    intro k W h h1 h2
    have hk : k = 56 := by omega
    subst hk
    refine ⟨W, h1, h2, rfl, ?_⟩
    rw [f_Ch_init_39]; dsimp only
    rw [if_pos z_first_e]
  | succ c ih =>
    intro k W h h1 h2
    obtain ⟨b1, b2, b3⟩ := z_first_b k (by omega)
    obtain ⟨V, v1, v2, v3, v4⟩ := ih (k + 1) ((z_wr W.1.1 k [nI (z_sg0 k)], nI (k + 1)), W.2.1, W.2.2) (by omega) rfl (fun j hj => by
      show z_wr W.1.1 k [nI (z_sg0 k)] j = nI (z_sg0 j)
      rw [← z_wr_one]
      by_cases c1 : j = k
      · rw [c1, z_upd_same]
      · rw [z_upd_ne _ c1]; exact h2 j (by omega))
    refine ⟨V, v1, v2, v3, ?_⟩
    rw [f_Ch_init_39]; dsimp only
    rw [if_neg b2, b1, h1, z_add_eq _ (by omega) (by omega), f_Ch_init_r61, show nI k + 1 = nI (k + 1) from z_nI_add k 1]
    exact v4
set_option maxRecDepth 100000 in
theorem z_sg0_128 : ∀ p, z_sg0 p < 128 := by
  intro p
  by_cases c : p < 56
  · exact (z_first_b p c).2.2
  · rw [z_sg0_hi p (by omega)]; decide
set_option maxRecDepth 100000 in
theorem z_ci_SgC {t : St_Li} (h1 : t.2 = nI 56) (h2 : ∀ j, j < 56 → t.1 j = nI (z_sg0 j)) : z_SgC t z_sg0 := by
  intro p hp
  refine ⟨?_, z_sg0_128 p⟩
  unfold f_Li_at
  rw [h1, if_neg (by rw [show (0 : Int32) = nI 0 from rfl, z_nI_lt (by omega) (by omega)]; omega)]
  by_cases c : p < 56
  · rw [if_neg (by rw [z_nI_le (by omega) (by omega)]; omega), if_neg (by rw [show (100 : Int32) = nI 100 from rfl, z_nI_le (by omega) (by omega)]; omega), z_nI_clamp (by omega), h2 p c]
  · rw [if_pos (by rw [z_nI_le (by omega) (by omega)]; omega), z_sg0_hi p (by omega)]; rfl
set_option maxRecDepth 100000 in
theorem z_mi_step {n j : Nat} (hj : j < 8) {W : Nat → Int32} (hW : W = z_iniM j) : ∃ W', W' = z_iniM (j + 1) ∧ f_Mo_init_151 (n + 1) (nI j) W = f_Mo_init_151 n (nI (j + 1)) W' := by
  have key : ∀ k : Int32, k = nI (z_bkN j) → ∃ W', W' = z_iniM (j + 1) ∧ f_Mo_init_211 (f_Mo_init_151 n) (nI j) W k = f_Mo_init_151 n (nI (j + 1)) W' := by
    intro k hk
    have hc : (nI j).toNatClampNeg = j := z_nI_clamp (by omega)
    have st := z_ini_step (W := W) (v := nI j) (k := k) (by rw [z_nI_toInt (by omega)]; omega) (by rw [z_nI_toInt (by omega)]; omega) (by rw [hc]; exact hW) (by rw [hc]; exact hk)
    have e1 : nI j + 1 = nI (j + 1) := z_nI_add j 1
    rw [e1, show (nI (j + 1)).toNatClampNeg = j + 1 from z_nI_clamp (by omega)] at st
    refine ⟨_, st, ?_⟩
    rw [f_Mo_init_211, e1]
  rw [f_Mo_init_151]; dsimp only
  rcases (show j = 0 ∨ j = 1 ∨ j = 2 ∨ j = 3 ∨ j = 4 ∨ j = 5 ∨ j = 6 ∨ j = 7 by omega) with e | e | e | e | e | e | e | e
  · subst e; rw [if_neg (by decide), if_pos (by decide)]; exact key _ rfl
  · subst e; rw [if_neg (by decide), if_neg (by decide), if_neg (by decide), if_pos (by decide)]; exact key _ rfl
  · subst e; rw [if_neg (by decide), if_neg (by decide), if_neg (by decide), if_neg (by decide), if_neg (by decide), if_pos (by decide)]; exact key _ rfl
  · subst e; rw [if_neg (by decide), if_neg (by decide), if_neg (by decide), if_neg (by decide), if_neg (by decide), if_neg (by decide), if_neg (by decide), if_pos (by decide)]; exact key _ rfl
  · subst e; rw [if_neg (by decide), if_neg (by decide), if_neg (by decide), if_neg (by decide), if_neg (by decide), if_neg (by decide), if_neg (by decide), if_neg (by decide)]; exact key _ rfl
  · subst e; rw [if_neg (by decide), if_neg (by decide), if_neg (by decide), if_neg (by decide), if_neg (by decide), if_neg (by decide), if_pos (by decide)]; exact key _ rfl
  · subst e; rw [if_neg (by decide), if_neg (by decide), if_neg (by decide), if_neg (by decide), if_pos (by decide)]; exact key _ rfl
  · subst e; rw [if_neg (by decide), if_neg (by decide), if_pos (by decide)]; exact key _ rfl
set_option maxRecDepth 100000 in
theorem z_mi_loop : ∀ c j W, j + c = 8 → W = z_iniM j → f_Mo_init_151 (c + 1) (nI j) W = f_Mo_init_r260 (nI 8) (z_iniM 8) (f_Mo_enter (z_iniM 8) 0 15 (-1) 0 1 0 (fun _ => 0) (fun _ => 0) (fun _ => 0) (fun _ => 0) (fun _ => 0) (fun _ => 0) (fun _ => 0) (fun _ => 0) (fun _ => 0)) := by
  intro c
  induction c with
  | zero =>
    intro j W h hW
    have hj : j = 8 := by omega
    subst hj
    rw [f_Mo_init_151]; dsimp only
    rw [if_pos (by decide), hW]
  | succ c ih =>
    intro j W h hW
    obtain ⟨W', hW', e⟩ := z_mi_step (n := c + 1) (show j < 8 by omega) hW
    rw [e]; exact ih (j + 1) W' (by omega) hW'
set_option maxRecDepth 100000 in
theorem z_mi_eq : f_Mo_init = f_Mo_init_r260 (nI 8) (z_iniM 8) (f_Mo_enter (z_iniM 8) 0 15 (-1) 0 1 0 (fun _ => 0) (fun _ => 0) (fun _ => 0) (fun _ => 0) (fun _ => 0) (fun _ => 0) (fun _ => 0) (fun _ => 0) (fun _ => 0)) := by
  unfold f_Mo_init
  exact z_mi_loop 8 0 _ rfl z_ini_0
set_option maxRecDepth 100000 in
theorem z_inv0 : z_INV f_Ch_init.1 f_Ch_init.2.1 f_Ch_init.2.2 f_Mo_init.2.1 f_Mo_init.2.2.1 f_Mo_init.2.2.2.1 f_Mo_init.2.2.2.2.1 f_Mo_init.2.2.2.2.2.1 f_Mo_init.2.2.2.2.2.2.1 f_Mo_init.2.2.2.2.2.2.2.1 f_Mo_init.2.2.2.2.2.2.2.2.1 f_Mo_init.2.2.2.2.2.2.2.2.2.1 f_Mo_init.2.2.2.2.2.2.2.2.2.2.1 f_Mo_init.2.2.2.2.2.2.2.2.2.2.2.1 f_Mo_init.2.2.2.2.2.2.2.2.2.2.2.2.1 f_Mo_init.2.2.2.2.2.2.2.2.2.2.2.2.2.1 f_Mo_init.2.2.2.2.2.2.2.2.2.2.2.2.2.2.1 f_Mo_init.2.2.2.2.2.2.2.2.2.2.2.2.2.2.2.1 f_Mo_init.2.2.2.2.2.2.2.2.2.2.2.2.2.2.2.2.1 f_Mo_init.2.2.2.2.2.2.2.2.2.2.2.2.2.2.2.2.2.1 f_Mo_init.2.2.2.2.2.2.2.2.2.2.2.2.2.2.2.2.2.2.1 f_Mo_init.2.2.2.2.2.2.2.2.2.2.2.2.2.2.2.2.2.2.2.1 := by
  obtain ⟨V, v1, v2, v3, v4⟩ := z_ci_39 56 0 f_Re_init rfl rfl (fun j hj => absurd hj (by omega))
  have hB : z_BdM (fun _ => 0) V.2.1.1 := by rw [v3]; exact z_bo_init
  obtain ⟨P, hP, E⟩ := z_tx0_eq
  have FC := z_findFault_eq (show 56 ≤ 100 by decide) v1 (z_ci_SgC v1 v2) z_sg0_hi hB
  rw [hP] at FC
  obtain ⟨W', RW, eC⟩ := FC
  have ef : z_fltN P = 0 := by
    have h1 : z_fltN (P.men, P.2) = z_fltN (z_P0.men, P.2) := z_fltN_congr P.2 (by rw [E.2]; decide) E.1
    have h2 : (z_P0.men, P.2) = z_P0 := by rw [E.2]; rfl
    rw [h2] at h1
    exact h1.trans z_P0_flt
  rw [ef] at eC
  have eI : f_Ch_init = f_Ch_init_r74 (nI 56) V (nI 0, W', nI 56) := by
    rw [← eC]
    unfold f_Ch_init
    exact v4
  have GB := z_gi_begin (P := z_P0) z_P0_val (by decide) (by decide) (g := f_Ga_init) (x := W') z_bo_init (E.rel RW) (pm := fun _ => 0) (p1 := fun _ => 0) (p2 := fun _ => 0) (p3 := fun _ => 0) (p4 := fun _ => 0) (p5 := fun _ => 0) (pt := fun _ => 0) (pl := fun _ => 0) (kM := fun _ => 0) (kR := fun _ => 0) rfl rfl
  have es : f_Li_shorten V.1.2 0 = nI 0 := by rw [v1]; decide
  rw [eI, z_mi_eq, f_Ch_init_r74, f_Ch_init_r89, f_Mo_init_r260]
  dsimp only
  rw [es]
  refine ⟨⟨0, by decide, rfl, rfl, fun j hj => absurd hj (by omega), fun j => ⟨0, by decide, rfl⟩⟩, ⟨P.men, RW.1⟩, ⟨0, by decide, rfl, rfl, fun j hj => absurd hj (by omega)⟩, GB⟩

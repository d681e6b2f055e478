def z_lineD (m : Int32) (d : Nat) : Bool := (decide (m &&& 7 = 4) && decide (d < 4)) || (decide (m &&& 7 = 3) && decide (4 ≤ d)) || decide (m &&& 7 = 5)
def z_fixd (m : Int32) (s t : Nat) : Bool := (decide (m &&& 7 = 1) && z_pnHit (decide (m < 8)) s t) || (decide (m &&& 7 = 2) && z_knHit s t) || (decide (m &&& 7 = 6) && z_kgHit s t)
set_option maxRecDepth 100000 in
theorem z_lnR_iff {e : Nat → Bool} {s t : Nat} (hs : s < 64) : z_lnR e s t = true ↔ ∃ d, d < 4 ∧ z_Sees e d s t := by
  simp only [z_lnR, Bool.or_eq_true, z_ry_iff (show 0 < 8 by decide) hs, z_ry_iff (show 1 < 8 by decide) hs, z_ry_iff (show 2 < 8 by decide) hs, z_ry_iff (show 3 < 8 by decide) hs]
  constructor
  · rintro (((h | h) | h) | h)
    · exact ⟨0, by decide, h⟩
    · exact ⟨1, by decide, h⟩
    · exact ⟨2, by decide, h⟩
    · exact ⟨3, by decide, h⟩
  · rintro ⟨d, hd, h⟩
    have : d = 0 ∨ d = 1 ∨ d = 2 ∨ d = 3 := by omega
    rcases this with rfl | rfl | rfl | rfl <;> simp [h]
set_option maxRecDepth 100000 in
theorem z_lnB_iff {e : Nat → Bool} {s t : Nat} (hs : s < 64) : z_lnB e s t = true ↔ ∃ d, d < 8 ∧ 4 ≤ d ∧ z_Sees e d s t := by
  simp only [z_lnB, Bool.or_eq_true, z_ry_iff (show 4 < 8 by decide) hs, z_ry_iff (show 5 < 8 by decide) hs, z_ry_iff (show 6 < 8 by decide) hs, z_ry_iff (show 7 < 8 by decide) hs]
  constructor
  · rintro (((h | h) | h) | h)
    · exact ⟨4, by decide, by decide, h⟩
    · exact ⟨5, by decide, by decide, h⟩
    · exact ⟨6, by decide, by decide, h⟩
    · exact ⟨7, by decide, by decide, h⟩
  · rintro ⟨d, hd, hd2, h⟩
    have : d = 4 ∨ d = 5 ∨ d = 6 ∨ d = 7 := by omega
    rcases this with rfl | rfl | rfl | rfl <;> simp [h]
set_option maxRecDepth 100000 in
theorem z_hits_iff {m : Int32} {e : Nat → Bool} {s t : Nat} (hs : s < 64) : z_hits m e s t = true ↔ z_fixd m s t = true ∨ ∃ d, d < 8 ∧ z_lineD m d = true ∧ z_Sees e d s t := by
  unfold z_hits z_fixd z_lineD
  generalize m &&& 7 = k
  by_cases c1 : k = 1
  · subst c1; simp
  by_cases c2 : k = 2
  · subst c2; simp
  by_cases c6 : k = 6
  · subst c6; simp
  by_cases c4 : k = 4
  · subst c4; simp
    rw [z_lnR_iff hs]
    exact ⟨fun ⟨d, h1, h2⟩ => ⟨d, by omega, h1, h2⟩, fun ⟨d, h1, h2, h3⟩ => ⟨d, h2, h3⟩⟩
  by_cases c3 : k = 3
  · subst c3; simp
    rw [z_lnB_iff hs]
  by_cases c5 : k = 5
  · subst c5; simp
    rw [z_lnR_iff hs, z_lnB_iff hs]
    constructor
    · rintro (⟨d, h1, h2⟩ | ⟨d, h1, h2, h3⟩)
      · exact ⟨d, by omega, h2⟩
      · exact ⟨d, h1, h3⟩
    · rintro ⟨d, h1, h2⟩
      rcases Nat.lt_or_ge d 4 with g | g
      · exact .inl ⟨d, g, h2⟩
      · exact .inr ⟨d, h1, g, h2⟩
  simp [c1, c2, c3, c4, c5, c6]
set_option maxRecDepth 100000 in
theorem z_hits_sub {m : Int32} {e e' : Nat → Bool} {s t : Nat} (hs : s < 64) (ht : t < 64) (h : ∀ d, d < 8 → z_Sees e d t s → z_Sees e' d t s) (g : z_hits m e s t = true) : z_hits m e' s t = true := by
  rw [z_hits_iff hs] at g ⊢
  rcases g with g | ⟨d, hd, h1, h2⟩
  · exact .inl g
  · refine .inr ⟨d, hd, h1, ?_⟩
    rw [z_Sees.comm hd hs ht] at h2 ⊢
    exact h _ (z_op_lt hd) h2
set_option maxRecDepth 100000 in
theorem z_own_cases {m : Int32} {s : Nat} (hs : s < 2) (hv : z_vm m = true) (h : z_isOf m (nI s) = true) : ∃ k, 1 ≤ k ∧ k ≤ 6 ∧ m = nI (k + 8 * s) := by
  have hs2 : s = 0 ∨ s = 1 := by omega
  have hv := z_vm_cases hv
  rcases hs2 with rfl | rfl
  · rcases hv with rfl | rfl | rfl | rfl | rfl | rfl | rfl | rfl | rfl | rfl | rfl | rfl | rfl
    all_goals first
      | exact absurd h (by decide)
      | exact ⟨1, by decide, by decide, rfl⟩
      | exact ⟨2, by decide, by decide, rfl⟩
      | exact ⟨3, by decide, by decide, rfl⟩
      | exact ⟨4, by decide, by decide, rfl⟩
      | exact ⟨5, by decide, by decide, rfl⟩
      | exact ⟨6, by decide, by decide, rfl⟩
  · rcases hv with rfl | rfl | rfl | rfl | rfl | rfl | rfl | rfl | rfl | rfl | rfl | rfl | rfl
    all_goals first
      | exact absurd h (by decide)
      | exact ⟨1, by decide, by decide, rfl⟩
      | exact ⟨2, by decide, by decide, rfl⟩
      | exact ⟨3, by decide, by decide, rfl⟩
      | exact ⟨4, by decide, by decide, rfl⟩
      | exact ⟨5, by decide, by decide, rfl⟩
      | exact ⟨6, by decide, by decide, rfl⟩
set_option maxRecDepth 100000 in
theorem z_nk_facts0 : ∀ k, k < 7 → 1 ≤ k → ∀ s, s < 2 → z_isOf (nI (k + 8 * s)) (nI s) = true ∧ z_isOf (nI (k + 8 * s)) (nI (1 - s)) = false ∧ nI (k + 8 * s) &&& 7 = nI k ∧ z_vm (nI (k + 8 * s)) = true ∧ nI (k + 8 * s) ≠ 0 := by decide
set_option maxRecDepth 100000 in
theorem z_nk_facts (k : Nat) (h1 : 1 ≤ k) (h2 : k ≤ 6) (s : Nat) (hs : s < 2) : z_isOf (nI (k + 8 * s)) (nI s) = true ∧ z_isOf (nI (k + 8 * s)) (nI (1 - s)) = false ∧ nI (k + 8 * s) &&& 7 = nI k ∧ z_vm (nI (k + 8 * s)) = true ∧ nI (k + 8 * s) ≠ 0 := z_nk_facts0 k (by omega) h1 s hs
set_option maxRecDepth 100000 in
theorem z_isOf_0 (s : Int32) : z_isOf 0 s = false := rfl
set_option maxRecDepth 100000 in
theorem z_isOf_ne {m s : Int32} (h : z_isOf m s = true) : m ≠ 0 := by
  intro e; rw [e, z_isOf_0] at h; cases h
set_option maxRecDepth 100000 in
theorem z_isOf_other {m : Int32} {s : Nat} (hs : s < 2) (hv : z_vm m = true) (h : z_isOf m (nI s) = true) : z_isOf m (nI (1 - s)) = false := by
  obtain ⟨k, h1, h2, rfl⟩ := z_own_cases hs hv h
  exact (z_nk_facts k h1 h2 s hs).2.1
def z_tkSq (P : z_Pos) (fr to : Nat) : Nat := if P.men fr &&& 7 = 1 ∧ to = P.passed then (if P.side = 0 then to - 8 else to + 8) else to
set_option maxRecDepth 100000 in
theorem z_pn_geo : ((List.range 64).all (fun q => (List.range 64).all (fun t => (!z_pnHit true q t || (decide (8 ≤ t) && decide (8 * (q / 8) + t % 8 = t - 8) && decide (q % 8 ≠ t % 8))) && (!z_pnHit false q t || (decide (t < 56) && decide (8 * (q / 8) + t % 8 = t + 8) && decide (q % 8 ≠ t % 8)))))) = true := by decide +kernel
set_option maxRecDepth 100000 in
theorem z_kg_geo : ((List.range 64).all (fun q => (List.range 64).all (fun t => !z_kgHit q t || (decide (t ≠ q + 2) && decide (q ≠ t + 2) && decide (q ≠ t))))) = true := by decide +kernel
set_option maxRecDepth 100000 in
theorem z_hit_ne : ((List.range 64).all (fun q => (List.range 64).all (fun t => (!z_pnHit true q t || decide (q ≠ t)) && (!z_pnHit false q t || decide (q ≠ t)) && (!z_knHit q t || decide (q ≠ t))))) = true := by decide +kernel
set_option maxRecDepth 100000 in
theorem z_it_ne0 : ∀ d, d < 8 → ∀ q, q < 64 → ∀ k, k < 8 → 0 < k → z_it d k q ≠ q := by decide +kernel
set_option maxRecDepth 100000 in
theorem z_hits_ne {m : Int32} {e : Nat → Bool} {s t : Nat} (hs : s < 64) (ht : t < 64) (h : z_hits m e s t = true) : s ≠ t := by
  rw [z_hits_iff hs] at h
  rcases h with h | ⟨d, hd, -, k, h1, h2, h3, -⟩
  · have a := z_all2 z_hit_ne hs ht
    have b := z_all2 z_kg_geo hs ht
    simp only [z_fixd, Bool.and_eq_true, Bool.or_eq_true, decide_eq_true_eq, Bool.not_eq_true'] at h a b
    rintro rfl
    rcases h with (⟨-, h⟩ | ⟨-, h⟩) | ⟨-, h⟩
    · revert h; cases decide (m < 8) <;> intro h <;> simp [h] at a
    · simp [h] at a
    · simp [h] at b
  · rintro rfl
    have := z_it_k_le (k := k) hd hs (by omega)
    exact z_it_ne0 d hd s hs k (by omega) (by omega) h2
set_option maxRecDepth 100000 in
theorem z_pn_own {P : z_Pos} (V : z_Val P) {fr to : Nat} (hf : fr < 64) (ht : to < 64) (ho : z_isOf (P.men fr) (nI P.side) = true) (hg : z_goalsB P fr to = true) (h1 : P.men fr &&& 7 = 1) : P.men fr = nI (1 + 8 * P.side) := by
  obtain ⟨k, k1, k2, e⟩ := z_own_cases V.hs (V.hv fr hf) ho
  have := (z_nk_facts k k1 k2 P.side V.hs).2.2.1
  rw [← e, h1] at this
  have h := (z_nI_inj (a := 1) (b := k) (by omega) (by omega)).mp this
  rw [e, ← h]
set_option maxRecDepth 100000 in
theorem z_kg_own {P : z_Pos} (V : z_Val P) {fr to : Nat} (hf : fr < 64) (ht : to < 64) (ho : z_isOf (P.men fr) (nI P.side) = true) (hg : z_goalsB P fr to = true) (h1 : P.men fr &&& 7 = 6) : P.men fr = nI (6 + 8 * P.side) := by
  obtain ⟨k, k1, k2, e⟩ := z_own_cases V.hs (V.hv fr hf) ho
  have := (z_nk_facts k k1 k2 P.side V.hs).2.2.1
  rw [← e, h1] at this
  have h := (z_nI_inj (a := 6) (b := k) (by omega) (by omega)).mp this
  rw [e, ← h]
set_option maxRecDepth 100000 in
theorem z_ep_hit {P : z_Pos} (V : z_Val P) {fr to : Nat} (hf : fr < 64) (ht : to < 64) (ho : z_isOf (P.men fr) (nI P.side) = true) (hg : z_goalsB P fr to = true) (h1 : P.men fr &&& 7 = 1) (h2 : to = P.passed) : z_pnHit (decide (P.side = 0)) fr to = true := by
  have hs := V.hs
  rw [z_goalsB, if_pos h1, z_pawnG, Bool.or_eq_true] at hg
  rcases hg with g | g
  · exfalso
    obtain ⟨p0, p1, p2, -⟩ := V.pp (by omega)
    rw [Bool.and_eq_true, Bool.and_eq_true, Bool.or_eq_true, decide_eq_true_eq, decide_eq_true_eq, Bool.and_eq_true, Bool.and_eq_true, decide_eq_true_eq, decide_eq_true_eq] at g
    obtain ⟨⟨z_g1, z_g2⟩, z_g3⟩ := g
    have hs2 : P.side = 0 ∨ P.side = 1 := by omega
    have geo : ∀ s, s < 2 → ∀ q, q < 64 → z_nx (z_upd8 s) q < 64 → (z_nx (z_upd8 s) q = if s = 0 then q + 8 else q - 8) ∧ (s = 1 → 8 ≤ q) := by decide +kernel
    have gq := geo P.side hs fr hf z_g1
    rcases z_g3 with z_g3 | ⟨⟨z_g3, g4⟩, g5⟩
    · have e : (if P.side = 0 then P.passed - 8 else P.passed + 8) = fr := by
        rw [← h2, z_g3, gq.1]; rcases hs2 with h | h
        · simp [h]
        · have := gq.2 h; simp [h]; omega
      rw [e] at p2
      rw [p2] at ho
      have := (z_nk_facts 1 (by decide) (by decide) (1 - P.side) (by omega)).2.1
      rw [show 1 - (1 - P.side) = P.side by omega] at this
      rw [this] at ho; cases ho
    · have gq2 := geo P.side hs _ z_g1 (by rw [← g4]; exact ht)
      rw [← g4, gq.1] at gq2
      have := gq2.1
      rcases hs2 with h | h
      · simp [h] at this z_g3 p1; omega
      · have h9 := gq.2 h; simp [h] at this z_g3 p1; omega
  · exact (Bool.and_eq_true _ _ ▸ g).1
set_option maxRecDepth 100000 in
theorem z_ep_facts {P : z_Pos} (V : z_Val P) {fr to : Nat} (hf : fr < 64) (ht : to < 64) (ho : z_isOf (P.men fr) (nI P.side) = true) (hg : z_goalsB P fr to = true) (h1 : P.men fr &&& 7 = 1) (h2 : to = P.passed) :
    z_isEp (P.men fr) P.passed fr to ∧ z_tkSq P fr to = 8 * (fr / 8) + to % 8 ∧ z_tkSq P fr to < 64 ∧ z_tkSq P fr to ≠ fr ∧ z_tkSq P fr to ≠ to ∧ P.men (z_tkSq P fr to) = nI (1 + 8 * (1 - P.side)) ∧ P.men to = 0 := by
  have hs := V.hs
  have hh := z_ep_hit V hf ht ho hg h1 h2
  have geo := z_all2 z_pn_geo hf ht
  obtain ⟨p0, p1, p2, -⟩ := V.pp (by omega)
  rw [← h2] at p0 p2
  have hs2 : P.side = 0 ∨ P.side = 1 := by omega
  have htk : z_tkSq P fr to = if P.side = 0 then to - 8 else to + 8 := by rw [z_tkSq, if_pos ⟨h1, h2⟩]
  rw [← htk] at p2
  have hne : z_tkSq P fr to ≠ fr := by
    intro e; rw [e] at p2; rw [p2] at ho
    have := (z_nk_facts 1 (by decide) (by decide) (1 - P.side) (by omega)).2.1
    rw [show 1 - (1 - P.side) = P.side by omega] at this
    rw [this] at ho; cases ho
  rcases hs2 with h | h
  · rw [h] at hh htk; simp only [decide_true] at hh; simp [hh] at geo
    simp only [if_true] at htk
    exact ⟨⟨h1, h2, geo.1.2⟩, by omega, by omega, hne, by omega, p2, p0⟩
  · rw [h] at hh htk; simp at hh; simp [hh] at geo
    simp at htk
    exact ⟨⟨h1, h2, geo.2.2⟩, by omega, by omega, hne, by omega, p2, p0⟩
set_option maxRecDepth 100000 in
theorem z_tk_other {P : z_Pos} (V : z_Val P) {fr to : Nat} (hf : fr < 64) (ht : to < 64) (ho : z_isOf (P.men fr) (nI P.side) = true) (hg : z_goalsB P fr to = true) (h : ¬ (P.men fr &&& 7 = 1 ∧ to = P.passed)) : z_tkSq P fr to = to ∧ ¬ z_isEp (P.men fr) P.passed fr to :=
  ⟨by rw [z_tkSq, if_neg h], fun g => h ⟨g.1, g.2.1⟩⟩
set_option maxRecDepth 100000 in
theorem z_ca_cast {P : z_Pos} (V : z_Val P) {fr to : Nat} (hf : fr < 64) (ht : to < 64) (ho : z_isOf (P.men fr) (nI P.side) = true) (hg : z_goalsB P fr to = true) (h : z_isCa (P.men fr) fr to) : z_castB P fr to = true := by
  have h1 : ¬ P.men fr &&& 7 = 1 := by rw [h.1]; decide
  rw [z_goalsB, if_neg h1, Bool.or_eq_true] at hg
  rcases hg with g | g
  · exfalso
    rw [Bool.and_eq_true, z_hits, if_neg h1, if_neg (by rw [h.1]; decide), if_pos h.1] at g
    have := z_all2 z_kg_geo hf ht
    simp [g.1] at this
    rcases h.2 with e | e <;> omega
  · exact g
set_option maxRecDepth 100000 in
theorem z_ca_facts {P : z_Pos} (V : z_Val P) {fr to : Nat} (hf : fr < 64) (ht : to < 64) (ho : z_isOf (P.men fr) (nI P.side) = true) (hg : z_goalsB P fr to = true) (h : z_isCa (P.men fr) fr to) : fr = z_home P.side ∧ P.men fr = nI (6 + 8 * P.side) ∧ P.men (z_corner fr to) = nI (4 + 8 * P.side) ∧ z_fre P.men ((fr + to) / 2) = true ∧ z_fre P.men to = true ∧
    z_atk P.men (1 - P.side) fr = false ∧ z_atk P.men (1 - P.side) ((fr + to) / 2) = false ∧ z_isK P.men P.side fr ∧ z_corner fr to = 56 * P.side + (if fr < to then 7 else 0) := by
  have hs := V.hs
  have hc := z_ca_cast V hf ht ho hg h
  simp only [z_castB, Bool.and_eq_true, Bool.or_eq_true, decide_eq_true_eq] at hc
  obtain ⟨⟨c6, ch⟩, hc⟩ := hc
  have hh : z_home P.side < 61 ∧ 4 ≤ z_home P.side := by unfold z_home; omega
  rcases hc with ⟨hm, e⟩ | ⟨hm, e⟩
  · simp only [z_mayC, Bool.and_eq_true, if_true, Bool.not_eq_true', Nat.add_zero] at hm
    obtain ⟨⟨⟨m1, m2, m3⟩, m4⟩, m5⟩ := hm
    have hk := z_isK_home V hs (w := 0) (by decide) m1
    have rk := V.rk P.side hs 0 (by decide) m1
    simp only [if_true] at rk
    have e1 : z_corner fr to = 56 * P.side + 7 := by unfold z_corner; rw [if_neg (by omega), ch]; unfold z_home; omega
    have e2 : (fr + to) / 2 = z_home P.side + 1 := by omega
    rw [e2, e1, if_pos (by omega)]
    exact ⟨ch, by rw [ch]; exact rk.1, rk.2, m2, by rw [e, ch]; exact m3, by rw [ch]; exact m4, m5, by rw [ch]; exact hk, rfl⟩
  · simp only [z_mayC, Bool.and_eq_true, Bool.false_eq_true, if_false, Bool.not_eq_true'] at hm
    obtain ⟨⟨⟨m1, ⟨m2, m3⟩, m4⟩, m5⟩, m6⟩ := hm
    have hk := z_isK_home V hs (w := 1) (by decide) m1
    have rk := V.rk P.side hs 1 (by decide) m1
    simp at rk
    have e1 : z_corner fr to = 56 * P.side + 0 := by unfold z_corner; rw [if_pos (by omega), ch]; unfold z_home; omega
    have e2 : (fr + to) / 2 = z_home P.side - 1 := by omega
    have e3 : to = z_home P.side - 2 := by omega
    rw [e2, e1, if_neg (by omega)]
    exact ⟨ch, by rw [ch]; exact rk.1, rk.2, m4, by rw [e3]; exact m3, by rw [ch]; exact m5, m6, by rw [ch]; exact hk, rfl⟩
set_option maxRecDepth 100000 in
theorem z_to_free_or {P : z_Pos} (V : z_Val P) {fr to : Nat} (hf : fr < 64) (ht : to < 64) (ho : z_isOf (P.men fr) (nI P.side) = true) (hg : z_goalsB P fr to = true) (h : ¬ z_castB P fr to = true) : P.men to = 0 ∨ (z_isOf (P.men to) (nI P.side) = false ∧ z_hits (P.men fr) (z_fre P.men) fr to = true) := by
  by_cases h1 : P.men fr &&& 7 = 1
  · have hg' := hg
    rw [z_goalsB, if_pos h1, z_pawnG, Bool.or_eq_true] at hg'
    rcases hg' with g | g
    · left
      simp only [Bool.and_eq_true, Bool.or_eq_true, decide_eq_true_eq, z_fre] at g
      rcases g.2 with e | e
      · rw [e]; exact g.1.2
      · exact e.2
    · by_cases hp : to = P.passed
      · left; rw [hp]; exact (V.pp (by omega)).1
      · right
        simp only [Bool.and_eq_true, Bool.or_eq_true, decide_eq_true_eq, hp, or_false] at g
        have hs := V.hs
        have := z_isOf_other (s := 1 - P.side) (by omega) (V.hv to ht) g.2
        rw [show 1 - (1 - P.side) = P.side by omega] at this
        refine ⟨this, ?_⟩
        rw [z_pn_own V hf ht ho hg h1, z_hits]
        have hs2 : P.side = 0 ∨ P.side = 1 := by omega
        rcases hs2 with e | e
        · rw [e] at g ⊢; rw [if_pos (by decide)]; exact g.1
        · rw [e] at g ⊢; rw [if_pos (by decide)]; exact g.1
  · right
    rw [z_goalsB, if_neg h1, Bool.or_eq_true, Bool.and_eq_true] at hg
    rcases hg with g | g
    · exact ⟨by simpa using g.2, g.1⟩
    · exact absurd g h
set_option maxRecDepth 100000 in
theorem z_to_not_own {P : z_Pos} (V : z_Val P) {fr to : Nat} (hf : fr < 64) (ht : to < 64) (ho : z_isOf (P.men fr) (nI P.side) = true) (hg : z_goalsB P fr to = true) : z_isOf (P.men to) (nI P.side) = false := by
  by_cases h : z_castB P fr to = true
  · have : z_fre P.men to = true := by
      have hc := h
      simp only [z_castB, Bool.and_eq_true, Bool.or_eq_true, decide_eq_true_eq] at hc
      have : z_isCa (P.men fr) fr to := ⟨hc.1.1, by rcases hc.2 with e | e; exact .inl e.2; exact .inr e.2.symm⟩
      exact (z_ca_facts V hf ht ho hg this).2.2.2.2.1
    rw [z_fre, decide_eq_true_eq] at this
    rw [this]; rfl
  · rcases z_to_free_or V hf ht ho hg h with e | e
    · rw [e]; rfl
    · exact e.1
set_option maxRecDepth 100000 in
theorem z_fr_ne_to {P : z_Pos} (V : z_Val P) {fr to : Nat} (hf : fr < 64) (ht : to < 64) (ho : z_isOf (P.men fr) (nI P.side) = true) (hg : z_goalsB P fr to = true) : fr ≠ to := by
  intro e; have := z_to_not_own V hf ht ho hg; rw [← e, ho] at this; cases this
set_option maxRecDepth 100000 in
theorem z_to_not_king {P : z_Pos} (V : z_Val P) {fr to : Nat} (hf : fr < 64) (ht : to < 64) (ho : z_isOf (P.men fr) (nI P.side) = true) (hg : z_goalsB P fr to = true) : P.men to ≠ nI (6 + 8 * (1 - P.side)) := by
  intro e
  have hs := V.hs
  obtain ⟨k, hk⟩ := V.hk (1 - P.side) (by omega)
  have hkk := (hk.2 to ht).mp e
  by_cases h : z_castB P fr to = true
  · have hc := h
    simp only [z_castB, Bool.and_eq_true, Bool.or_eq_true, decide_eq_true_eq] at hc
    have hca : z_isCa (P.men fr) fr to := ⟨hc.1.1, by rcases hc.2 with e | e; exact .inl e.2; exact .inr e.2.symm⟩
    have := (z_ca_facts V hf ht ho hg hca).2.2.2.2.1
    rw [z_fre, decide_eq_true_eq, e] at this
    exact (z_nk_facts 6 (by decide) (by decide) (1 - P.side) (by omega)).2.2.2.2 this
  · rcases z_to_free_or V hf ht ho hg h with g | g
    · rw [e] at g; exact (z_nk_facts 6 (by decide) (by decide) (1 - P.side) (by omega)).2.2.2.2 g
    · have := V.sf k hk
      rw [← Bool.not_eq_true, z_atk_iff] at this
      exact this ⟨fr, hf, ho, by rw [← hkk]; exact g.2⟩
def z_dirOf (s t : Nat) : Nat := if t % 8 > s % 8 then (if t / 8 > s / 8 then 4 else if t / 8 = s / 8 then 0 else 6) else if t % 8 = s % 8 then (if t / 8 > s / 8 then 2 else 3) else (if t / 8 > s / 8 then 5 else if t / 8 = s / 8 then 1 else 7)
set_option maxRecDepth 100000 in
theorem z_dirOf_it0 : ((List.range 8).all (fun d => (List.range 64).all (fun q => (List.range 8).all (fun k => decide (k = 0) || !decide (z_it d k q < 64) || decide (z_dirOf q (z_it d k q) = d))))) = true := by decide +kernel
set_option maxRecDepth 100000 in
theorem z_dirOf_it {d q k : Nat} (hd : d < 8) (hq : q < 64) (h0 : 0 < k) (h : z_it d k q < 64) : z_dirOf q (z_it d k q) = d := by
  have hk := z_it_k_le (k := k) hd hq h
  have := List.all_eq_true.mp (List.all_eq_true.mp (List.all_eq_true.mp z_dirOf_it0 d (List.mem_range.mpr hd)) q (List.mem_range.mpr hq)) k (List.mem_range.mpr (by omega))
  simpa [h, show k ≠ 0 by omega] using this
set_option maxRecDepth 100000 in
theorem z_corner_end : ∀ s, s < 2 → ∀ d, d < 8 → ∀ i, i < 8 → (z_it d i (56 * s + 6) = 56 * s + 7 → z_it d (i + 1) (56 * s + 6) = 64) ∧ (z_it d i (56 * s + 2) = 56 * s → z_it d (i + 1) (56 * s + 2) = 64) := by decide +kernel
set_option maxRecDepth 100000 in
theorem z_mid_way0 : ((List.range 2).all (fun s => (List.range 8).all (fun d => (List.range 8).all (fun i => decide (i = 0) || ((!decide (z_it d i (56 * s + 6) = 56 * s + 5) || (decide (i = 1) && decide (d = 1))) && (!decide (z_it d i (56 * s + 2) = 56 * s + 3) || (decide (i = 1) && decide (d = 0)))))))) = true := by decide +kernel
set_option maxRecDepth 100000 in
theorem z_all3 {A B C : Nat} {P : Nat → Nat → Nat → Bool} (h : ((List.range A).all (fun a => (List.range B).all (fun b => (List.range C).all (fun c => P a b c)))) = true) {a b c : Nat} (ha : a < A) (hb : b < B) (hc : c < C) : P a b c = true :=
  List.all_eq_true.mp (List.all_eq_true.mp (List.all_eq_true.mp h a (List.mem_range.mpr ha)) b (List.mem_range.mpr hb)) c (List.mem_range.mpr hc)
set_option maxRecDepth 100000 in
theorem z_mid_way {s d i : Nat} (hs : s < 2) (hd : d < 8) (hi : i < 8) (h0 : 0 < i) : (z_it d i (56 * s + 6) = 56 * s + 5 → i = 1 ∧ d = 1) ∧ (z_it d i (56 * s + 2) = 56 * s + 3 → i = 1 ∧ d = 0) := by
  have := z_all3 z_mid_way0 hs hd hi
  simp only [Bool.or_eq_true, Bool.and_eq_true, decide_eq_true_eq, Bool.not_eq_true', decide_eq_false_iff_not, show i ≠ 0 by omega, false_or] at this
  exact ⟨fun h => by rcases this.1 with g | g; exact absurd h g; exact g, fun h => by rcases this.2 with g | g; exact absurd h g; exact g⟩
def z_noFix (s t : Nat) : Bool := !z_pnHit true s t && !z_pnHit false s t && !z_knHit s t && !z_kgHit s t
set_option maxRecDepth 100000 in
theorem z_far0 : ((List.range 8).all (fun d => (List.range 64).all (fun q => (List.range 8).all (fun k => decide (k < 3) || !decide (z_it d k q < 64) || z_noFix (z_it d k q) q)))) = true := by decide +kernel
set_option maxRecDepth 100000 in
theorem z_far {d q k : Nat} (hd : d < 8) (hq : q < 64) (h0 : 3 ≤ k) (h : z_it d k q < 64) : z_noFix (z_it d k q) q = true := by
  have hk := z_it_k_le (k := k) hd hq h
  have := z_all3 z_far0 hd hq (show k < 8 by omega)
  simpa [h, show ¬ k < 3 by omega] using this
def z_okp (P : z_Pos) (fr pr : Nat) : Prop := pr = 0 ∨ (2 ≤ pr ∧ pr ≤ 5 ∧ P.men fr &&& 7 = 1)
def z_newM (P : z_Pos) (fr pr : Nat) : Int32 := if pr = 0 then P.men fr else nI (pr + 8 * P.side)
def z_tE (P : z_Pos) (fr to q : Nat) : Bool := (z_fre P.men q || decide (q = fr) || decide (q = z_tkSq P fr to)) && !decide (q = to)
set_option maxRecDepth 100000 in
theorem z_newM_own {P : z_Pos} (V : z_Val P) {fr to pr : Nat} (hf : fr < 64) (ht : to < 64) (ho : z_isOf (P.men fr) (nI P.side) = true) (hg : z_goalsB P fr to = true) (hpr : z_okp P fr pr) : ∃ k, 1 ≤ k ∧ k ≤ 6 ∧ z_newM P fr pr = nI (k + 8 * P.side) ∧ (P.men fr &&& 7 ≠ 6 → k ≠ 6) ∧ (P.men fr &&& 7 = 6 → k = 6) := by
  unfold z_newM
  rcases hpr with h | ⟨h1, h2, h3⟩
  · rw [if_pos h]
    obtain ⟨k, k1, k2, e⟩ := z_own_cases V.hs (V.hv fr hf) ho
    have := (z_nk_facts k k1 k2 P.side V.hs).2.2.1
    refine ⟨k, k1, k2, e, ?_, ?_⟩
    · intro g; rw [e, this] at g; rintro rfl; exact g rfl
    · intro g; rw [e, this] at g; exact (z_nI_inj (a := k) (b := 6) (by omega) (by omega)).mp g
  · rw [if_neg (by omega)]
    refine ⟨pr, by omega, by omega, rfl, fun _ => by omega, fun g => ?_⟩
    rw [h3] at g; exact absurd g (by decide)
set_option maxRecDepth 100000 in
theorem z_mk_plain {P : z_Pos} (V : z_Val P) {fr to pr : Nat} (hf : fr < 64) (ht : to < 64) (ho : z_isOf (P.men fr) (nI P.side) = true) (hg : z_goalsB P fr to = true) (hpr : z_okp P fr pr) (hn : ¬ z_isCa (P.men fr) fr to) (q : Nat) :
    z_mkMen P.men P.side P.passed fr to pr q = if q = fr then 0 else if q = to then z_newM P fr pr else if q = z_tkSq P fr to then 0 else P.men q := by
  unfold z_mkMen
  simp only [if_neg hn]
  rw [show (if pr = 0 then P.men fr else nI (pr + 8 * P.side)) = z_newM P fr pr from rfl]
  unfold upd
  by_cases c1 : q = fr
  · rw [if_pos c1, if_pos c1]
  rw [if_neg c1, if_neg c1]
  by_cases c2 : q = to
  · rw [if_pos c2, if_pos c2]
  rw [if_neg c2, if_neg c2]
  by_cases h : P.men fr &&& 7 = 1 ∧ to = P.passed
  · obtain ⟨e1, e2, -⟩ := z_ep_facts V hf ht ho hg h.1 h.2
    rw [if_pos e1, e2]
  · obtain ⟨e1, e2⟩ := z_tk_other V hf ht ho hg h
    rw [if_neg e2, e1, if_neg c2]
set_option maxRecDepth 100000 in
theorem z_mk_ca {P : z_Pos} (V : z_Val P) {fr to pr : Nat} (hf : fr < 64) (ht : to < 64) (ho : z_isOf (P.men fr) (nI P.side) = true) (hg : z_goalsB P fr to = true) (hpr : z_okp P fr pr) (hc : z_isCa (P.men fr) fr to) (q : Nat) :
    z_mkMen P.men P.side P.passed fr to pr q = if q = fr then 0 else if q = to then z_newM P fr pr else if q = z_corner fr to then 0 else if q = (fr + to) / 2 then nI (4 + 8 * P.side) else P.men q := by
  unfold z_mkMen
  have he : ¬ z_isEp (P.men fr) P.passed fr to := fun g => by have := g.1; rw [hc.1] at this; exact absurd this (by decide)
  simp only [if_pos hc, if_neg he]
  rw [show (if pr = 0 then P.men fr else nI (pr + 8 * P.side)) = z_newM P fr pr from rfl, (z_ca_facts V hf ht ho hg hc).2.2.1]
  rfl
set_option maxRecDepth 100000 in
theorem z_ca_geo {P : z_Pos} (V : z_Val P) {fr to pr : Nat} (hf : fr < 64) (ht : to < 64) (ho : z_isOf (P.men fr) (nI P.side) = true) (hg : z_goalsB P fr to = true) (hpr : z_okp P fr pr) (hc : z_isCa (P.men fr) fr to) : z_corner fr to < 64 ∧ z_corner fr to ≠ fr ∧ z_corner fr to ≠ to ∧ (fr + to) / 2 ≠ fr ∧ (fr + to) / 2 ≠ to ∧ (fr + to) / 2 < 64 ∧ z_corner fr to ≠ (fr + to) / 2 ∧ z_tkSq P fr to = to ∧ 4 ≤ fr ∧ fr + 3 < 64 := by
  obtain ⟨f1, -, -, -, -, -, -, -, f9⟩ := z_ca_facts V hf ht ho hg hc
  have hs := V.hs
  have h1 : z_tkSq P fr to = to := by
    apply (z_tk_other V hf ht ho hg _).1
    intro g; have := g.1; rw [hc.1] at this; exact absurd this (by decide)
  unfold z_home at f1
  rw [f9]
  rcases hc.2 with e | e <;> split <;> refine ⟨?_, ?_, ?_, ?_, ?_, ?_, ?_, h1, ?_, ?_⟩ <;> omega
def z_nK (P : z_Pos) (fr to k : Nat) : Nat := if P.men fr &&& 7 = 6 then to else k
set_option maxRecDepth 100000 in
theorem z_isK_own {P : z_Pos} (V : z_Val P) {fr to pr : Nat} (hf : fr < 64) (ht : to < 64) (ho : z_isOf (P.men fr) (nI P.side) = true) (hg : z_goalsB P fr to = true) (hpr : z_okp P fr pr) {k : Nat} (hk : z_isK P.men P.side k) : z_isK (z_mkMen P.men P.side P.passed fr to pr) P.side (z_nK P fr to k) := by
  have hs := V.hs
  obtain ⟨j, j1, j2, jn, j3, j4⟩ := z_newM_own V hf ht ho hg hpr
  have K0 := (z_nk_facts 6 (by decide) (by decide) P.side hs).2.2.2.2
  have hne := z_fr_ne_to V hf ht ho hg
  have hto := z_to_not_own V hf ht ho hg
  have own6 := (z_nk_facts 6 (by decide) (by decide) P.side hs).1
  have hkto : k ≠ to := fun e => by
    rw [(hk.2 to ht).mpr e.symm, own6] at hto; cases hto
  have hN : z_newM P fr pr = nI (6 + 8 * P.side) ↔ P.men fr &&& 7 = 6 := by
    constructor
    · intro h; rw [jn] at h
      have := (z_nI_inj (by omega) (by omega)).mp h
      rcases Decidable.em (P.men fr &&& 7 = 6) with g | g
      · exact g
      · have := j3 g; omega
    · intro h; rw [jn, j4 h]
  have hfr : P.men fr = nI (6 + 8 * P.side) ↔ P.men fr &&& 7 = 6 := by
    constructor
    · intro h; rw [h]; exact (z_nk_facts 6 (by decide) (by decide) P.side hs).2.2.1
    · exact z_kg_own V hf ht ho hg
  have hkf : P.men fr &&& 7 = 6 ↔ fr = k := by rw [← hfr]; exact hk.2 fr hf
  refine ⟨by unfold z_nK; split; exact ht; exact hk.1, ?_⟩
  intro q hq
  unfold z_nK
  by_cases hca : z_isCa (P.men fr) fr to
  · obtain ⟨z_g1, z_g2, z_g3, g4, g5, g6, g7, -⟩ := z_ca_geo V hf ht ho hg hpr hca
    obtain ⟨-, -, f3, f4, -⟩ := z_ca_facts V hf ht ho hg hca
    rw [z_mk_ca V hf ht ho hg hpr hca, if_pos hca.1]
    have fk := hkf.mp hca.1
    by_cases c1 : q = fr
    · rw [if_pos c1]; exact ⟨fun h => absurd h.symm K0, fun h => absurd (c1.symm.trans h) hne⟩
    rw [if_neg c1]
    by_cases c2 : q = to
    · rw [if_pos c2, hN]; exact ⟨fun _ => c2, fun _ => hca.1⟩
    rw [if_neg c2]
    by_cases c3 : q = z_corner fr to
    · rw [if_pos c3]; exact ⟨fun h => absurd h.symm K0, fun h => absurd h c2⟩
    rw [if_neg c3]
    by_cases c4 : q = (fr + to) / 2
    · rw [if_pos c4]
      exact ⟨fun h => by have := (z_nI_inj (by omega) (by omega)).mp h; omega, fun h => absurd h c2⟩
    rw [if_neg c4, hk.2 q hq, ← fk]
    exact ⟨fun h => absurd h c1, fun h => absurd h c2⟩
  · rw [z_mk_plain V hf ht ho hg hpr hca]
    by_cases c1 : q = fr
    · rw [if_pos c1]
      refine ⟨fun h => absurd h.symm K0, fun h => ?_⟩
      by_cases c6 : P.men fr &&& 7 = 6
      · rw [if_pos c6] at h; exact absurd (c1.symm.trans h) hne
      · rw [if_neg c6] at h; exact absurd (hkf.mpr (c1.symm.trans h)) c6
    rw [if_neg c1]
    by_cases c2 : q = to
    · rw [if_pos c2, hN]
      constructor
      · intro h; rw [if_pos h]; exact c2
      · intro h; by_cases c6 : P.men fr &&& 7 = 6
        · exact c6
        · rw [if_neg c6] at h; exact absurd (h.symm.trans c2) hkto
    rw [if_neg c2]
    by_cases c3 : q = z_tkSq P fr to
    · rw [if_pos c3]
      refine ⟨fun h => absurd h.symm K0, fun h => ?_⟩
      by_cases c6 : P.men fr &&& 7 = 6
      · rw [if_pos c6] at h; exact absurd h c2
      · rw [if_neg c6] at h
        exfalso
        by_cases he : P.men fr &&& 7 = 1 ∧ to = P.passed
        · have := (z_ep_facts V hf ht ho hg he.1 he.2).2.2.2.2.2.1
          rw [← c3, (hk.2 q hq).mpr h] at this
          have := (z_nI_inj (by omega) (by omega)).mp this
          omega
        · rw [(z_tk_other V hf ht ho hg he).1] at c3; exact c2 c3
    rw [if_neg c3, hk.2 q hq]
    by_cases c6 : P.men fr &&& 7 = 6
    · rw [if_pos c6, ← hkf.mp c6]; exact ⟨fun h => absurd h c1, fun h => absurd h c2⟩
    · rw [if_neg c6]
set_option maxRecDepth 100000 in
theorem z_newM_enemy {P : z_Pos} (V : z_Val P) {fr to pr : Nat} (hf : fr < 64) (ht : to < 64) (ho : z_isOf (P.men fr) (nI P.side) = true) (hg : z_goalsB P fr to = true) (hpr : z_okp P fr pr) : z_isOf (z_newM P fr pr) (nI (1 - P.side)) = false ∧ z_isOf (z_newM P fr pr) (nI P.side) = true ∧ z_newM P fr pr ≠ 0 ∧ z_vm (z_newM P fr pr) = true := by
  obtain ⟨j, j1, j2, jn, -⟩ := z_newM_own V hf ht ho hg hpr
  have := z_nk_facts j j1 j2 P.side V.hs
  rw [jn]; exact ⟨this.2.1, this.1, this.2.2.2.2, this.2.2.2.1⟩
set_option maxRecDepth 100000 in
theorem z_enemy_eq {P : z_Pos} (V : z_Val P) {fr to pr : Nat} (hf : fr < 64) (ht : to < 64) (ho : z_isOf (P.men fr) (nI P.side) = true) (hg : z_goalsB P fr to = true) (hpr : z_okp P fr pr) {q : Nat} (hq : q < 64) : z_isOf (z_mkMen P.men P.side P.passed fr to pr q) (nI (1 - P.side)) = (z_isOf (P.men q) (nI (1 - P.side)) && !decide (q = z_tkSq P fr to)) ∧
    (z_isOf (P.men q) (nI (1 - P.side)) = true → q ≠ z_tkSq P fr to → z_mkMen P.men P.side P.passed fr to pr q = P.men q) := by
  have hs := V.hs
  have n1 := (z_newM_enemy V hf ht ho hg hpr).1
  have of := z_isOf_other hs (V.hv fr hf) ho
  by_cases hca : z_isCa (P.men fr) fr to
  · obtain ⟨z_g1, z_g2, z_g3, g4, g5, g6, g7, g8, -⟩ := z_ca_geo V hf ht ho hg hpr hca
    obtain ⟨-, -, f3, f4, f5, -⟩ := z_ca_facts V hf ht ho hg hca
    have rk := z_nk_facts 4 (by decide) (by decide) P.side hs
    rw [z_fre, decide_eq_true_eq] at f4 f5
    rw [z_mk_ca V hf ht ho hg hpr hca, g8]
    by_cases c1 : q = fr
    · subst c1; rw [if_pos rfl, of]; exact ⟨rfl, fun h => by cases h⟩
    rw [if_neg c1]
    by_cases c2 : q = to
    · subst c2; rw [if_pos rfl, n1, f5]; exact ⟨rfl, fun h => by cases h⟩
    rw [if_neg c2]
    by_cases c3 : q = z_corner fr to
    · subst c3; rw [if_pos rfl, f3, rk.2.1]; exact ⟨rfl, fun h => by cases h⟩
    rw [if_neg c3]
    by_cases c4 : q = (fr + to) / 2
    · subst c4; rw [if_pos rfl, f4, rk.2.1]; exact ⟨rfl, fun h => by cases h⟩
    rw [if_neg c4]
    exact ⟨by simp [c2], fun _ _ => rfl⟩
  · rw [z_mk_plain V hf ht ho hg hpr hca]
    by_cases c1 : q = fr
    · subst c1; rw [if_pos rfl, of]; exact ⟨rfl, fun h => by cases h⟩
    rw [if_neg c1]
    by_cases he : P.men fr &&& 7 = 1 ∧ to = P.passed
    · obtain ⟨-, -, -, -, e5, e6, e7⟩ := z_ep_facts V hf ht ho hg he.1 he.2
      by_cases c2 : q = to
      · subst c2; rw [if_pos rfl, n1, e7]; exact ⟨rfl, fun h => by cases h⟩
      rw [if_neg c2]
      by_cases c3 : q = z_tkSq P fr to
      · rw [if_pos c3]; exact ⟨by simp [c3]; rfl, fun _ h => absurd c3 h⟩
      rw [if_neg c3]; exact ⟨by simp [c3], fun _ _ => rfl⟩
    · rw [(z_tk_other V hf ht ho hg he).1]
      by_cases c2 : q = to
      · subst c2; rw [if_pos rfl, n1]; exact ⟨by simp, fun _ h => absurd rfl h⟩
      rw [if_neg c2, if_neg c2]; exact ⟨by simp [c2], fun _ _ => rfl⟩
set_option maxRecDepth 100000 in
theorem z_free_plain {P : z_Pos} (V : z_Val P) {fr to pr : Nat} (hf : fr < 64) (ht : to < 64) (ho : z_isOf (P.men fr) (nI P.side) = true) (hg : z_goalsB P fr to = true) (hpr : z_okp P fr pr) (hn : ¬ z_isCa (P.men fr) fr to) (q : Nat) : z_fre (z_mkMen P.men P.side P.passed fr to pr) q = z_tE P fr to q := by
  have hne := z_fr_ne_to V hf ht ho hg
  have n0 := (z_newM_enemy V hf ht ho hg hpr).2.2.1
  unfold z_fre z_tE
  rw [z_mk_plain V hf ht ho hg hpr hn]
  by_cases c1 : q = fr
  · have : ¬ q = to := fun e => hne (c1.symm.trans e)
    rw [if_pos c1]; simp [c1, hne]
  rw [if_neg c1]
  by_cases c2 : q = to
  · rw [if_pos c2]; simp [c2, n0]
  rw [if_neg c2]
  by_cases c3 : q = z_tkSq P fr to
  · rw [if_pos c3]; simp [c3] ; rw [← c3]; exact c2
  rw [if_neg c3]; simp [c1, c2, c3, z_fre]
set_option maxRecDepth 100000 in
theorem z_safe_iff {P : z_Pos} (V : z_Val P) {fr to pr : Nat} (hf : fr < 64) (ht : to < 64) (ho : z_isOf (P.men fr) (nI P.side) = true) (hg : z_goalsB P fr to = true) (hpr : z_okp P fr pr) {k : Nat} (hk : z_isK P.men P.side k) : z_atk (z_mkMen P.men P.side P.passed fr to pr) (1 - P.side) (z_nK P fr to k) = false ↔
    ∀ s, s < 64 → z_isOf (P.men s) (nI (1 - P.side)) = true → s ≠ z_tkSq P fr to → z_hits (P.men s) (z_tE P fr to) s (z_nK P fr to k) = false := by
  have hs := V.hs
  have hK := z_isK_own V hf ht ho hg hpr hk
  by_cases hca : z_isCa (P.men fr) fr to
  · obtain ⟨z_g1, z_g2, z_g3, g4, g5, g6, g7, g8, g9⟩ := z_ca_geo V hf ht ho hg hpr hca
    obtain ⟨f1, f2, f3, f4, f5, f6, f7, f8, f9⟩ := z_ca_facts V hf ht ho hg hca
    have n0 := (z_newM_enemy V hf ht ho hg hpr).2.2.1
    have hnK : z_nK P fr to k = to := by rw [z_nK, if_pos hca.1]
    rw [hnK]
    have hf3 := f3
    rw [← Bool.not_eq_true, z_atk_iff]
    have rk0 := (z_nk_facts 4 (by decide) (by decide) P.side hs).2.2.2.2
    have fr1 : ∀ q, q < 64 → z_fre (z_mkMen P.men P.side P.passed fr to pr) q = true → q ≠ z_corner fr to → z_tE P fr to q = true := by
      intro q hq h hc
      rw [z_fre, decide_eq_true_eq, z_mk_ca V hf ht ho hg hpr hca] at h
      unfold z_tE
      by_cases c1 : q = fr
      · subst c1; simp; exact z_fr_ne_to V hf ht ho hg
      rw [if_neg c1] at h
      by_cases c2 : q = to
      · rw [if_pos c2] at h; exact absurd h n0
      rw [if_neg c2, if_neg hc] at h
      by_cases c4 : q = (fr + to) / 2
      · rw [if_pos c4] at h; exact absurd h rk0
      rw [if_neg c4] at h
      simp [z_fre, h, c2]
    have fr2 : ∀ q, q < 64 → z_tE P fr to q = true → q ≠ (fr + to) / 2 → z_fre (z_mkMen P.men P.side P.passed fr to pr) q = true := by
      intro q hq h hc
      unfold z_tE at h
      rw [g8] at h
      rw [z_fre, decide_eq_true_eq, z_mk_ca V hf ht ho hg hpr hca]
      by_cases c1 : q = fr
      · rw [if_pos c1]
      by_cases c2 : q = to
      · simp [c2] at h
      simp [c1, c2, z_fre] at h
      rw [if_neg c1, if_neg c2]
      by_cases c3 : q = z_corner fr to
      · rw [if_pos c3]
      rw [if_neg c3, if_neg hc]; exact h
    have wing : (to = 56 * P.side + 6 ∧ z_corner fr to = 56 * P.side + 7 ∧ (fr + to) / 2 = 56 * P.side + 5) ∨ (to = 56 * P.side + 2 ∧ z_corner fr to = 56 * P.side ∧ (fr + to) / 2 = 56 * P.side + 3) := by
      unfold z_home at f1
      rcases hca.2 with e | e
      · left; rw [f9, if_pos (by omega)]; omega
      · right; rw [f9, if_neg (by omega)]; omega
    constructor
    · intro h s hs64 h1 h2
      rw [← Bool.not_eq_true]
      intro h3
      rw [g8] at h2
      have he := (z_enemy_eq V hf ht ho hg hpr hs64)
      have h1' := he.1
      rw [h1, g8] at h1'
      refine h ⟨s, hs64, by rw [h1']; simp [h2], ?_⟩
      rw [he.2 h1 (by rw [g8]; exact h2)]
      refine z_hits_sub hs64 ht ?_ h3
      intro d hd hsee
      obtain ⟨kk, k1, k2, k3, k4⟩ := hsee
      have kle := z_it_k_le (k := kk) hd ht (by omega)
      refine ⟨kk, k1, k2, k3, ?_⟩
      intro i i1 i2
      have hi := z_it_lt (d := d) (q := to) (k := kk) (Nat.le_of_lt ht) (by omega) i (by omega)
      refine fr2 _ hi (k4 i i1 i2) ?_
      intro hm
      exfalso
      have hd1 : i = 1 ∧ (z_it d 2 to = fr) := by
        rcases wing with ⟨w1, w2, w3⟩ | ⟨w1, w2, w3⟩
        · have := (z_mid_way hs hd (show i < 8 by omega) i1).1 (by rw [← w1, ← w3]; exact hm)
          refine ⟨this.1, ?_⟩
          rw [this.2, w1, f1]; exact (by decide : ∀ s, s < 2 → z_it 1 2 (56 * s + 6) = z_home s) _ hs
        · have := (z_mid_way hs hd (show i < 8 by omega) i1).2 (by rw [← w1, ← w3]; exact hm)
          refine ⟨this.1, ?_⟩
          rw [this.2, w1, f1]; exact (by decide : ∀ s, s < 2 → z_it 0 2 (56 * s + 2) = z_home s) _ hs
      have kk2 : kk ≠ 2 := by
        intro e; rw [e, hd1.2] at k2
        rw [← k2, z_isOf_other hs (V.hv fr hf) ho] at h1; cases h1
      have kk3 : 3 ≤ kk := by omega
      have hseeF : z_Sees (z_fre P.men) d fr s := by
        refine ⟨kk - 2, by omega, ?_, k3, ?_⟩
        · rw [← hd1.2, ← z_it_add, show 2 + (kk - 2) = kk by omega]; exact k2
        · intro j j1 j2
          have := k4 (2 + j) (by omega) (by omega)
          rw [z_it_add, hd1.2] at this
          have hj := z_it_lt (d := d) (q := to) (k := kk) (Nat.le_of_lt ht) (by omega) (2 + j) (by omega)
          rw [z_it_add, hd1.2] at hj
          have jne : z_it d j fr ≠ fr := by
            have := z_it_k_le (k := j) hd hf hj
            exact z_it_ne0 d hd fr hf j (by omega) j1
          unfold z_tE at this
          rw [g8] at this
          by_cases ct : z_it d j fr = to
          · simp [ct] at this
          · simpa [jne, ct] using this
      have h3' : z_hits (P.men s) (z_fre P.men) s fr = true := by
        rw [z_hits_iff hs64] at h3 ⊢
        rcases h3 with h3 | ⟨d', hd', l1, l2⟩
        · -- a man that sees along a line here is no such man: use the line anyway
          exfalso
          have hz : z_pnHit true s to = false ∧ z_pnHit false s to = false ∧ z_knHit s to = false ∧ z_kgHit s to = false := by
            have := z_far hd ht kk3 (by omega)
            rw [k2] at this
            simpa [z_noFix, Bool.and_eq_true, and_assoc] using this
          simp only [z_fixd, hz.2.2.1, hz.2.2.2, Bool.and_false, Bool.or_false, Bool.and_eq_true] at h3
          revert h3; cases decide (P.men s < 8) <;> simp [hz.1, hz.2.1]
        · right
          have same : d' = z_op d := by
            obtain ⟨j, j1, j2, j3, -⟩ := l2
            have jle := z_it_k_le (k := j) hd' hs64 (by omega)
            have back : z_it (z_op d) kk s = to := by rw [← k2, z_it_op hd kk to ht (by omega) kk (Nat.le_refl _), Nat.sub_self]; rfl
            have u1 := z_dirOf_it hd' hs64 (show 0 < j by omega) (by omega)
            have u2 := z_dirOf_it (z_op_lt hd) hs64 (show 0 < kk by omega) (by omega)
            rw [j2] at u1; rw [back] at u2; exact u1.symm.trans u2
          refine ⟨d', hd', l1, ?_⟩
          rw [same]
          exact hseeF.rev hd hf
      have := f6
      rw [← Bool.not_eq_true, z_atk_iff] at this
      exact this ⟨s, hs64, h1, h3'⟩
    · rintro h ⟨s, hs64, h1, h2⟩
      have he := z_enemy_eq V hf ht ho hg hpr hs64
      rw [he.1, Bool.and_eq_true] at h1
      have h1' : s ≠ z_tkSq P fr to := by have := h1.2; simpa using this
      rw [he.2 h1.1 h1'] at h2
      have := h s hs64 h1.1 h1'
      rw [← Bool.not_eq_true] at this
      apply this
      refine z_hits_sub hs64 ht ?_ h2
      rintro d hd ⟨kk, k1, k2, k3, k4⟩
      have kle := z_it_k_le (k := kk) hd ht (by omega)
      refine ⟨kk, k1, k2, k3, ?_⟩
      intro i i1 i2
      have hi := z_it_lt (d := d) (q := to) (k := kk) (Nat.le_of_lt ht) (by omega) i (by omega)
      refine fr1 _ hi (k4 i i1 i2) ?_
      intro hco
      have : z_it d (i + 1) to = 64 := by
        rcases wing with ⟨w1, w2, w3⟩ | ⟨w1, w2, w3⟩
        · rw [w1]; exact (z_corner_end P.side hs d hd i (by omega)).1 (by rw [← w1, ← w2]; exact hco)
        · rw [w1]; exact (z_corner_end P.side hs d hd i (by omega)).2 (by rw [← w1, ← w2]; exact hco)
      have h2' := z_it_lt (d := d) (q := to) (k := kk) (Nat.le_of_lt ht) (by omega) (i + 1) (by omega)
      omega
  · rw [← Bool.not_eq_true, z_atk_iff]
    constructor
    · intro h s hs64 h1 h2
      rw [← Bool.not_eq_true]
      intro h3
      have he := z_enemy_eq V hf ht ho hg hpr hs64
      refine h ⟨s, hs64, by rw [he.1, h1]; simp [h2], ?_⟩
      rw [he.2 h1 h2, z_hits_congr (e' := z_tE P fr to) (fun q _ => z_free_plain V hf ht ho hg hpr hca q)]; exact h3
    · rintro h ⟨s, hs64, h1, h2⟩
      have he := z_enemy_eq V hf ht ho hg hpr hs64
      rw [he.1, Bool.and_eq_true] at h1
      have h1' : s ≠ z_tkSq P fr to := by have := h1.2; simpa using this
      rw [he.2 h1.1 h1', z_hits_congr (e' := z_tE P fr to) (fun q _ => z_free_plain V hf ht ho hg hpr hca q)] at h2
      rw [h s hs64 h1.1 h1'] at h2; cases h2
set_option maxRecDepth 100000 in
theorem z_it_inj {d q i j : Nat} (hd : d < 8) (hq : q < 64) (h : z_it d i q = z_it d j q) (hi : z_it d i q < 64) : i = j := by
  have key : ∀ a b, a < b → z_it d a q = z_it d b q → z_it d a q < 64 → False := by
    intro a b hab h h64
    have e : z_it d b q = z_it d (b - a) (z_it d a q) := by rw [← z_it_add]; congr 1; omega
    have hk := z_it_k_le (k := b) hd hq (by omega)
    rw [← h] at e
    exact z_it_ne0 d hd (z_it d a q) h64 (b - a) (by omega) (by omega) e.symm
  rcases Nat.lt_trichotomy i j with g | g | g
  · exact (key i j g h hi).elim
  · exact g
  · exact (key j i g h.symm (by omega)).elim
def z_shB (men : Nat → Int32) (s k d : Nat) : Prop := True
def z_shS (sets : Nat → Int64) (side d : Nat) : Int64 := (f_Ra_along (nI d) (f_Bo_setOf sets 6 (nI side)) (f_Bo_empty sets)) &&& (f_Bo_allOf sets (nI side))
def z_shD (sets : Nat → Int64) (side d : Nat) : Int64 := (f_Bo_setOf sets 5 (1 - nI side)) ||| (f_Bo_setOf sets (if d < 4 then 4 else 3) (1 - nI side))
def z_shX (sets : Nat → Int64) (side d : Nat) : Int64 := if (f_Ra_along (nI d) (z_shS sets side d) (f_Bo_empty sets)) &&& z_shD sets side d = 0 then 0 else z_shS sets side d
set_option maxRecDepth 100000 in
theorem z_ite_both {c : Prop} [Decidable c] {a b : Int64} {q : Nat} (ha : z_tb a q = true) (hb : z_tb b q = true) : z_tb (if c then a else b) q = true := by
  by_cases h : c
  · rw [if_pos h]; exact ha
  · rw [if_neg h]; exact hb
set_option maxRecDepth 100000 in
theorem z_shields_21 (sets : Nat → Int64) (side : Nat) : ∀ n d acc, d + n = 8 → ∀ q, q < 64 → ∀ d0, d ≤ d0 → d0 < 8 → (z_tb acc q = true ∨ z_tb (z_shX sets side d0) q = true) →
    z_tb (f_Bo_shieldsOf_21 sets (nI side) (n + 1) acc (nI d)) q = true := by
  have mono : ∀ n d acc, d + n = 8 → ∀ q, z_tb acc q = true → z_tb (f_Bo_shieldsOf_21 sets (nI side) (n + 1) acc (nI d)) q = true := by
    intro n
    induction n with
    | zero =>
      intro d acc h q hq
      rw [f_Bo_shieldsOf_21]; dsimp only
      rw [if_pos (by rw [show d = 8 by omega]; decide)]; exact hq
    | succ n ih =>
      intro d acc h q hq
      have hd : d < 8 := by omega
      rw [f_Bo_shieldsOf_21]; dsimp only
      rw [if_neg ((by decide : ∀ d, d < 8 → ¬ (8 : Int32) ≤ nI d) d hd)]
      have e1 : nI d + 1 = nI (d + 1) := z_nI_add d 1
      by_cases c : (4 : Int32) ≤ nI d
      · rw [if_pos c, f_Bo_shieldsOf_39, e1]
        exact z_ite_both (ih _ _ (by omega) q hq) (ih _ _ (by omega) q (by rw [z_tb_or, hq]; rfl))
      · rw [if_neg c, f_Bo_shieldsOf_39, e1]
        exact z_ite_both (ih _ _ (by omega) q hq) (ih _ _ (by omega) q (by rw [z_tb_or, hq]; rfl))
  intro n
  induction n with
  | zero => intro d acc h q hq d0 h1 h2; omega
  | succ n ih =>
    intro d acc h q hq d0 h1 h2 h3
    rcases h3 with h3 | h3
    · exact mono _ _ _ h q h3
    · have hd : d < 8 := by omega
      rw [f_Bo_shieldsOf_21]; dsimp only
      rw [if_neg ((by decide : ∀ d, d < 8 → ¬ (8 : Int32) ≤ nI d) d hd)]
      have e1 : nI d + 1 = nI (d + 1) := z_nI_add d 1
      have step : ∀ kk : Int32, kk = (if d < 4 then 4 else 3) → z_tb (f_Bo_shieldsOf_39 (f_Bo_shieldsOf_21 sets (nI side) (n + 1)) sets (nI side) acc (nI d) kk) q = true := by
        intro kk hkk
        rw [f_Bo_shieldsOf_39, e1, hkk]
        by_cases c : d0 = d
        · subst c
          unfold z_shX at h3
          by_cases c2 : (f_Ra_along (nI d0) (z_shS sets side d0) (f_Bo_empty sets)) &&& z_shD sets side d0 = 0
          · rw [if_pos c2, z_tb_zero] at h3; cases h3
          · rw [if_neg c2] at h3
            unfold z_shS z_shD at c2
            unfold z_shS at h3
            rw [if_neg c2]
            exact mono _ _ _ (by omega) q (by rw [z_tb_or, h3]; simp)
        · exact z_ite_both (ih _ _ (by omega) q hq d0 (by omega) h2 (.inr h3)) (ih _ _ (by omega) q hq d0 (by omega) h2 (.inr h3))
      by_cases c : (4 : Int32) ≤ nI d
      · rw [if_pos c]
        have : ¬ d < 4 := by have := (z_nI_le (a := 4) (b := d) (by omega) (by omega)).mp c; omega
        exact step 3 (by rw [if_neg this])
      · rw [if_neg c]
        have : d < 4 := by
          rcases Nat.lt_or_ge d 4 with g | g
          · exact g
          · exact absurd ((z_nI_le (a := 4) (b := d) (by omega) (by omega)).mpr g) c
        exact step 4 (by rw [if_pos this])
set_option maxRecDepth 100000 in
theorem z_shields_hold {P : z_Pos} (V : z_Val P) {cm : Nat → Int32} {sets : Nat → Int64} (hc : ∀ q, q < 64 → cm q = P.men q) (B : z_Bd P.men sets) {k fr s d : Nat} (hk : z_isK P.men P.side k) (hf : fr < 64) (hs64 : s < 64) (hd : d < 8) (ho : z_isOf (P.men fr) (nI P.side) = true)
    (h1 : z_Sees (z_fre P.men) d k fr) (h2 : z_Sees (z_fre P.men) d fr s) (h3 : P.men s = nI (5 + 8 * (1 - P.side)) ∨ P.men s = nI ((if d < 4 then 4 else 3) + 8 * (1 - P.side))) :
    z_tb (f_Bo_shieldsOf sets (nI P.side)) fr = true := by
  have hs := V.hs
  have hal : ∀ q, q < 64 → ∀ t, t < 64 → z_tb (f_Ra_along (nI d) (z_bt q) (f_Bo_empty sets)) t = z_ry (z_fre P.men) d q t := by
    intro q hq t ht
    rw [z_along_bt hd hq _ ht, z_ry, z_ry, z_ray_congr (e' := z_fre P.men) (fun r hr => z_empty_eq V hc B hr)]
  have hS : z_shS sets P.side d = z_bt fr := by
    unfold z_shS
    rw [z_setK B hs hk]
    apply z_tb_ext
    intro q hq
    rw [z_tb_and, hal k hk.1 q hq, z_allOf_eq B hs hq, z_tb_bt hf hq]
    by_cases c : q = fr
    · subst c; rw [ho, (z_ry_iff hd hk.1).mpr h1]; simp
    · simp only [c, decide_false]
      rw [← Bool.not_eq_true, Bool.and_eq_true, z_ry_iff hd hk.1]
      rintro ⟨⟨a, a1, a2, a3, a4⟩, oq⟩
      obtain ⟨b, b1, b2, b3, b4⟩ := h1
      rcases Nat.lt_trichotomy a b with g | g | g
      · have := b4 a (by omega) g
        rw [a2, z_fre, decide_eq_true_eq] at this
        exact z_isOf_ne oq this
      · rw [g, b2] at a2; exact c a2.symm
      · have := a4 b (by omega) g
        rw [b2, z_fre, decide_eq_true_eq] at this
        exact z_isOf_ne ho this
  have hX : z_tb (z_shX sets P.side d) fr = true := by
    unfold z_shX
    rw [hS, if_neg]
    · rw [z_tb_bt hf hf]; simp
    · intro e
      have := (z_eq0_iff _).mp e s hs64
      rw [z_tb_and, hal fr hf s hs64, (z_ry_iff hd hf).mpr h2, z_shD, z_tb_or, z_side_flip hs] at this
      have z5 : z_tb (f_Bo_setOf sets 5 (nI (1 - P.side))) s = decide (P.men s = nI (5 + 8 * (1 - P.side))) := z_setOf_eq B (k := 5) (by decide) (by omega) hs64
      have z4 : z_tb (f_Bo_setOf sets 4 (nI (1 - P.side))) s = decide (P.men s = nI (4 + 8 * (1 - P.side))) := z_setOf_eq B (k := 4) (by decide) (by omega) hs64
      have z3 : z_tb (f_Bo_setOf sets 3 (nI (1 - P.side))) s = decide (P.men s = nI (3 + 8 * (1 - P.side))) := z_setOf_eq B (k := 3) (by decide) (by omega) hs64
      rw [z5] at this
      by_cases c4 : d < 4
      · simp only [c4, if_true] at this h3; rw [z4] at this
        rcases h3 with h | h <;> simp [h] at this
      · simp only [c4, if_false] at this h3; rw [z3] at this
        rcases h3 with h | h <;> simp [h] at this
  rw [f_Bo_shieldsOf]
  exact z_shields_21 sets P.side 8 0 0 rfl fr hf d (by omega) hd (.inr hX)
set_option maxRecDepth 100000 in
theorem z_sqTaken_eq {P : z_Pos} (V : z_Val P) {cm : Nat → Int32} {sets : Nat → Int64} (hc : ∀ q, q < 64 → cm q = P.men q) (B : z_Bd P.men sets) {fr to : Nat} (hf : fr < 64) (ht : to < 64) (ho : z_isOf (P.men fr) (nI P.side) = true) (hg : z_goalsB P fr to = true) :
    f_Po_squareOfTaken (nI P.side) (z_pI P.passed) (P.men fr) (nI to) = nI (z_tkSq P fr to) := by
  have hs := V.hs
  have hs2 : P.side = 0 ∨ P.side = 1 := by omega
  rw [f_Po_squareOfTaken]
  by_cases c1 : P.men fr &&& 7 = 1
  · rw [if_pos c1]
    by_cases c2 : to = P.passed
    · rw [if_pos ((z_pI_eq ht V.hp).mpr c2), f_Po_squareOfTaken_21, if_neg (by decide)]
      obtain ⟨-, -, e3, -⟩ := z_ep_facts V hf ht ho hg c1 c2
      have hh := z_ep_hit V hf ht ho hg c1 c2
      have geo := z_all2 z_pn_geo hf ht
      rw [z_tkSq, if_pos ⟨c1, c2⟩]
      rcases hs2 with h | h
      · rw [h] at hh ⊢; simp at hh; simp [hh] at geo
        rw [if_pos rfl]; exact z_nI_sub (b := 8) (by omega) (by omega)
      · rw [h] at hh ⊢; simp at hh; simp [hh] at geo
        rw [if_neg (by decide)]
        have : f_Ch_stepOf (nI 1) = -8 := by decide
        rw [this]
        exact (by decide : ∀ t, t < 64 → nI t - (-8) = nI (t + 8)) to ht
    · rw [if_neg (fun h => c2 ((z_pI_eq ht V.hp).mp h)), f_Po_squareOfTaken_20, f_Po_squareOfTaken_21, if_pos rfl, z_tkSq, if_neg (fun h => c2 h.2)]
  · rw [if_neg c1, f_Po_squareOfTaken_20, f_Po_squareOfTaken_21, if_pos rfl, z_tkSq, if_neg (fun h => c1 h.1)]
set_option maxRecDepth 100000 in
theorem z_tk_lt {P : z_Pos} (V : z_Val P) {cm : Nat → Int32} {sets : Nat → Int64} (hc : ∀ q, q < 64 → cm q = P.men q) (B : z_Bd P.men sets) {fr to : Nat} (hf : fr < 64) (ht : to < 64) (ho : z_isOf (P.men fr) (nI P.side) = true) (hg : z_goalsB P fr to = true) : z_tkSq P fr to < 64 := by
  by_cases h : P.men fr &&& 7 = 1 ∧ to = P.passed
  · exact (z_ep_facts V hf ht ho hg h.1 h.2).2.2.1
  · rw [(z_tk_other V hf ht ho hg h).1]; exact ht
def z_safeB (P : z_Pos) (k fr to : Nat) : Bool := !z_atk (z_mkMen P.men P.side P.passed fr to 0) (1 - P.side) (z_nK P fr to k)
set_option maxRecDepth 100000 in
theorem z_keepsKingSafe_eq {P : z_Pos} (V : z_Val P) {cm : Nat → Int32} {sets : Nat → Int64} (hc : ∀ q, q < 64 → cm q = P.men q) (B : z_Bd P.men sets) {k fr to : Nat} (hk : z_isK P.men P.side k) (hf : fr < 64) (ht : to < 64) (ho : z_isOf (P.men fr) (nI P.side) = true) (hg : z_goalsB P fr to = true) :
    f_Po_keepsKingSafe (cm, sets) (nI P.side) (z_pI P.passed) (nI fr) (nI to) = if z_safeB P k fr to then 1 else 0 := by
  have hs := V.hs
  have key : ∀ K : Int64, K = z_bt (z_nK P fr to k) → f_Po_keepsKingSafe_71 (cm, sets) (nI P.side) (z_pI P.passed) (nI fr) (nI to) K = if z_safeB P k fr to then 1 else 0 := by
    intro K hK
    have tl := z_tk_lt V hc B hf ht ho hg
    rw [f_Po_keepsKingSafe_71, hK]
    dsimp only
    rw [z_manAt_eq _ hf, hc fr hf, z_sqTaken_eq V hc B hf ht ho hg, z_side_flip hs]
    rw [show shl64 1 (nI fr) = z_bt fr from rfl, show shl64 1 (nI to) = z_bt to from rfl, show shl64 1 (nI (z_tkSq P fr to)) = z_bt (z_tkSq P fr to) from rfl]
    generalize he : (((f_Bo_empty sets ||| z_bt fr) ||| z_bt (z_tkSq P fr to)) &&& (z_bt to ^^^ (-1))) = e
    have hE : ∀ q, q < 64 → z_tb e q = z_tE P fr to q := by
      intro q hq
      rw [← he, z_tb_and, z_tb_or, z_tb_or, z_tb_not _ hq, z_tb_bt hf hq, z_tb_bt tl hq, z_tb_bt ht hq, z_empty_eq V hc B hq]; rfl
    have nKl : z_nK P fr to k < 64 := (z_isK_own V hf ht ho hg (.inl rfl : z_okp P fr 0) hk).1
    have si := z_safe_iff V hf ht ho hg (.inl rfl : z_okp P fr 0) hk
    have iff0 : f_Bo_attackersOf sets (z_bt (z_nK P fr to k)) (nI (1 - P.side)) e &&& (z_bt (z_tkSq P fr to) ^^^ (-1)) = 0 ↔ z_safeB P k fr to = true := by
      rw [z_safeB, Bool.not_eq_true', si, z_eq0_iff]
      constructor
      · intro h s hs64 h1 h2
        have := h s hs64
        rw [z_tb_and, z_tb_not _ hs64, z_tb_bt tl hs64, z_attackersOf_cls B nKl (by omega) e hs64, h1, z_hits_congr hE] at this
        simpa [h2] using this
      · intro h s hs64
        rw [z_tb_and, z_tb_not _ hs64, z_tb_bt tl hs64, z_attackersOf_cls B nKl (by omega) e hs64, z_hits_congr hE]
        cases h1 : z_isOf (P.men s) (nI (1 - P.side))
        · rfl
        · by_cases h2 : s = z_tkSq P fr to
          · simp [h2]
          · rw [h s hs64 h1 h2]; rfl
    by_cases c : z_safeB P k fr to = true
    · rw [if_pos (iff0.mpr c), if_pos c]
    · rw [if_neg (fun h => c (iff0.mp h)), if_neg c]
  rw [f_Po_keepsKingSafe]
  dsimp only
  rw [z_manAt_eq _ hf, hc fr hf]
  by_cases c6 : P.men fr &&& 7 = 6
  · rw [if_pos c6]; exact key _ (by rw [z_nK, if_pos c6]; rfl)
  · rw [if_neg c6]; exact key _ (by rw [z_setK B hs hk, z_nK, if_neg c6])
set_option maxRecDepth 100000 in
theorem z_attackPassed_eq {P : z_Pos} (V : z_Val P) {cm : Nat → Int32} {sets : Nat → Int64} (hc : ∀ q, q < 64 → cm q = P.men q) (B : z_Bd P.men sets) {q : Nat} (hq : q < 64) : z_tb (f_Po_pawnsThatAttackPassed (cm, sets) (nI P.side) (z_pI P.passed)) q = (decide (P.passed < 64) && z_pnHit (decide (P.side = 0)) q P.passed && decide (P.men q = nI (1 + 8 * P.side))) := by
  have hs := V.hs
  rw [f_Po_pawnsThatAttackPassed, z_tb_and, show f_Bo_setOf (cm, sets).2 1 (nI P.side) = f_Bo_setOf sets (nI 1) (nI P.side) from rfl, z_setOf_eq B (by decide) hs hq]
  congr 1
  rw [f_Po_passedSet, z_pI]
  by_cases c : P.passed < 64
  · rw [if_pos c, if_neg (z_nI_m1 _ (by omega)), show shl64 1 (nI P.passed) = z_bt P.passed from rfl]
    have pn := z_all2 z_pn_cls0 c hq
    rw [Bool.and_eq_true, beq_iff_eq, beq_iff_eq] at pn
    have hs2 : P.side = 0 ∨ P.side = 1 := by omega
    rcases hs2 with h | h
    · rw [h, show (1 : Int32) - nI 0 = 1 from by decide, pn.1]; simp [c]
    · rw [h, show (1 : Int32) - nI 1 = 0 from by decide, pn.2]; simp [c]
  · rw [if_neg c, if_pos rfl]
    have : f_Ra_byPawn 0 (1 - nI P.side) = 0 := (by decide : ∀ s, s < 2 → f_Ra_byPawn 0 (1 - nI s) = 0) _ hs
    rw [this, z_tb_zero]; simp [c]
set_option maxRecDepth 100000 in
theorem z_holds_eq {P : z_Pos} (V : z_Val P) {cm : Nat → Int32} {sets : Nat → Int64} (hc : ∀ q, q < 64 → cm q = P.men q) (B : z_Bd P.men sets) (x : Int64) {q : Nat} (hq : q < 64) : f_Ch_holds x (nI q) = if z_tb x q then 1 else 0 := by
  have t0 : z_tb (ushr64 x (nI q)) 0 = z_tb x q := by rw [z_tb_ushr x hq]; rfl
  have : ((ushr64 x (nI q)) &&& 1) = if z_tb x q then 1 else 0 := by
    apply z_tb_ext
    intro r hr
    rw [z_tb_and, z_tb_one]
    by_cases c : r = 0
    · subst c; rw [t0]; cases z_tb x q <;> simp [z_tb_zero, z_tb_one]
    · cases z_tb x q <;> simp [c, z_tb_zero, z_tb_one]
  rw [f_Ch_holds, this]
  cases z_tb x q <;> simp
set_option maxRecDepth 100000 in
theorem z_not_exposed {P : z_Pos} (V : z_Val P) {cm : Nat → Int32} {sets : Nat → Int64} (hc : ∀ q, q < 64 → cm q = P.men q) (B : z_Bd P.men sets) {k fr to : Nat} (hk : z_isK P.men P.side k) (hf : fr < 64) (ht : to < 64) (ho : z_isOf (P.men fr) (nI P.side) = true) (hg : z_goalsB P fr to = true)
    (hx : z_tb (f_Po_exposed (cm, sets) (nI P.side) (z_pI P.passed)) fr = false) : z_safeB P k fr to = true ∧ P.men fr ≠ nI (6 + 8 * P.side) := by
  have hs := V.hs
  rw [f_Po_exposed, z_isInCheck_eq B hs hk] at hx
  cases hck : z_atk P.men (1 - P.side) k
  · rw [hck] at hx
    simp only [Bool.false_eq_true, if_false, if_true] at hx
    rw [z_tb_or, z_tb_or, Bool.or_eq_false_iff, Bool.or_eq_false_iff, z_setK B hs hk, z_tb_bt hk.1 hf, z_attackPassed_eq V hc B hf] at hx
    obtain ⟨⟨x1, x2⟩, x3⟩ := hx
    have hfk : fr ≠ k := by simpa using x1
    have hnk : P.men fr ≠ nI (6 + 8 * P.side) := fun e => hfk ((hk.2 fr hf).mp e)
    refine ⟨?_, hnk⟩
    have n6 : ¬ P.men fr &&& 7 = 6 := fun e => hnk (z_kg_own V hf ht ho hg e)
    have hnep : ¬ (P.men fr &&& 7 = 1 ∧ to = P.passed) := by
      rintro ⟨e1, e2⟩
      have hh := z_ep_hit V hf ht ho hg e1 e2
      rw [e2] at hh
      rw [hh, z_pn_own V hf ht ho hg e1] at x3
      have : P.passed < 64 := by omega
      simp [this] at x3
    have htk := (z_tk_other V hf ht ho hg hnep).1
    rw [z_safeB, Bool.not_eq_true', z_safe_iff V hf ht ho hg (.inl rfl : z_okp P fr 0) hk]
    have hnK : z_nK P fr to k = k := by rw [z_nK, if_neg n6]
    rw [hnK, htk]
    intro s hs64 h1 h2
    rw [← Bool.not_eq_true] at hck ⊢
    rw [z_atk_iff] at hck
    intro h3
    rw [z_hits_iff hs64] at h3
    rcases h3 with h3 | ⟨d', hd', l1, l2⟩
    · exact hck ⟨s, hs64, h1, by rw [z_hits_iff hs64]; exact .inl h3⟩
    · rw [z_Sees.comm hd' hs64 hk.1] at l2
      have hd := z_op_lt hd'
      obtain ⟨kk, k1, k2, k3, k4⟩ := l2
      have tEf : ∀ i, 0 < i → i < kk → z_it (z_op d') i k ≠ fr → z_fre P.men (z_it (z_op d') i k) = true := by
        intro i i1 i2 hne
        have := k4 i i1 i2
        unfold z_tE at this
        rw [htk] at this
        by_cases ct : z_it (z_op d') i k = to
        · simp [ct] at this
        · simpa [hne, ct] using this
      by_cases hex : ∃ i, 0 < i ∧ i < kk ∧ z_it (z_op d') i k = fr
      · obtain ⟨i, i1, i2, i3⟩ := hex
        have s1 : z_Sees (z_fre P.men) (z_op d') k fr := by
          refine ⟨i, i1, i3, hf, ?_⟩
          intro j j1 j2
          refine tEf j j1 (by omega) ?_
          intro e
          have := z_it_inj hd hk.1 (e.trans i3.symm) (by rw [e]; exact hf)
          omega
        have s2 : z_Sees (z_fre P.men) (z_op d') fr s := by
          refine ⟨kk - i, by omega, ?_, hs64, ?_⟩
          · rw [← i3, ← z_it_add, show i + (kk - i) = kk by omega]; exact k2
          · intro j j1 j2
            rw [← i3, ← z_it_add]
            refine tEf (i + j) (by omega) (by omega) ?_
            intro e
            have := z_it_inj hd hk.1 (e.trans i3.symm) (by rw [e]; exact hf)
            omega
        have hdang : P.men s = nI (5 + 8 * (1 - P.side)) ∨ P.men s = nI ((if z_op d' < 4 then 4 else 3) + 8 * (1 - P.side)) := by
          obtain ⟨j, j1, j2, je⟩ := z_own_cases (s := 1 - P.side) (by omega) (V.hv s hs64) h1
          have jk := (z_nk_facts j j1 j2 (1 - P.side) (by omega)).2.2.1
          rw [je]
          have opc : z_op d' < 4 ↔ d' < 4 := (by decide : ∀ d, d < 8 → (z_op d < 4 ↔ d < 4)) d' hd'
          simp only [z_lineD, je, jk, Bool.or_eq_true, Bool.and_eq_true, decide_eq_true_eq] at l1
          rcases l1 with (⟨e, c⟩ | ⟨e, c⟩) | e
          · right
            have := (z_nI_inj (a := j) (b := 4) (by omega) (by omega)).mp e
            rw [if_pos (opc.mpr c), this]
          · right
            have := (z_nI_inj (a := j) (b := 3) (by omega) (by omega)).mp e
            rw [if_neg (fun h => by have := opc.mp h; omega), this]
          · left
            have := (z_nI_inj (a := j) (b := 5) (by omega) (by omega)).mp e
            rw [this]
        have := z_shields_hold V hc B hk hf hs64 hd ho s1 s2 hdang
        rw [this] at x2; cases x2
      · apply hck
        refine ⟨s, hs64, h1, ?_⟩
        rw [z_hits_iff hs64]
        refine .inr ⟨d', hd', l1, ?_⟩
        rw [z_Sees.comm hd' hs64 hk.1]
        exact ⟨kk, k1, k2, k3, fun i i1 i2 => tEf i i1 i2 (fun e => hex ⟨i, i1, i2, e⟩)⟩
  · rw [hck] at hx
    simp only [if_true] at hx
    rw [if_neg (by decide), z_allOf_eq B hs hf, ho] at hx; cases hx

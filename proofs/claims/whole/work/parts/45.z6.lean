def z_BdM (M : Nat → Int32) (b : St_Bo) : Prop := z_Bd b.1 b.2 ∧ ∀ q, q < 64 → b.1 q = M q
set_option maxRecDepth 100000 in
theorem z_BdM.put {M : Nat → Int32} {b : St_Bo} (h : z_BdM M b) {q : Nat} (hq : q < 64) {m : Int32} (hm : z_vm m = true) : z_BdM (upd M q m) (f_Bo_put b.1 b.2 (nI q) m) := by
  refine ⟨z_put_Bd h.1 hq hm, ?_⟩
  intro r hr
  rw [z_put_men hq hm]
  unfold upd; split
  · rfl
  · exact h.2 r hr
set_option maxRecDepth 100000 in
theorem z_BdM.to {M M' : Nat → Int32} {b : St_Bo} (h : z_BdM M b) (e : ∀ q, q < 64 → M q = M' q) : z_BdM M' b := ⟨h.1, fun q hq => (h.2 q hq).trans (e q hq)⟩
set_option maxRecDepth 100000 in
theorem z_BdM.bd {M : Nat → Int32} {b : St_Bo} (h : z_BdM M b) : z_Bd M b.2 :=
  ⟨fun q hq => by rw [← h.2 q hq]; exact h.1.1 q hq, fun k hk q hq => by rw [h.1.2 k hk q hq, h.2 q hq]⟩
set_option maxRecDepth 100000 in
theorem z_BdM.mk' {M : Nat → Int32} {cm : Nat → Int32} {sets : Nat → Int64} (hc : ∀ q, q < 64 → cm q = M q) (B : z_Bd M sets) : z_BdM M (cm, sets) :=
  ⟨⟨fun q hq => (congrArg z_vm (hc q hq)).trans (B.1 q hq), fun k hk q hq => (B.2 k hk q hq).trans (congrArg (fun m => decide (m = nI k)) (hc q hq).symm)⟩, hc⟩
set_option maxRecDepth 100000 in
theorem z_abs_geo : ((List.range 64).all (fun a => (List.range 64).all (fun b => (decide (abs32 (nI a - nI b) = 2) == (decide (a = b + 2) || decide (b = a + 2))) && (decide (abs32 (nI a - nI b) = 16) == (decide (a = b + 16) || decide (b = a + 16)))))) = true := by decide +kernel
set_option maxRecDepth 100000 in
theorem z_abs2 {a b : Nat} (ha : a < 64) (hb : b < 64) : (abs32 (nI a - nI b) = 2 ↔ a = b + 2 ∨ b = a + 2) ∧ (abs32 (nI a - nI b) = 16 ↔ a = b + 16 ∨ b = a + 16) := by
  have := z_all2 z_abs_geo ha hb
  rw [Bool.and_eq_true, beq_iff_eq, beq_iff_eq, ← Bool.decide_or, ← Bool.decide_or, decide_eq_decide, decide_eq_decide] at this
  exact this
set_option maxRecDepth 100000 in
theorem z_vm_nI : ∀ k, k < 7 → ∀ s, s < 2 → 1 ≤ k → z_vm (nI (k + 8 * s)) = true := by decide
set_option maxRecDepth 100000 in
theorem z_bound_eq : ∀ q, q < 64 → f_Po_rightsBoundTo (nI q) = nI (z_lostN q) := by decide +kernel
set_option maxRecDepth 100000 in
theorem z_rgt_cls0 : ∀ r, r < 16 → ∀ a ∈ [0, 1, 2, 3, 4, 8, 12], ∀ b ∈ [0, 1, 2, 3, 4, 8, 12], nI r &&& ((nI a ||| nI b) ^^^ (-1)) = nI (r &&& (15 ^^^ a) &&& (15 ^^^ b)) := by decide +kernel
def z_memI (P : z_Pos) (fr to : Nat) : Int32 := ((P.men (z_tkSq P fr to) + (16 * nI P.rights)) + (256 * (z_pI P.passed + 1))) + (32768 * nI P.clock)
set_option maxRecDepth 100000 in
theorem z_two_geo : ((List.range 2).all (fun s => (List.range 64).all (fun q => (List.range 64).all (fun t => !(decide (t = z_nx (z_upd8 s) q) || z_pnHit (decide (s = 0)) q t) || (decide (t ≠ q + 16) && decide (q ≠ t + 16)))))) = true := by decide +kernel
set_option maxRecDepth 100000 in
theorem z_two_geo2 : ((List.range 2).all (fun s => (List.range 64).all (fun q => (!decide (q / 8 = if s = 0 then 1 else 6)) || (decide (z_nx (z_upd8 s) (z_nx (z_upd8 s) q) = if s = 0 then q + 16 else q - 16) && decide (z_nx (z_upd8 s) q = if s = 0 then q + 8 else q - 8))))) = true := by decide +kernel
set_option maxRecDepth 100000 in
theorem z_psd_geo : ((List.range 2).all (fun s => (List.range 64).all (fun q => (List.range 64).all (fun t => (!decide (q / 8 = if s = 0 then 1 else 6)) || (z_pnHit (decide (s = 0)) (if s = 0 then q + 8 else q - 8) t == (decide (t < 64) && (decide (t = z_nx 1 (if s = 0 then q + 16 else q - 16)) || decide (t = z_nx 0 (if s = 0 then q + 16 else q - 16))))))))) = true := by decide +kernel
set_option maxRecDepth 100000 in
theorem z_two_steps {P : z_Pos} (V : z_Val P) {fr to : Nat} (hf : fr < 64) (ht : to < 64) (ho : z_isOf (P.men fr) (nI P.side) = true) (hg : z_goalsB P fr to = true) (h1 : P.men fr &&& 7 = 1) (h2 : to = fr + 16 ∨ fr = to + 16) :
    fr / 8 = (if P.side = 0 then 1 else 6) ∧ to = (if P.side = 0 then fr + 16 else fr - 16) ∧ z_fre P.men ((fr + to) / 2) = true ∧ (fr + to) / 2 = (if P.side = 0 then fr + 8 else fr - 8) ∧ z_fre P.men to = true := by
  have hs := V.hs
  have hs2 : P.side = 0 ∨ P.side = 1 := by omega
  have z_g1 := z_all3 z_two_geo hs hf ht
  have hg' := hg
  rw [z_goalsB, if_pos h1, z_pawnG] at hg'
  simp only [Bool.or_eq_true, Bool.and_eq_true, decide_eq_true_eq, Bool.not_eq_true', Bool.or_eq_false_iff, decide_eq_false_iff_not] at z_g1 hg'
  rcases hg' with ⟨⟨a1, a2⟩, a3 | a3⟩ | a4
  · exfalso
    rcases z_g1 with g | g
    · exact g.1 a3
    · rcases h2 with h | h
      · exact g.1 h
      · exact g.2 h
  · have z_g2 := List.all_eq_true.mp (List.all_eq_true.mp z_two_geo2 P.side (List.mem_range.mpr hs)) fr (List.mem_range.mpr hf)
    simp only [Bool.or_eq_true, Bool.and_eq_true, decide_eq_true_eq, Bool.not_eq_true', decide_eq_false_iff_not] at z_g2
    rcases z_g2 with z_g2 | z_g2
    · exact absurd a3.1.1 z_g2
    · have e1 : to = (if P.side = 0 then fr + 16 else fr - 16) := a3.1.2.trans z_g2.1
      have r := a3.1.1
      have e2 : (fr + to) / 2 = (if P.side = 0 then fr + 8 else fr - 8) := by
        rcases hs2 with h | h
        · simp [h] at e1 r ⊢; omega
        · simp [h] at e1 r ⊢; omega
      refine ⟨r, e1, ?_, e2, a3.2⟩
      rw [e2, ← z_g2.2]; exact a2
  · exfalso
    rcases z_g1 with g | g
    · rw [g.2] at a4; exact absurd a4.1 (by decide)
    · rcases h2 with h | h
      · exact g.1 h
      · exact g.2 h
set_option maxRecDepth 100000 in
theorem z_okp_lt {P : z_Pos} (V : z_Val P) {fr to pr : Nat} (hf : fr < 64) (ht : to < 64) (ho : z_isOf (P.men fr) (nI P.side) = true) (hg : z_goalsB P fr to = true) (hpr : z_okp P fr pr) {cm : Nat → Int32} {sets : Nat → Int64} (hc : ∀ q, q < 64 → cm q = P.men q) (B : z_Bd P.men sets) : pr < 8 := by rcases hpr with h | h <;> omega
set_option maxRecDepth 100000 in
theorem z_sqPassed_eq {P : z_Pos} (V : z_Val P) {fr to pr : Nat} (hf : fr < 64) (ht : to < 64) (ho : z_isOf (P.men fr) (nI P.side) = true) (hg : z_goalsB P fr to = true) (hpr : z_okp P fr pr) {cm : Nat → Int32} {sets : Nat → Int64} (hc : ∀ q, q < 64 → cm q = P.men q) (B : z_Bd P.men sets) {b : St_Bo} (hb : z_BdM (z_mkMen P.men P.side P.passed fr to pr) b) :
    f_Po_squarePassed b (nI P.side) (P.men fr) (nI fr) (nI to) = z_pI (z_psd (z_mkMen P.men P.side P.passed fr to pr) (P.men fr &&& 7 = 1) P.side fr to) := by
  have hs := V.hs
  rw [f_Po_squarePassed]
  unfold z_psd
  by_cases c1 : P.men fr &&& 7 = 1
  · rw [if_pos c1]
    by_cases c2 : to = fr + 16 ∨ fr = to + 16
    · rw [if_pos ((z_abs2 ht hf).2.mpr c2), z_half_eq hf ht, show shl64 1 (nI ((fr + to) / 2)) = z_bt ((fr + to) / 2) from rfl, z_side_flip hs]
      obtain ⟨t1, t2, t3, t4, t5⟩ := z_two_steps V hf ht ho hg c1 c2
      have hm : (fr + to) / 2 < 64 := by omega
      have z : ∀ t, t < 64 → z_tb (f_Ra_byPawn (z_bt ((fr + to) / 2)) (nI P.side) &&& f_Bo_setOf b.2 1 (nI (1 - P.side))) t = (z_pnHit (decide (P.side = 0)) ((fr + to) / 2) t && decide (z_mkMen P.men P.side P.passed fr to pr t = nI (1 + 8 * (1 - P.side)))) := by
        intro t h64
        rw [z_tb_and, z_pawn_cls hs hm h64, show f_Bo_setOf b.2 1 (nI (1 - P.side)) = f_Bo_setOf b.2 (nI 1) (nI (1 - P.side)) from rfl, z_setOf_eq hb.bd (by decide) (by omega) h64]
      have geo : ∀ t, t < 64 → z_pnHit (decide (P.side = 0)) ((fr + to) / 2) t = (decide (t < 64) && (decide (t = z_nx 1 to) || decide (t = z_nx 0 to))) := by
        intro t h64
        have := z_all3 z_psd_geo hs hf h64
        simp only [t1, decide_true, Bool.not_true, Bool.false_or, beq_iff_eq] at this
        rw [t4, this, t2]
      have iff0 : (f_Ra_byPawn (z_bt ((fr + to) / 2)) (nI P.side) &&& f_Bo_setOf b.2 1 (nI (1 - P.side)) = 0) ↔ ¬ ((z_nx 1 to < 64 ∧ z_mkMen P.men P.side P.passed fr to pr (z_nx 1 to) = nI (1 + 8 * (1 - P.side))) ∨ (z_nx 0 to < 64 ∧ z_mkMen P.men P.side P.passed fr to pr (z_nx 0 to) = nI (1 + 8 * (1 - P.side)))) := by
        rw [z_eq0_iff]
        constructor
        · rintro h (⟨a, b'⟩ | ⟨a, b'⟩)
          · have := h _ a; rw [z _ a, geo _ a, b'] at this; simp [a] at this
          · have := h _ a; rw [z _ a, geo _ a, b'] at this; simp [a] at this
        · intro h t h64
          rw [z t h64, geo t h64, ← Bool.not_eq_true]
          intro g
          simp only [Bool.and_eq_true, Bool.or_eq_true, decide_eq_true_eq] at g
          obtain ⟨⟨-, z_g1 | z_g1⟩, z_g2⟩ := g
          · exact h (.inl ⟨by rw [← z_g1]; exact h64, by rw [← z_g1]; exact z_g2⟩)
          · exact h (.inr ⟨by rw [← z_g1]; exact h64, by rw [← z_g1]; exact z_g2⟩)
      by_cases c3 : f_Ra_byPawn (z_bt ((fr + to) / 2)) (nI P.side) &&& f_Bo_setOf b.2 1 (nI (1 - P.side)) = 0
      · rw [if_pos c3, if_neg (fun g => iff0.mp c3 g.2.2)]; rfl
      · rw [if_neg c3, if_pos ⟨c1, c2, Decidable.not_not.mp (fun g => c3 (iff0.mpr g))⟩, z_pI, if_pos hm]
    · rw [if_neg (fun g => c2 ((z_abs2 ht hf).2.mp g)), if_neg (fun g => c2 g.2.1)]; rfl
  · rw [if_neg c1, if_neg (fun g => c1 g.1)]; rfl
set_option maxRecDepth 100000 in
theorem z_cls_make {P : z_Pos} (V : z_Val P) {fr to pr : Nat} (hf : fr < 64) (ht : to < 64) (ho : z_isOf (P.men fr) (nI P.side) = true) (hg : z_goalsB P fr to = true) (hpr : z_okp P fr pr) {cm : Nat → Int32} {sets : Nat → Int64} (hc : ∀ q, q < 64 → cm q = P.men q) (B : z_Bd P.men sets) : ∃ b, z_BdM (z_mkPos P fr to pr).men b ∧ f_Po_make (cm, sets) (nI P.side) (nI P.rights) (z_pI P.passed) (nI P.clock) (nI P.number) (z_mv fr to pr) =
    (z_memI P fr to, b, nI (z_mkPos P fr to pr).side, nI (z_mkPos P fr to pr).rights, z_pI (z_mkPos P fr to pr).passed, nI (z_mkPos P fr to pr).clock, nI (z_mkPos P fr to pr).number) := by
  have hs := V.hs
  have hp8 := z_okp_lt V hf ht ho hg hpr hc B
  have tl := z_tk_lt V hc B hf ht ho hg
  obtain ⟨nm1, nm2, nm3, nm4⟩ := z_newM_enemy V hf ht ho hg hpr
  have v0 : z_vm 0 = true := by decide
  have e1 := z_mv_fr2 hf ht hp8
  have e2 := z_mv_to2 hf ht hp8
  have e3 := z_mv_pr2 hf ht hp8
  have ma : f_Bo_manAt cm (nI fr) = P.men fr := by rw [z_manAt_eq _ hf, hc fr hf]
  have mt : f_Bo_manAt cm (nI (z_tkSq P fr to)) = P.men (z_tkSq P fr to) := by rw [z_manAt_eq _ tl, hc _ tl]
  have st := z_sqTaken_eq V hc B hf ht ho hg
  have b0 : z_BdM P.men (cm, sets) := z_BdM.mk' hc B
  have b1 := b0.put tl v0
  have b2 := b1.put hf v0
  have b3 := b2.put ht nm4
  have hrt : nI P.rights &&& (((f_Po_rightsBoundTo (nI fr)) ||| (f_Po_rightsBoundTo (nI to))) ^^^ (-1)) = nI (z_rgt P.rights fr to) := by
    rw [z_bound_eq fr hf, z_bound_eq to ht, z_rgt_cls0 P.rights V.hr _ (z_lostN_mem fr) _ (z_lostN_mem to)]; rfl
  have hnum : nI P.number + nI P.side = nI (P.number + P.side) := z_nI_add _ _
  have fin : ∀ (R87 R96 R124 b : St_Bo) (k124 : Int32), z_BdM (z_mkMen P.men P.side P.passed fr to pr) b →
      f_Po_make_183 (cm, sets) (nI P.side) (nI P.rights) (z_pI P.passed) (nI P.clock) (nI P.number) (z_mv fr to pr) R87 R96 k124 R124 b =
      (z_memI P fr to, b, nI (z_mkPos P fr to pr).side, nI (z_mkPos P fr to pr).rights, z_pI (z_mkPos P fr to pr).passed, nI (z_mkPos P fr to pr).clock, nI (z_mkPos P fr to pr).number) := by
    intro R87 R96 R124 b k124 hb
    rw [f_Po_make_183, f_Po_make_230]
    simp only [f_Po_make_240, e1, e2, ma, st, mt, z_side_flip hs, hrt, hnum, z_sqPassed_eq V hf ht ho hg hpr hc B hb]
    have hclk : (P.men fr &&& 7 = 1 ∨ P.men to ≠ 0) ↔ (P.men fr &&& 7 = 1 ∨ P.men (z_tkSq P fr to) ≠ 0) := by
      by_cases h : P.men fr &&& 7 = 1 ∧ to = P.passed
      · simp [h.1]
      · rw [(z_tk_other V hf ht ho hg h).1]
    have hcl : (z_mkPos P fr to pr).clock = if P.men fr &&& 7 = 1 ∨ P.men (z_tkSq P fr to) ≠ 0 then 0 else P.clock + 1 := by
      show (if P.men fr &&& 7 = 1 ∨ P.men to ≠ 0 then 0 else P.clock + 1) = _
      simp only [hclk]
    rw [hcl]
    by_cases c1 : P.men fr &&& 7 = 1
    · rw [if_pos c1, if_pos (.inl c1)]; rfl
    · rw [if_neg c1]
      by_cases c2 : P.men (z_tkSq P fr to) = 0
      · rw [if_pos c2, if_neg (by simp [c1, c2]), show (1 : Int32) = nI 1 from rfl, z_nI_add]; rfl
      · rw [if_neg c2, if_pos (.inr c2)]; rfl
  rw [f_Po_make]
  dsimp only
  rw [e1, e2, ma, st, f_Po_make_r87, e1, f_Po_make_r96, e1, e3]
  dsimp only
  rw [ma]
  have k124 : ∀ b : St_Bo, z_BdM (upd (upd P.men (z_tkSq P fr to) 0) fr 0) b → ∀ R87 : St_Bo, ∃ b', z_BdM (z_mkPos P fr to pr).men b' ∧
      f_Po_make_124 (cm, sets) (nI P.side) (nI P.rights) (z_pI P.passed) (nI P.clock) (nI P.number) (z_mv fr to pr) R87 b (z_newM P fr pr) =
      (z_memI P fr to, b', nI (z_mkPos P fr to pr).side, nI (z_mkPos P fr to pr).rights, z_pI (z_mkPos P fr to pr).passed, nI (z_mkPos P fr to pr).clock, nI (z_mkPos P fr to pr).number) := by
    intro b hb R87
    rw [f_Po_make_124, e2, f_Po_make_r124, e1, e2]
    dsimp only
    rw [ma]
    have hb3 := hb.put ht nm4
    have hne := z_fr_ne_to V hf ht ho hg
    by_cases hca : z_isCa (P.men fr) fr to
    · obtain ⟨z_g1, z_g2, z_g3, g4, g5, g6, g7, g8, g9⟩ := z_ca_geo V hf ht ho hg hpr hca
      obtain ⟨f1, f2, f3, f4, f5, f6, f7, f8, f9⟩ := z_ca_facts V hf ht ho hg hca
      have hci : f_Po_isCastling (P.men fr) (nI fr) (nI to) = 1 := by
        rw [f_Po_isCastling, if_pos hca.1, if_pos]
        exact (z_abs2 ht hf).1.mpr hca.2
      rw [hci, if_neg (by decide)]
      have k155 : ∀ w : Nat, w < 2 → (56 * P.side + (if w = 0 then 7 else 0)) = z_corner fr to → ∃ b', z_BdM (z_mkPos P fr to pr).men b' ∧
          f_Po_make_155 (cm, sets) (nI P.side) (nI P.rights) (z_pI P.passed) (nI P.clock) (nI P.number) (z_mv fr to pr) R87 b (z_newM P fr pr) (f_Bo_put b.1 b.2 (nI to) (z_newM P fr pr)) (nI w) =
          (z_memI P fr to, b', nI (z_mkPos P fr to pr).side, nI (z_mkPos P fr to pr).rights, z_pI (z_mkPos P fr to pr).passed, nI (z_mkPos P fr to pr).clock, nI (z_mkPos P fr to pr).number) := by
        intro w hw hco
        have hrh : f_Po_rookHome (nI P.side) (nI w) = nI (z_corner fr to) := by
          rw [← hco]; exact (by decide : ∀ s, s < 2 → ∀ w, w < 2 → f_Po_rookHome (nI s) (nI w) = nI (56 * s + (if w = 0 then 7 else 0))) _ hs w hw
        have e4 : (4 : Int32) + 8 * nI P.side = nI (4 + 8 * P.side) := by rw [show (8 : Int32) = nI 8 from rfl, z_nI_mul, show (4 : Int32) = nI 4 from rfl, z_nI_add]
        rw [f_Po_make_155, hrh, f_Po_make_r159, e1, e2, z_half_eq hf ht, e4, f_Po_make_r180]
        have hb4 := hb3.put z_g1 v0
        have hb5 := hb4.put g6 (z_vm_nI 4 (by decide) P.side hs (by decide))
        have hfin : z_BdM (z_mkMen P.men P.side P.passed fr to pr) (f_Bo_put (f_Bo_put (f_Bo_put b.1 b.2 (nI to) (z_newM P fr pr)).1 (f_Bo_put b.1 b.2 (nI to) (z_newM P fr pr)).2 (nI (z_corner fr to)) 0).1 (f_Bo_put (f_Bo_put b.1 b.2 (nI to) (z_newM P fr pr)).1 (f_Bo_put b.1 b.2 (nI to) (z_newM P fr pr)).2 (nI (z_corner fr to)) 0).2 (nI ((fr + to) / 2)) (nI (4 + 8 * P.side))) := by
          refine hb5.to ?_
          intro q hq
          rw [z_mk_ca V hf ht ho hg hpr hca, g8]
          unfold upd
          by_cases c1 : q = fr
          · rw [if_neg (by rw [c1]; exact Ne.symm g4), if_neg (by rw [c1]; exact Ne.symm z_g2), if_neg (by rw [c1]; exact hne), if_pos c1, if_pos c1]
          by_cases c2 : q = to
          · rw [if_neg (by rw [c2]; exact Ne.symm g5), if_neg (by rw [c2]; exact Ne.symm z_g3), if_pos c2, if_neg c1, if_pos c2]
          by_cases c3 : q = z_corner fr to
          · rw [if_neg (by rw [c3]; exact g7), if_pos c3, if_neg c1, if_neg c2, if_pos c3]
          by_cases c4 : q = (fr + to) / 2
          · rw [if_pos c4, if_neg c1, if_neg c2, if_neg c3, if_pos c4]
          rw [if_neg c4, if_neg c3, if_neg c2, if_neg c1, if_neg c2, if_neg c1, if_neg c2, if_neg c3, if_neg c4]
        exact ⟨_, hfin, fin _ _ _ _ _ hfin⟩
      by_cases c : to ≤ fr
      · rw [if_pos ((z_nI_le (by omega) (by omega)).mpr c)]
        exact k155 1 (by decide) (by rw [f9]; simp; omega)
      · rw [if_neg (fun g => c ((z_nI_le (by omega) (by omega)).mp g))]
        exact k155 0 (by decide) (by rw [f9]; simp; omega)
    · have hci : f_Po_isCastling (P.men fr) (nI fr) (nI to) = 0 := by
        rw [f_Po_isCastling]
        by_cases c6 : P.men fr &&& 7 = 6
        · rw [if_pos c6, if_neg]
          intro g; exact hca ⟨c6, (z_abs2 ht hf).1.mp g⟩
        · rw [if_neg c6]
      rw [hci, if_pos rfl]
      have hfin : z_BdM (z_mkMen P.men P.side P.passed fr to pr) (f_Bo_put b.1 b.2 (nI to) (z_newM P fr pr)) := by
        refine hb3.to ?_
        intro q hq
        rw [z_mk_plain V hf ht ho hg hpr hca]
        unfold upd
        by_cases c1 : q = fr
        · rw [if_neg (by rw [c1]; exact hne), if_pos c1, if_pos c1]
        by_cases c2 : q = to
        · rw [if_pos c2, if_neg c1, if_pos c2]
        rw [if_neg c2, if_neg c1, if_neg c1, if_neg c2]
      exact ⟨_, hfin, fin _ _ _ _ _ hfin⟩
  have res := k124 _ b2
  by_cases c : pr = 0
  · have : z_newM P fr pr = P.men fr := by rw [z_newM, if_pos c]
    rw [if_pos (by rw [c]; rfl)]
    rw [this] at res
    exact res _
  · have : z_newM P fr pr = nI pr + 8 * nI P.side := by rw [z_newM, if_neg c, show (8 : Int32) = nI 8 from rfl, z_nI_mul, z_nI_add]
    have hn0 : ¬ nI pr = 0 := fun g => c ((z_nI_inj (a := pr) (b := 0) (by omega) (by omega)).mp g)
    rw [if_neg hn0]
    rw [this] at res
    exact res _
set_option maxRecDepth 100000 in
theorem z_pI_1 {p : Nat} (hp : p ≤ 64) : z_pI p + 1 = nI (if p < 64 then p + 1 else 0) := by
  unfold z_pI; split
  · rw [show (1 : Int32) = nI 1 from rfl, z_nI_add]
  · decide
set_option maxRecDepth 100000 in
theorem z_vm_nat {m : Int32} (h : z_vm m = true) : ∃ j, j < 16 ∧ m = nI j := (z_vm_15 h).2
set_option maxRecDepth 100000 in
theorem z_memI_dec {P : z_Pos} (hr : P.rights < 16) (hp : P.passed ≤ 64) (hcl : P.clock < 65536) {fr to : Nat} (hm : z_vm (P.men (z_tkSq P fr to)) = true) :
    z_memI P fr to &&& 15 = P.men (z_tkSq P fr to) ∧ (z_memI P fr to >>> ((4 : Int32) &&& 31)) &&& 15 = nI P.rights ∧ ((z_memI P fr to >>> ((8 : Int32) &&& 31)) &&& 127) - 1 = z_pI P.passed ∧ z_memI P fr to >>> ((15 : Int32) &&& 31) = nI P.clock := by
  obtain ⟨j, hj, e⟩ := z_vm_nat hm
  unfold z_memI
  rw [e, z_pI_1 hp]
  generalize hq : (if P.passed < 64 then P.passed + 1 else 0) = p1
  have hp1 : p1 < 128 := by rw [← hq]; split <;> omega
  rw [show (16 : Int32) = nI 16 from rfl, show (256 : Int32) = nI 256 from rfl, show (32768 : Int32) = nI 32768 from rfl, z_nI_mul, z_nI_mul, z_nI_mul, z_nI_add, z_nI_add, z_nI_add]
  rw [show ((4 : Int32) &&& 31) = nI 4 from by decide, show ((8 : Int32) &&& 31) = nI 8 from by decide, show ((15 : Int32) &&& 31) = nI 15 from by decide]
  rw [z_nI_shr (by omega) (by omega), z_nI_shr (by omega) (by omega), z_nI_shr (by omega) (by omega)]
  rw [show (15 : Int32) = nI (2 ^ 4 - 1) from rfl, show (127 : Int32) = nI (2 ^ 7 - 1) from rfl, z_nI_and, z_nI_and, z_nI_and, Nat.and_two_pow_sub_one_eq_mod, Nat.and_two_pow_sub_one_eq_mod, Nat.and_two_pow_sub_one_eq_mod]
  simp only [Nat.shiftRight_eq_div_pow]
  refine ⟨?_, ?_, ?_, ?_⟩
  · congr 1; omega
  · congr 1; omega
  · have : (j + 16 * P.rights + 256 * p1 + 32768 * P.clock) / 2 ^ 8 % 2 ^ 7 = p1 := by omega
    rw [this, ← hq]
    unfold z_pI; split
    · rw [show (1 : Int32) = nI 1 from rfl, z_nI_sub (by omega) (by omega)]; congr 1
    · decide
  · congr 1; omega
set_option maxRecDepth 100000 in
theorem z_lost_bit0 : ((List.range 64).all (fun q => (List.range 2).all (fun s => (List.range 2).all (fun w => (z_lostN q).testBit (2 * s + w) == (decide (q = 56 * s + 4) || decide (q = 56 * s + (if w = 0 then 7 else 0))))))) = true := by decide +kernel
set_option maxRecDepth 100000 in
theorem z_lost_bit {q s w : Nat} (hq : q < 64) (hs : s < 2) (hw : w < 2) : (z_lostN q).testBit (2 * s + w) = (decide (q = z_home s) || decide (q = 56 * s + (if w = 0 then 7 else 0))) := by
  have := z_all3 z_lost_bit0 hq hs hw
  rw [beq_iff_eq] at this
  exact this
set_option maxRecDepth 100000 in
theorem z_rgt_bit {r fr to s w : Nat} (hr : r < 16) (hf : fr < 64) (ht : to < 64) (hs : s < 2) (hw : w < 2) (h : (z_rgt r fr to).testBit (2 * s + w) = true) :
    r.testBit (2 * s + w) = true ∧ fr ≠ z_home s ∧ fr ≠ 56 * s + (if w = 0 then 7 else 0) ∧ to ≠ z_home s ∧ to ≠ 56 * s + (if w = 0 then 7 else 0) := by
  have h15 : (15 : Nat).testBit (2 * s + w) = true := (by decide : ∀ s, s < 2 → ∀ w, w < 2 → (15 : Nat).testBit (2 * s + w) = true) s hs w hw
  unfold z_rgt at h
  rw [Nat.testBit_and, Nat.testBit_and, Nat.testBit_xor, Nat.testBit_xor, z_lost_bit hf hs hw, z_lost_bit ht hs hw, h15] at h
  simp at h
  exact ⟨h.1.1, h.1.2.1, h.1.2.2, h.2.1, h.2.2⟩
set_option maxRecDepth 100000 in
theorem z_rgt_lt {r fr to : Nat} (hr : r < 16) : z_rgt r fr to < 16 := by
  unfold z_rgt
  exact Nat.lt_of_le_of_lt Nat.and_le_left (Nat.lt_of_le_of_lt Nat.and_le_left hr)
set_option maxRecDepth 100000 in
theorem z_sqT {P : z_Pos} (V : z_Val P) {fr to : Nat} (hf : fr < 64) (ht : to < 64) (ho : z_isOf (P.men fr) (nI P.side) = true) (hg : z_goalsB P fr to = true) : f_Po_squareOfTaken (nI P.side) (z_pI P.passed) (P.men fr) (nI to) = nI (z_tkSq P fr to) := by
  have hs := V.hs
  have hs2 : P.side = 0 ∨ P.side = 1 := by omega
  rw [f_Po_squareOfTaken]
  by_cases c1 : P.men fr &&& 7 = 1
  · rw [if_pos c1]
    by_cases c2 : to = P.passed
    · rw [if_pos ((z_pI_eq ht V.hp).mpr c2), f_Po_squareOfTaken_21, if_neg (by decide)]
      obtain ⟨-, -, e3, -⟩ := z_ep_facts V hf ht ho hg c1 c2
      have hh := z_ep_hit V hf ht ho hg c1 c2
      have geo := z_all2 z_pn_geo hf ht
      rw [z_tkSq, if_pos ⟨c1, c2⟩]
      rcases hs2 with h | h
      · rw [h] at hh ⊢; simp at hh; simp [hh] at geo
        rw [if_pos rfl]; exact z_nI_sub (b := 8) (by omega) (by omega)
      · rw [h] at hh ⊢; simp at hh; simp [hh] at geo
        rw [if_neg (by decide)]
        have : f_Ch_stepOf (nI 1) = -8 := by decide
        rw [this]
        exact (by decide : ∀ t, t < 64 → nI t - (-8) = nI (t + 8)) to ht
    · rw [if_neg (fun h => c2 ((z_pI_eq ht V.hp).mp h)), f_Po_squareOfTaken_20, f_Po_squareOfTaken_21, if_pos rfl, z_tkSq, if_neg (fun h => c2 h.2)]
  · rw [if_neg c1, f_Po_squareOfTaken_20, f_Po_squareOfTaken_21, if_pos rfl, z_tkSq, if_neg (fun h => c1 h.1)]
set_option maxRecDepth 100000 in
theorem z_isK_enemy {P : z_Pos} (V : z_Val P) {fr to pr : Nat} (hf : fr < 64) (ht : to < 64) (ho : z_isOf (P.men fr) (nI P.side) = true) (hg : z_goalsB P fr to = true) (hpr : z_okp P fr pr) {k : Nat} (hk : z_isK P.men (1 - P.side) k) : z_isK (z_mkMen P.men P.side P.passed fr to pr) (1 - P.side) k := by
  have hs := V.hs
  refine ⟨hk.1, ?_⟩
  intro q hq
  rw [← hk.2 q hq]
  have E := z_enemy_eq V hf ht ho hg hpr hq
  have f6 := z_nk_facts 6 (by decide) (by decide) (1 - P.side) (by omega)
  constructor
  · intro h
    have h1 := E.1
    rw [h, f6.1] at h1
    have h1 := h1.symm
    rw [Bool.and_eq_true] at h1
    rw [← E.2 h1.1 (by have := h1.2; simpa using this)]; exact h
  · intro h
    have hq1 : z_isOf (P.men q) (nI (1 - P.side)) = true := by rw [h]; exact f6.1
    have hqt : q ≠ z_tkSq P fr to := by
      intro e
      by_cases c : P.men fr &&& 7 = 1 ∧ to = P.passed
      · have := (z_ep_facts V hf ht ho hg c.1 c.2).2.2.2.2.2.1
        rw [← e, h] at this
        have := (z_nI_inj (by omega) (by omega)).mp this
        omega
      · rw [(z_tk_other V hf ht ho hg c).1] at e
        rw [e] at h
        exact z_to_not_king V hf ht ho hg h
    rw [E.2 hq1 hqt]; exact h
set_option maxRecDepth 100000 in
theorem z_vm_mk {P : z_Pos} (V : z_Val P) {fr to pr : Nat} (hf : fr < 64) (ht : to < 64) (ho : z_isOf (P.men fr) (nI P.side) = true) (hg : z_goalsB P fr to = true) (hpr : z_okp P fr pr) {q : Nat} (hq : q < 64) : z_vm (z_mkMen P.men P.side P.passed fr to pr q) = true := by
  have nm4 := (z_newM_enemy V hf ht ho hg hpr).2.2.2
  by_cases hca : z_isCa (P.men fr) fr to
  · rw [z_mk_ca V hf ht ho hg hpr hca]
    split; · decide
    split; · exact nm4
    split; · decide
    split; · exact z_vm_nI 4 (by decide) P.side V.hs (by decide)
    exact V.hv q hq
  · rw [z_mk_plain V hf ht ho hg hpr hca]
    split; · decide
    split; · exact nm4
    split; · decide
    exact V.hv q hq
set_option maxRecDepth 100000 in
theorem z_mk_same {P : z_Pos} (V : z_Val P) {fr to pr : Nat} (hf : fr < 64) (ht : to < 64) (ho : z_isOf (P.men fr) (nI P.side) = true) (hg : z_goalsB P fr to = true) (hpr : z_okp P fr pr) {q : Nat} (hq : q < 64) (h1 : q ≠ fr) (h2 : q ≠ to) (h3 : q ≠ z_tkSq P fr to) (h4 : z_isCa (P.men fr) fr to → q ≠ z_corner fr to ∧ q ≠ (fr + to) / 2) : z_mkMen P.men P.side P.passed fr to pr q = P.men q := by
  by_cases hca : z_isCa (P.men fr) fr to
  · rw [z_mk_ca V hf ht ho hg hpr hca, if_neg h1, if_neg h2, if_neg (h4 hca).1, if_neg (h4 hca).2]
  · rw [z_mk_plain V hf ht ho hg hpr hca, if_neg h1, if_neg h2, if_neg h3]
set_option maxRecDepth 100000 in
theorem z_mk_to {P : z_Pos} (V : z_Val P) {fr to pr : Nat} (hf : fr < 64) (ht : to < 64) (ho : z_isOf (P.men fr) (nI P.side) = true) (hg : z_goalsB P fr to = true) (hpr : z_okp P fr pr) : z_mkMen P.men P.side P.passed fr to pr to = z_newM P fr pr := by
  have hne := z_fr_ne_to V hf ht ho hg
  by_cases hca : z_isCa (P.men fr) fr to
  · rw [z_mk_ca V hf ht ho hg hpr hca, if_neg (Ne.symm hne), if_pos rfl]
  · rw [z_mk_plain V hf ht ho hg hpr hca, if_neg (Ne.symm hne), if_pos rfl]
set_option maxRecDepth 100000 in
theorem z_mk_fr {P : z_Pos} (V : z_Val P) {fr to pr : Nat} (hf : fr < 64) (ht : to < 64) (ho : z_isOf (P.men fr) (nI P.side) = true) (hg : z_goalsB P fr to = true) (hpr : z_okp P fr pr) : z_mkMen P.men P.side P.passed fr to pr fr = 0 := by
  by_cases hca : z_isCa (P.men fr) fr to
  · rw [z_mk_ca V hf ht ho hg hpr hca, if_pos rfl]
  · rw [z_mk_plain V hf ht ho hg hpr hca, if_pos rfl]
set_option maxRecDepth 100000 in
theorem z_psd_le {P : z_Pos} (V : z_Val P) {fr to pr : Nat} (hf : fr < 64) (ht : to < 64) (ho : z_isOf (P.men fr) (nI P.side) = true) (hg : z_goalsB P fr to = true) (hpr : z_okp P fr pr) {M : Nat → Int32} : z_psd M (P.men fr &&& 7 = 1) P.side fr to ≤ 64 := by
  unfold z_psd; split <;> omega
set_option maxRecDepth 100000 in
theorem z_val_mk {P : z_Pos} (V : z_Val P) {fr to pr : Nat} (hf : fr < 64) (ht : to < 64) (ho : z_isOf (P.men fr) (nI P.side) = true) (hg : z_goalsB P fr to = true) (hpr : z_okp P fr pr) {k : Nat} (hk : z_isK P.men P.side k) (hsafe : z_safeB P k fr to = true) (h0 : P.men fr &&& 7 = 1 → (to = fr + 16 ∨ fr = to + 16) → pr = 0) : z_Val (z_mkPos P fr to pr) := by
  have hs := V.hs
  have hK := z_isK_own V hf ht ho hg hpr hk
  refine ⟨?_, ?_, ?_, ?_, ?_, ?_, ?_, ?_⟩
  · show 1 - P.side < 2; omega
  · exact z_rgt_lt V.hr
  · exact z_psd_le V hf ht ho hg hpr
  · intro q hq; exact z_vm_mk V hf ht ho hg hpr hq
  · intro s hs2
    by_cases c : s = P.side
    · subst c; exact ⟨_, hK⟩
    · have : s = 1 - P.side := by omega
      subst this
      obtain ⟨k2, hk2⟩ := V.hk (1 - P.side) (by omega)
      exact ⟨k2, z_isK_enemy V hf ht ho hg hpr hk2⟩
  · intro s hs2 w hw hb
    have hb' : (z_rgt P.rights fr to).testBit (2 * s + w) = true := hb
    obtain ⟨b1, b2, b3, b4, b5⟩ := z_rgt_bit V.hr hf ht hs2 hw hb'
    have rk := V.rk s hs2 w hw b1
    have hh : z_home s < 64 := by unfold z_home; omega
    have hco : 56 * s + (if w = 0 then 7 else 0) < 64 := by split <;> omega
    have tkne : ∀ q, q < 64 → (P.men q = nI (6 + 8 * s) ∨ P.men q = nI (4 + 8 * s)) → q ≠ to → q ≠ z_tkSq P fr to := by
      intro q hq h hqt e
      by_cases c : P.men fr &&& 7 = 1 ∧ to = P.passed
      · have := (z_ep_facts V hf ht ho hg c.1 c.2).2.2.2.2.2.1
        rw [← e] at this
        rcases h with h | h <;> rw [h] at this <;> have := (z_nI_inj (by omega) (by omega)).mp this <;> omega
      · rw [(z_tk_other V hf ht ho hg c).1] at e; exact hqt e
    have cas : z_isCa (P.men fr) fr to → (z_home s ≠ z_corner fr to ∧ z_home s ≠ (fr + to) / 2) ∧ (56 * s + (if w = 0 then 7 else 0) ≠ z_corner fr to ∧ 56 * s + (if w = 0 then 7 else 0) ≠ (fr + to) / 2) := by
      intro hca
      obtain ⟨f1, -, -, -, -, -, -, -, f9⟩ := z_ca_facts V hf ht ho hg hca
      have hsn : s ≠ P.side := by intro e; rw [e] at b2; exact b2 f1
      unfold z_home at f1 ⊢
      rw [f9]
      have : (s = 0 ∧ P.side = 1) ∨ (s = 1 ∧ P.side = 0) := by omega
      rcases hca.2 with e | e <;> rcases this with ⟨u, v⟩ | ⟨u, v⟩ <;> subst u <;> rw [v] at f1 ⊢ <;> (constructor <;> constructor <;> (try split) <;> (try split) <;> omega)
    refine ⟨?_, ?_⟩
    · show z_mkMen P.men P.side P.passed fr to pr (z_home s) = _
      rw [z_mk_same V hf ht ho hg hpr hh (Ne.symm b2) (Ne.symm b4) (tkne _ hh (.inl rk.1) (Ne.symm b4)) (fun h => (cas h).1)]; exact rk.1
    · show z_mkMen P.men P.side P.passed fr to pr _ = _
      rw [z_mk_same V hf ht ho hg hpr hco (Ne.symm b3) (Ne.symm b5) (tkne _ hco (.inr rk.2) (Ne.symm b5)) (fun h => (cas h).2)]; exact rk.2
  · intro hp
    have hp' : z_psd (z_mkMen P.men P.side P.passed fr to pr) (P.men fr &&& 7 = 1) P.side fr to < 64 := hp
    unfold z_psd at hp'
    by_cases c : P.men fr &&& 7 = 1 ∧ (to = fr + 16 ∨ fr = to + 16) ∧ ((z_nx 1 to < 64 ∧ z_mkMen P.men P.side P.passed fr to pr (z_nx 1 to) = nI (1 + 8 * (1 - P.side))) ∨ (z_nx 0 to < 64 ∧ z_mkMen P.men P.side P.passed fr to pr (z_nx 0 to) = nI (1 + 8 * (1 - P.side))))
    · have ep : (z_mkPos P fr to pr).passed = (fr + to) / 2 := by
        show z_psd (z_mkMen P.men P.side P.passed fr to pr) (P.men fr &&& 7 = 1) P.side fr to = _
        unfold z_psd; rw [if_pos c]
      obtain ⟨t1, t2, t3, t4, t5⟩ := z_two_steps V hf ht ho hg c.1 c.2.1
      have hnca : ¬ z_isCa (P.men fr) fr to := fun h => by have := h.1; rw [c.1] at this; exact absurd this (by decide)
      have pr0 := h0 c.1 c.2.1
      have hnew : z_newM P fr pr = nI (1 + 8 * P.side) := by rw [z_newM, if_pos pr0]; exact z_pn_own V hf ht ho hg c.1
      rw [ep]
      have hmid : (fr + to) / 2 < 64 := by omega
      have htk : z_tkSq P fr to = to := by
        apply (z_tk_other V hf ht ho hg _).1
        rintro ⟨-, e⟩
        have := (V.pp (by omega)).2.1
        rw [← e, t2] at this
        have hs2 : P.side = 0 ∨ P.side = 1 := by omega
        rcases hs2 with h | h <;> simp [h] at this t1 <;> omega
      have m0 : z_mkMen P.men P.side P.passed fr to pr ((fr + to) / 2) = 0 := by
        rw [z_mk_same V hf ht ho hg hpr hmid (by rcases c.2.1 with h | h <;> omega) (by rcases c.2.1 with h | h <;> omega) (by rw [htk]; rcases c.2.1 with h | h <;> omega) (fun h => absurd h hnca)]
        rw [z_fre, decide_eq_true_eq] at t3; exact t3
      show z_mkMen P.men P.side P.passed fr to pr ((fr + to) / 2) = 0 ∧ (fr + to) / 2 / 8 = (if 1 - P.side = 0 then 5 else 2) ∧ z_mkMen P.men P.side P.passed fr to pr (if 1 - P.side = 0 then (fr + to) / 2 - 8 else (fr + to) / 2 + 8) = nI (1 + 8 * (1 - (1 - P.side))) ∧ z_mkMen P.men P.side P.passed fr to pr (if 1 - P.side = 0 then (fr + to) / 2 + 8 else (fr + to) / 2 - 8) = 0
      have hs2 : P.side = 0 ∨ P.side = 1 := by omega
      refine ⟨m0, ?_, ?_, ?_⟩
      · rcases hs2 with h | h <;> simp [h] at t1 t4 ⊢ <;> omega
      · have : (if 1 - P.side = 0 then (fr + to) / 2 - 8 else (fr + to) / 2 + 8) = to := by
          rcases hs2 with h | h <;> simp [h] at t1 t2 t4 ⊢ <;> omega
        rw [this, z_mk_to V hf ht ho hg hpr, hnew, show 1 - (1 - P.side) = P.side by omega]
      · have : (if 1 - P.side = 0 then (fr + to) / 2 + 8 else (fr + to) / 2 - 8) = fr := by
          rcases hs2 with h | h <;> simp [h] at t1 t2 t4 ⊢ <;> omega
        rw [this, z_mk_fr V hf ht ho hg hpr]
    · rw [if_neg c] at hp'; omega
  · intro k' hk'
    have hk'' : z_isK (z_mkMen P.men P.side P.passed fr to pr) P.side k' := by
      have hk2 : z_isK (z_mkMen P.men P.side P.passed fr to pr) (1 - (1 - P.side)) k' := hk'
      rwa [show 1 - (1 - P.side) = P.side by omega] at hk2
    have e : k' = z_nK P fr to k := by
      have := (hk''.2 k' hk''.1).mpr rfl
      exact (hK.2 k' hk''.1).mp this
    rw [e]
    show z_atk (z_mkMen P.men P.side P.passed fr to pr) (1 - P.side) (z_nK P fr to k) = false
    rw [z_safe_iff V hf ht ho hg hpr hk]
    rw [z_safeB, Bool.not_eq_true', z_safe_iff V hf ht ho hg (.inl rfl : z_okp P fr 0) hk] at hsafe
    exact hsafe
set_option maxRecDepth 100000 in
theorem z_cls_unmake {P : z_Pos} (V : z_Val P) {fr to pr : Nat} (hf : fr < 64) (ht : to < 64) (ho : z_isOf (P.men fr) (nI P.side) = true) (hg : z_goalsB P fr to = true) (hpr : z_okp P fr pr) (hcl : P.clock < 65536) {b : St_Bo} (hb : z_BdM (z_mkPos P fr to pr).men b) :
    ∃ b', z_BdM P.men b' ∧ f_Po_unmake b (nI (z_mkPos P fr to pr).side) (nI (z_mkPos P fr to pr).number) (z_mv fr to pr) (z_memI P fr to) = (b', nI P.side, nI P.rights, z_pI P.passed, nI P.clock, nI P.number) := by
  have hs := V.hs
  have hb : z_BdM (z_mkMen P.men P.side P.passed fr to pr) b := hb
  have hp8 : pr < 8 := by rcases hpr with h | h <;> omega
  have tl : z_tkSq P fr to < 64 := by
    by_cases h : P.men fr &&& 7 = 1 ∧ to = P.passed
    · exact (z_ep_facts V hf ht ho hg h.1 h.2).2.2.1
    · rw [(z_tk_other V hf ht ho hg h).1]; exact ht
  have vtk := V.hv _ tl
  obtain ⟨d1, d2, d3, d4⟩ := z_memI_dec V.hr V.hp hcl vtk
  have v0 : z_vm 0 = true := by decide
  have e1 := z_mv_fr2 hf ht hp8
  have e2 := z_mv_to2 hf ht hp8
  have e3 := z_mv_pr2 hf ht hp8
  have hne := z_fr_ne_to V hf ht ho hg
  have sf : (1 : Int32) - nI (1 - P.side) = nI P.side := by rw [z_side_flip (by omega)]; congr 1; omega
  show ∃ b', z_BdM P.men b' ∧ f_Po_unmake b (nI (1 - P.side)) (nI (P.number + P.side)) (z_mv fr to pr) (z_memI P fr to) = _
  have hn : nI (P.number + P.side) - nI P.side = nI P.number := by
    rw [← z_nI_add]; apply Int32.toBitVec_inj.mp; rw [Int32.toBitVec_sub, Int32.toBitVec_add]; exact BitVec.add_sub_cancel _ _
  have st : f_Po_squareOfTaken (nI P.side) (z_pI P.passed) (P.men fr) (nI to) = nI (z_tkSq P fr to) := by
    exact z_sqT V hf ht ho hg
  have f161 : ∀ (W : St_Bo) (M : Nat → Int32), z_BdM M W → (∀ q, q < 64 → upd (upd (upd M to 0) fr (P.men fr)) (z_tkSq P fr to) (P.men (z_tkSq P fr to)) q = P.men q) →
      ∃ b', z_BdM P.men b' ∧ f_Po_unmake_161 b (nI (1 - P.side)) (nI (P.number + P.side)) (z_mv fr to pr) (z_memI P fr to) (P.men fr) W = (b', nI P.side, nI P.rights, z_pI P.passed, nI P.clock, nI P.number) := by
    intro W M hW hM
    rw [f_Po_unmake_161, e2, f_Po_unmake_r168, e1, f_Po_unmake_r178, e2, d3, d1, sf, st, f_Po_unmake_r197, d2, d3, d4, sf, hn]
    have w1 := hW.put ht v0
    have w2 := w1.put hf (V.hv fr hf)
    have w3 := w2.put tl vtk
    exact ⟨_, w3.to hM, rfl⟩
  have key : ∃ b', z_BdM P.men b' ∧ f_Po_unmake_100 b (nI (1 - P.side)) (nI (P.number + P.side)) (z_mv fr to pr) (z_memI P fr to) (P.men fr) = (b', nI P.side, nI P.rights, z_pI P.passed, nI P.clock, nI P.number) := by
    rw [f_Po_unmake_100, e1, e2]
    by_cases hca : z_isCa (P.men fr) fr to
    · obtain ⟨z_g1, z_g2, z_g3, g4, g5, g6, g7, g8, g9⟩ := z_ca_geo V hf ht ho hg hpr hca
      obtain ⟨f1, f2, f3, f4, f5, f6, f7, f8, f9⟩ := z_ca_facts V hf ht ho hg hca
      have hci : f_Po_isCastling (P.men fr) (nI fr) (nI to) = 1 := by
        rw [f_Po_isCastling, if_pos hca.1, if_pos]
        exact (z_abs2 ht hf).1.mpr hca.2
      rw [hci, if_neg (by decide), z_half_eq hf ht, f_Po_unmake_r124, e1, e2]
      rw [z_fre, decide_eq_true_eq] at f4 f5
      have k146 : ∀ w : Nat, w < 2 → (56 * P.side + (if w = 0 then 7 else 0)) = z_corner fr to → ∃ b', z_BdM P.men b' ∧
          f_Po_unmake_146 b (nI (1 - P.side)) (nI (P.number + P.side)) (z_mv fr to pr) (z_memI P fr to) (P.men fr) (f_Bo_put b.1 b.2 (nI ((fr + to) / 2)) 0) (nI w) = (b', nI P.side, nI P.rights, z_pI P.passed, nI P.clock, nI P.number) := by
        intro w hw hco
        have hrh : f_Po_rookHome (nI P.side) (nI w) = nI (z_corner fr to) := by
          rw [← hco]; exact (by decide : ∀ s, s < 2 → ∀ w, w < 2 → f_Po_rookHome (nI s) (nI w) = nI (56 * s + (if w = 0 then 7 else 0))) _ hs w hw
        have e4 : (4 : Int32) + 8 * nI P.side = nI (4 + 8 * P.side) := by rw [show (8 : Int32) = nI 8 from rfl, z_nI_mul, show (4 : Int32) = nI 4 from rfl, z_nI_add]
        rw [f_Po_unmake_146, sf, hrh, e4, f_Po_unmake_r158]
        have w1 := hb.put g6 v0
        have w2 := w1.put z_g1 (z_vm_nI 4 (by decide) P.side hs (by decide))
        refine f161 _ _ w2 ?_
        intro q hq
        unfold upd
        rw [g8]
        by_cases c2 : q = to
        · rw [if_pos c2, c2]
        by_cases c1 : q = fr
        · rw [if_neg c2, if_pos c1, c1]
        rw [if_neg c2, if_neg c1, if_neg c2]
        by_cases c3 : q = z_corner fr to
        · rw [if_pos c3, c3, f3]
        rw [if_neg c3]
        by_cases c4 : q = (fr + to) / 2
        · rw [if_pos c4, c4, f4]
        rw [if_neg c4, z_mk_ca V hf ht ho hg hpr hca, if_neg c1, if_neg c2, if_neg c3, if_neg c4]
      by_cases c : to ≤ fr
      · rw [if_pos ((z_nI_le (by omega) (by omega)).mpr c)]
        exact k146 1 (by decide) (by rw [f9]; simp; omega)
      · rw [if_neg (fun g => c ((z_nI_le (by omega) (by omega)).mp g))]
        exact k146 0 (by decide) (by rw [f9]; simp; omega)
    · have hci : f_Po_isCastling (P.men fr) (nI fr) (nI to) = 0 := by
        rw [f_Po_isCastling]
        by_cases c6 : P.men fr &&& 7 = 6
        · rw [if_pos c6, if_neg]
          intro g; exact hca ⟨c6, (z_abs2 ht hf).1.mp g⟩
        · rw [if_neg c6]
      rw [hci, if_pos rfl]
      refine f161 b _ hb ?_
      intro q hq
      unfold upd
      by_cases c3 : q = z_tkSq P fr to
      · rw [if_pos c3, c3]
      rw [if_neg c3]
      by_cases c1 : q = fr
      · rw [if_pos c1, c1]
      rw [if_neg c1]
      by_cases c2 : q = to
      · rw [if_pos c2, c2]
        by_cases c : P.men fr &&& 7 = 1 ∧ to = P.passed
        · exact (z_ep_facts V hf ht ho hg c.1 c.2).2.2.2.2.2.2.symm
        · rw [(z_tk_other V hf ht ho hg c).1] at c3; exact absurd c2 c3
      rw [if_neg c2, z_mk_plain V hf ht ho hg hpr hca, if_neg c1, if_neg c2, if_neg c3]
  rw [f_Po_unmake, e2, e3]
  have bt' : f_Bo_manAt b.1 (nI to) = z_newM P fr pr := by rw [z_manAt_eq _ ht, hb.2 to ht, z_mk_to V hf ht ho hg hpr]
  rw [bt', sf]
  rcases hpr with h | ⟨h1, h2, h3⟩
  · rw [if_pos (by rw [h]; rfl), z_newM, if_pos h]; exact key
  · have hn0 : ¬ nI pr = 0 := fun g => by have := (z_nI_inj (a := pr) (b := 0) (by omega) (by omega)).mp g; omega
    have e4 : (1 : Int32) + 8 * nI P.side = P.men fr := by
      rw [z_pn_own V hf ht ho hg h3, show (8 : Int32) = nI 8 from rfl, z_nI_mul, show (1 : Int32) = nI 1 from rfl, z_nI_add]
    rw [if_neg hn0, e4]; exact key
def z_nL (n : Nat) : Int64 := Int64.ofNat n
set_option maxRecDepth 100000 in
theorem z_nL_add (a b : Nat) : z_nL a + z_nL b = z_nL (a + b) := by simp [z_nL, Int64.ofNat_add]
set_option maxRecDepth 100000 in
theorem z_nI_L {n : Nat} (h : n < 2147483648) : (nI n).toInt64 = z_nL n := by
  apply Int64.toInt_inj.mp
  rw [Int32.toInt_toInt64, z_nI_toInt h, z_nL, Int64.toInt_ofNat', show Int64.size = 18446744073709551616 from rfl, Int.bmod_eq_of_le] <;> omega
def z_kOf (P : z_Pos) : Nat := ((List.range 64).find? (fun q => decide (P.men q = nI (6 + 8 * P.side)))).getD 0
set_option maxRecDepth 100000 in
theorem z_kOf_is {P : z_Pos} (V : z_Val P) : z_isK P.men P.side (z_kOf P) := by
  obtain ⟨k, hk⟩ := V.hk P.side V.hs
  have : z_kOf P = k := by
    unfold z_kOf
    cases h : (List.range 64).find? (fun q => decide (P.men q = nI (6 + 8 * P.side))) with
    | none =>
      rw [List.find?_eq_none] at h
      have := h k (List.mem_range.mpr hk.1)
      simp [(hk.2 k hk.1).mpr rfl] at this
    | some j =>
      have h1 := List.find?_some h
      have h2 := List.mem_range.mp (List.mem_of_find?_eq_some h)
      simp only [decide_eq_true_eq] at h1
      exact (hk.2 j h2).mp h1
  rw [this]; exact hk
def z_all (P : z_Pos) : List Int32 := z_mvAll P (z_kOf P)
def z_mkM (P : z_Pos) (m : Int32) : z_Pos := z_mkPos P (m.toInt.toNat % 64) (m.toInt.toNat / 64 % 64) (m.toInt.toNat / 4096)
set_option maxRecDepth 100000 in
theorem z_mkM_mv {P : z_Pos} {fr to pr : Nat} (hf : fr < 64) (ht : to < 64) (hp : pr < 8) : z_mkM P (z_mv fr to pr) = z_mkPos P fr to pr := by
  unfold z_mkM z_mv
  rw [z_nI_toInt (by omega)]
  congr 1 <;> omega
def z_perft : Nat → z_Pos → Nat
  | 0, _ => 1
  | d + 1, P => ((z_all P).map (fun m => z_perft d (z_mkM P m))).sum
def z_RelP (W : St_Po) (P : z_Pos) : Prop := z_BdM P.men W.1 ∧ W.2 = (nI P.side, nI P.rights, z_pI P.passed, nI P.clock, nI P.number)
abbrev z_Leg (P : z_Pos) (m : Int32) : Prop :=
  ∃ fr to pr, fr < 64 ∧ to < 64 ∧ z_isOf (P.men fr) (nI P.side) = true ∧ z_goalsB P fr to = true ∧ z_safeB P (z_kOf P) fr to = true ∧ z_okp P fr pr ∧ pr < 8 ∧ m = z_mv fr to pr ∧ (P.men fr &&& 7 = 1 → (to = fr + 16 ∨ fr = to + 16) → pr = 0)
set_option maxRecDepth 100000 in
theorem z_mem_mv {P : z_Pos} (V : z_Val P) {k : Nat} {m : Int32} : m ∈ z_mvAll P k ↔ ∃ fr to pr, fr < 64 ∧ to < 64 ∧ z_legB P k fr to = true ∧ pr ∈ z_prc P fr ∧ m = z_mv fr to pr := by
  rw [z_mvAll, List.mem_flatMap]
  constructor
  · rintro ⟨fr, h1, h2⟩
    have hf := List.mem_range.mp h1
    rw [z_mvFrom, List.mem_flatMap] at h2
    obtain ⟨to, h3, h4⟩ := h2
    have ht := List.mem_range.mp h3
    rw [z_mvTo] at h4
    by_cases c : z_legB P k fr to = true
    · rw [if_pos c, List.mem_map] at h4
      obtain ⟨pr, h5, h6⟩ := h4
      have c' := c
      rw [z_legB, Bool.and_eq_true, Bool.and_eq_true] at c'
      refine ⟨fr, to, pr, hf, ht, c, ?_, h6.symm⟩
      rw [z_prs, z_last_bec V hf ht c'.1.1 c'.1.2] at h5; exact h5
    · rw [if_neg c] at h4; cases h4
  · rintro ⟨fr, to, pr, hf, ht, c, h5, rfl⟩
    have c' := c
    rw [z_legB, Bool.and_eq_true, Bool.and_eq_true] at c'
    refine ⟨fr, List.mem_range.mpr hf, ?_⟩
    rw [z_mvFrom, List.mem_flatMap]
    refine ⟨to, List.mem_range.mpr ht, ?_⟩
    rw [z_mvTo, if_pos c, List.mem_map]
    refine ⟨pr, ?_, rfl⟩
    rw [z_prs, z_last_bec V hf ht c'.1.1 c'.1.2]; exact h5
set_option maxRecDepth 100000 in
theorem z_leg_of {P : z_Pos} (V : z_Val P) {m : Int32} (h : m ∈ z_all P) : z_Leg P m := by
  obtain ⟨fr, to, pr, hf, ht, hl, hpr, e⟩ := (z_mem_mv V).mp h
  rw [z_legB, Bool.and_eq_true, Bool.and_eq_true] at hl
  refine ⟨fr, to, pr, hf, ht, hl.1.1, hl.1.2, hl.2, ?_, ?_, e, ?_⟩
  · unfold z_prc at hpr
    by_cases c : z_becB P fr = true
    · rw [if_pos c] at hpr
      rw [z_becB, Bool.and_eq_true, decide_eq_true_eq] at c
      right
      simp at hpr
      refine ⟨by omega, by omega, ?_⟩
      rw [c.1]; exact (z_nk_facts 1 (by decide) (by decide) P.side V.hs).2.2.1
    · rw [if_neg c] at hpr; left; simpa using hpr
  · unfold z_prc at hpr; split at hpr <;> simp at hpr <;> omega
  · intro h1 h2
    unfold z_prc at hpr
    by_cases c : z_becB P fr = true
    · exfalso
      rw [z_becB, Bool.and_eq_true, decide_eq_true_eq, decide_eq_true_eq] at c
      have := (z_two_steps V hf ht hl.1.1 hl.1.2 h1 h2).1
      have hs := V.hs
      have hs2 : P.side = 0 ∨ P.side = 1 := by omega
      rcases hs2 with g | g <;> simp [g] at this c <;> omega
    · rw [if_neg c] at hpr; simpa using hpr
set_option maxRecDepth 100000 in
theorem z_leg_val {P : z_Pos} (V : z_Val P) {m : Int32} (L : z_Leg P m) : z_Val (z_mkM P m) := by
  obtain ⟨fr, to, pr, hf, ht, ho, hg, hs, hpr, hp8, e, h0⟩ := L
  rw [e, z_mkM_mv hf ht hp8]
  exact z_val_mk V hf ht ho hg hpr (z_kOf_is V) hs h0
def z_memM (P : z_Pos) (m : Int32) : Int32 := z_memI P (m.toInt.toNat % 64) (m.toInt.toNat / 64 % 64)
set_option maxRecDepth 100000 in
theorem z_memM_mv {P : z_Pos} {fr to pr : Nat} (hf : fr < 64) (ht : to < 64) (hp : pr < 8) : z_memM P (z_mv fr to pr) = z_memI P fr to := by
  unfold z_memM z_mv
  rw [z_nI_toInt (by omega)]
  congr 1 <;> omega
set_option maxRecDepth 100000 in
theorem z_make_rel {P : z_Pos} (V : z_Val P) {W : St_Po} (R : z_RelP W P) {m : Int32} (L : z_Leg P m) :
    ∃ W', z_RelP W' (z_mkM P m) ∧ f_Po_make W.1 W.2.1 W.2.2.1 W.2.2.2.1 W.2.2.2.2.1 W.2.2.2.2.2 m = (z_memM P m, W') := by
  obtain ⟨fr, to, pr, hf, ht, ho, hg, hs, hpr, hp8, e, h0⟩ := L
  obtain ⟨b, hb, he⟩ := z_cls_make V hf ht ho hg hpr (cm := W.1.1) (sets := W.1.2) R.1.2 R.1.bd
  refine ⟨(b, nI (z_mkPos P fr to pr).side, nI (z_mkPos P fr to pr).rights, z_pI (z_mkPos P fr to pr).passed, nI (z_mkPos P fr to pr).clock, nI (z_mkPos P fr to pr).number), ?_, ?_⟩
  · rw [e, z_mkM_mv hf ht hp8]; exact ⟨hb, rfl⟩
  · rw [R.2, e, z_memM_mv hf ht hp8]; exact he
set_option maxRecDepth 100000 in
theorem z_unmake_rel {P : z_Pos} (V : z_Val P) (hcl : P.clock < 65536) {m : Int32} (L : z_Leg P m) {W : St_Po} (R : z_RelP W (z_mkM P m)) :
    z_RelP (f_Po_unmake W.1 W.2.1 W.2.2.2.2.2 m (z_memM P m)) P := by
  obtain ⟨fr, to, pr, hf, ht, ho, hg, hs, hpr, hp8, e, h0⟩ := L
  rw [e, z_mkM_mv hf ht hp8] at R
  obtain ⟨b', hb', he⟩ := z_cls_unmake V hf ht ho hg hpr hcl R.1
  rw [R.2, e, z_memM_mv hf ht hp8]
  dsimp only
  rw [he]; exact ⟨hb', rfl⟩
set_option maxRecDepth 100000 in
theorem z_mkM_clock (P : z_Pos) (m : Int32) : (z_mkM P m).clock ≤ P.clock + 1 := by
  unfold z_mkM z_mkPos z_Pos.clock; dsimp only; split
  · exact Nat.zero_le _
  · exact Nat.le_refl _
set_option maxRecDepth 100000 in
theorem z_sum_one : ∀ L : List Int32, (L.map (fun _ => 1)).sum = L.length := by
  intro L
  induction L with
  | nil => rfl
  | cons a L ih => rw [List.map_cons, List.sum_cons, ih, List.length_cons]; omega
set_option maxRecDepth 100000 in
theorem z_perft_1 (P : z_Pos) : z_perft 1 P = (z_all P).length := z_sum_one _
set_option maxRecDepth 100000 in
theorem z_all_len {P : z_Pos} (V : z_Val P) {W : St_Po} (R : z_RelP W P) : (z_all P).length ≤ 16384 := by
  have hk := z_kOf_is V
  rw [z_all, z_mvAll_eq V R.1.2 R.1.bd hk]
  have : ∀ L : List Nat, (∀ a ∈ L, (z_mvFrom P (z_kOf P) a).length ≤ 256) → (L.flatMap (z_mvFrom P (z_kOf P))).length ≤ L.length * 256 := by
    intro L
    induction L with
    | nil => intro _; simp
    | cons a L ih =>
      intro h
      rw [List.flatMap_cons, List.length_append, List.length_cons]
      have := h a List.mem_cons_self
      have := ih (fun b hb => h b (List.mem_cons_of_mem _ hb))
      omega
  have h := this (z_sq (f_Bo_allOf W.1.2 (nI P.side))) (fun a ha => by
    obtain ⟨h1, h2⟩ := z_mem_sq.mp ha
    rw [z_allOf_eq R.1.bd V.hs h1] at h2
    exact z_mvFrom_le V R.1.2 R.1.bd hk h1 h2)
  have h2 := z_sq_len V R.1.2 R.1.bd hk (f_Bo_allOf W.1.2 (nI P.side))
  omega
set_option maxRecDepth 100000 in
theorem z_count_moves {P : z_Pos} (V : z_Val P) {W : St_Po} (R : z_RelP W P) : f_Po_countMoves W.1 W.2.1 W.2.2.1 W.2.2.2.1 = nI (z_all P).length := by
  rw [R.2]; exact z_countMoves_eq V R.1.2 R.1.bd (z_kOf_is V)
set_option maxRecDepth 100000 in
theorem z_count_L0_1 {P : z_Pos} (V : z_Val P) {W : St_Po} (R : z_RelP W P) : f_Wa_count_L0 W.1 W.2.1 W.2.2.1 W.2.2.2.1 1 = z_nL (z_perft 1 P) := by
  have := z_all_len V R
  rw [f_Wa_count_L0, if_pos (by decide), if_pos rfl, z_count_moves V R, z_nI_L (by omega), z_perft_1]
set_option maxRecDepth 100000 in
theorem z_mv_mem {P : z_Pos} (V : z_Val P) {fr i : Nat} (hf : fr < 64) (hi : i < (z_mvFrom P (z_kOf P) fr).length) : (z_mvFrom P (z_kOf P) fr).getD i (-1) ∈ z_all P := by
  rw [z_all, z_mvAll, List.mem_flatMap]
  refine ⟨fr, List.mem_range.mpr hf, ?_⟩
  rw [List.getD_eq_getElem?_getD, List.getElem?_eq_getElem hi]; exact List.getElem_mem hi
set_option maxRecDepth 100000 in
theorem z_drop_sum {P : z_Pos} (V : z_Val P) (L : List Int32) (f : Int32 → Nat) {i : Nat} (hi : i < L.length) : ((L.drop i).map f).sum = f (L.getD i (-1)) + ((L.drop (i + 1)).map f).sum := by
  rw [List.drop_eq_getElem_cons hi, List.map_cons, List.sum_cons, List.getD_eq_getElem?_getD, List.getElem?_eq_getElem hi]; rfl
set_option maxRecDepth 100000 in
theorem z_from_L1 {P : z_Pos} (V : z_Val P) {S : St_Po} (RS : z_RelP S P) (hcl : P.clock < 65536) {fr : Nat} (hf : fr < 64) (ho : z_isOf (P.men fr) (nI P.side) = true) {ts : Int64} (hts : z_sq ts = (List.range 64).filter (z_legB P (z_kOf P) fr)) :
    ∀ n i acc W, z_RelP W P → i + n = (z_mvFrom P (z_kOf P) fr).length →
    ∃ W', z_RelP W' P ∧ f_Wa_countFrom_L1_18 S.1 S.2.1 S.2.2.1 S.2.2.2.1 S.2.2.2.2.1 S.2.2.2.2.2 (nI fr) ts 2 (n + 1) (z_nL acc) (nI i) W = (z_nL (acc + (((z_mvFrom P (z_kOf P) fr).drop i).map (fun m => z_perft 1 (z_mkM P m))).sum), W') := by
  have hk := z_kOf_is V
  have hm := z_mvFrom_le V RS.1.2 RS.1.bd hk hf ho
  have here : f_Lo_bitCount ts * f_Po_movesToOneTarget S.1 S.2.1 (nI fr) = nI (z_mvFrom P (z_kOf P) fr).length := by
    rw [RS.2, z_bitCount_eq, z_pc_len, hts, show f_Po_movesToOneTarget S.1 (nI P.side) (nI fr) = nI (z_prc P fr).length from z_prc_len V RS.1.2 RS.1.bd hk hf, z_nI_mul, z_mvFrom_len V RS.1.2 RS.1.bd hk hf ho]
  intro n
  induction n with
  | zero =>
    intro i acc W R h
    rw [f_Wa_countFrom_L1_18]; dsimp only
    rw [here, if_pos (by rw [show i = (z_mvFrom P (z_kOf P) fr).length by omega]; exact Int32.le_refl _)]
    refine ⟨W, R, ?_⟩
    rw [List.drop_eq_nil_of_le (by omega)]; rfl
  | succ n ih =>
    intro i acc W R h
    rw [f_Wa_countFrom_L1_18]; dsimp only
    rw [here, if_neg (by rw [z_nI_le (by omega) (by omega)]; omega)]
    have mm : f_Po_moveOfMan W.1 W.2.1 (nI fr) ts (nI i) = (z_mvFrom P (z_kOf P) fr).getD i (-1) := by
      rw [R.2]; exact z_moveOfMan_eq2 V R.1.2 R.1.bd hk hf ho hts (by omega)
    have L := z_leg_of V (z_mv_mem V hf (show i < (z_mvFrom P (z_kOf P) fr).length by omega))
    obtain ⟨W1, R1, e1⟩ := z_make_rel V R L
    have V1 := z_leg_val V L
    rw [mm, e1, f_Wa_countFrom_L1_r38, f_Wa_countFrom_L1_r61, mm]
    dsimp only
    have c1 := z_count_L0_1 V1 R1
    rw [show (2 : Int32) - 1 = 1 from by decide, c1, z_nL_add, show nI i + 1 = nI (i + 1) from z_nI_add i 1]
    obtain ⟨W', R', e'⟩ := ih (i + 1) (acc + z_perft 1 (z_mkM P ((z_mvFrom P (z_kOf P) fr).getD i (-1)))) _ (z_unmake_rel V hcl L R1) (by omega)
    refine ⟨W', R', ?_⟩
    rw [e', z_drop_sum V _ _ (show i < (z_mvFrom P (z_kOf P) fr).length by omega), Nat.add_assoc]
set_option maxRecDepth 100000 in
theorem z_flat_sum {P : z_Pos} (V : z_Val P) (f : Int32 → Nat) (g : Nat → List Int32) (q : Nat) (l : List Nat) : (((q :: l).flatMap g).map f).sum = ((g q).map f).sum + ((l.flatMap g).map f).sum := by
  rw [List.flatMap_cons, List.map_append, List.sum_append]
set_option maxRecDepth 100000 in
theorem z_count_L1_41 {P : z_Pos} (V : z_Val P) {S : St_Po} (RS : z_RelP S P) (hcl : P.clock < 65536) : ∀ n j v4 acc W, z_RelP W P → j + n = 64 → (z_sq v4).length ≤ n → (∀ q, q < 64 → z_tb v4 q = true → z_isOf (P.men q) (nI P.side) = true) →
    ∃ W', z_RelP W' P ∧ f_Wa_count_L1_41 S.1 S.2.1 S.2.2.1 S.2.2.2.1 S.2.2.2.2.1 S.2.2.2.2.2 2 (n + 1) v4 (z_nL acc) (nI j) W = (z_nL (acc + (((z_sq v4).flatMap (z_mvFrom P (z_kOf P))).map (fun m => z_perft 1 (z_mkM P m))).sum), W') := by
  have hk := z_kOf_is V
  intro n
  induction n with
  | zero =>
    intro j v4 acc W R h hl ho
    rw [f_Wa_count_L1_41]; dsimp only
    have : z_sq v4 = [] := List.length_eq_zero_iff.mp (by omega)
    rw [if_pos (by rw [show j = 64 by omega]; decide), this]; exact ⟨W, R, rfl⟩
  | succ n ih =>
    intro j v4 acc W R h hl ho
    rw [f_Wa_count_L1_41]; dsimp only
    rw [if_neg (z_nI_lt64 j (by omega))]
    by_cases cc : v4 = 0
    · rw [if_pos cc, (z_sq_nil_iff v4).mpr cc]; exact ⟨W, R, rfl⟩
    · rw [if_neg cc]
      obtain ⟨q, l, hql⟩ : ∃ q l, z_sq v4 = q :: l := by
        cases hh : z_sq v4 with
        | nil => exact absurd ((z_sq_nil_iff v4).mp hh) cc
        | cons q l => exact ⟨q, l, rfl⟩
      obtain ⟨hq, h1, -, -⟩ := z_sq_cons hql
      have hoq := ho q hq h1
      rw [z_lowest_eq hql]
      have hts : z_sq (f_Po_legalTargets W.1 W.2.1 W.2.2.1 W.2.2.2.1 (nI q) (f_Po_exposed S.1 S.2.1 S.2.2.2.1)) = (List.range 64).filter (z_legB P (z_kOf P) q) := by
        rw [R.2, RS.2]; exact z_sq_legal2 V R.1.2 R.1.bd hk RS.1.2 RS.1.bd hq hoq
      generalize f_Po_legalTargets W.1 W.2.1 W.2.2.1 W.2.2.2.1 (nI q) (f_Po_exposed S.1 S.2.1 S.2.2.2.1) = ts at hts ⊢
      have here : f_Lo_bitCount ts * f_Po_movesToOneTarget W.1 W.2.1 (nI q) = nI (z_mvFrom P (z_kOf P) q).length := by
        rw [R.2, z_bitCount_eq, z_pc_len, hts, show f_Po_movesToOneTarget W.1 (nI P.side) (nI q) = nI (z_prc P q).length from z_prc_len V R.1.2 R.1.bd hk hq, z_nI_mul, z_mvFrom_len V R.1.2 R.1.bd hk hq hoq]
      have hm := z_mvFrom_le V R.1.2 R.1.bd hk hq hoq
      obtain ⟨W1, R1, e1⟩ := z_from_L1 V R hcl hq hoq hts (z_mvFrom P (z_kOf P) q).length 0 0 W R (by omega)
      have e2 : f_Wa_countFrom_L1 W.1 W.2.1 W.2.2.1 W.2.2.2.1 W.2.2.2.2.1 W.2.2.2.2.2 (nI q) ts 2 = (z_nL (((z_mvFrom P (z_kOf P) q).map (fun m => z_perft 1 (z_mkM P m))).sum), W1) := by
        rw [f_Wa_countFrom_L1, here]
        have : ((nI (z_mvFrom P (z_kOf P) q).length).toInt - 0).toNat = (z_mvFrom P (z_kOf P) q).length := by rw [z_nI_toInt (by omega)]; omega
        rw [this]
        rw [List.drop_zero, Nat.zero_add] at e1
        exact e1
      rw [e2, f_Wa_count_L1_r75]
      dsimp only
      rw [z_nL_add, z_nI_add1 j (by omega)]
      obtain ⟨W', R', e'⟩ := ih (j + 1) (v4 &&& (v4 - 1)) (acc + ((z_mvFrom P (z_kOf P) q).map (fun m => z_perft 1 (z_mkM P m))).sum) W1 R1 (by omega) (by rw [z_rest_eq hql]; rw [hql, List.length_cons] at hl; omega)
        (fun t ht g => by rw [z_tb_rest hql ht, Bool.and_eq_true] at g; exact ho t ht g.1)
      refine ⟨W', R', ?_⟩
      rw [e', z_rest_eq hql, hql, z_flat_sum V, Nat.add_assoc]
set_option maxRecDepth 100000 in
theorem z_count_L1_eq {P : z_Pos} (V : z_Val P) {S : St_Po} (RS : z_RelP S P) (hcl : P.clock < 65536) {d : Nat} (hd : d = 1 ∨ d = 2) :
    ∃ W', z_RelP W' P ∧ f_Wa_count_L1 S.1 S.2.1 S.2.2.1 S.2.2.2.1 S.2.2.2.2.1 S.2.2.2.2.2 (nI d) = (z_nL (z_perft d P), W') := by
  have hk := z_kOf_is V
  rcases hd with rfl | rfl
  · have := z_all_len V RS
    refine ⟨S, RS, ?_⟩
    rw [f_Wa_count_L1, if_pos (by decide), if_pos (by decide), z_count_moves V RS, z_nI_L (by omega), z_perft_1]
  · rw [f_Wa_count_L1, if_pos (by decide), if_neg (by decide)]
    obtain ⟨W', R', e'⟩ := z_count_L1_41 V RS hcl 64 0 (f_Bo_allOf S.1.2 S.2.1) 0 S RS rfl (z_sq_len V RS.1.2 RS.1.bd hk _) (fun q hq h => by rw [RS.2] at h; rw [← z_allOf_eq RS.1.bd V.hs hq]; exact h)
    refine ⟨W', R', ?_⟩
    have e3 : z_perft 2 P = 0 + (((z_sq (f_Bo_allOf S.1.2 S.2.1)).flatMap (z_mvFrom P (z_kOf P))).map (fun m => z_perft 1 (z_mkM P m))).sum := by
      rw [Nat.zero_add, RS.2]
      show ((z_mvAll P (z_kOf P)).map (fun m => z_perft 1 (z_mkM P m))).sum = _
      rw [z_mvAll_eq V RS.1.2 RS.1.bd hk]
    rw [e3]; exact e'
set_option maxRecDepth 100000 in
theorem z_from_L2 {P : z_Pos} (V : z_Val P) {S : St_Po} (RS : z_RelP S P) (hcl : P.clock < 65535) {d : Nat} (hd : d = 1 ∨ d = 2) {fr : Nat} (hf : fr < 64) (ho : z_isOf (P.men fr) (nI P.side) = true) {ts : Int64} (hts : z_sq ts = (List.range 64).filter (z_legB P (z_kOf P) fr)) :
    ∀ n i acc W, z_RelP W P → i + n = (z_mvFrom P (z_kOf P) fr).length →
    ∃ W', z_RelP W' P ∧ f_Wa_countFrom_L2_18 S.1 S.2.1 S.2.2.1 S.2.2.2.1 S.2.2.2.2.1 S.2.2.2.2.2 (nI fr) ts (nI (d + 1)) (n + 1) (z_nL acc) (nI i) W = (z_nL (acc + (((z_mvFrom P (z_kOf P) fr).drop i).map (fun m => z_perft d (z_mkM P m))).sum), W') := by
  have hk := z_kOf_is V
  have hm := z_mvFrom_le V RS.1.2 RS.1.bd hk hf ho
  have here : f_Lo_bitCount ts * f_Po_movesToOneTarget S.1 S.2.1 (nI fr) = nI (z_mvFrom P (z_kOf P) fr).length := by
    rw [RS.2, z_bitCount_eq, z_pc_len, hts, show f_Po_movesToOneTarget S.1 (nI P.side) (nI fr) = nI (z_prc P fr).length from z_prc_len V RS.1.2 RS.1.bd hk hf, z_nI_mul, z_mvFrom_len V RS.1.2 RS.1.bd hk hf ho]
  have hd1 : nI (d + 1) - 1 = nI d := z_nI_sub (b := 1) (by omega) (by omega)
  intro n
  induction n with
  | zero =>
    intro i acc W R h
    rw [f_Wa_countFrom_L2_18]; dsimp only
    rw [here, if_pos (by rw [show i = (z_mvFrom P (z_kOf P) fr).length by omega]; exact Int32.le_refl _)]
    refine ⟨W, R, ?_⟩
    rw [List.drop_eq_nil_of_le (by omega)]; rfl
  | succ n ih =>
    intro i acc W R h
    rw [f_Wa_countFrom_L2_18]; dsimp only
    rw [here, if_neg (by rw [z_nI_le (by omega) (by omega)]; omega)]
    have mm : f_Po_moveOfMan W.1 W.2.1 (nI fr) ts (nI i) = (z_mvFrom P (z_kOf P) fr).getD i (-1) := by
      rw [R.2]; exact z_moveOfMan_eq2 V R.1.2 R.1.bd hk hf ho hts (by omega)
    have L := z_leg_of V (z_mv_mem V hf (show i < (z_mvFrom P (z_kOf P) fr).length by omega))
    obtain ⟨W1, R1, e1⟩ := z_make_rel V R L
    have V1 := z_leg_val V L
    have hc1 := z_mkM_clock P ((z_mvFrom P (z_kOf P) fr).getD i (-1))
    obtain ⟨W2, R2, e2⟩ := z_count_L1_eq V1 R1 (by omega) hd
    rw [mm, e1, f_Wa_countFrom_L2_r38]
    dsimp only
    rw [hd1, e2, f_Wa_countFrom_L2_r50, f_Wa_countFrom_L2_r61, mm]
    dsimp only
    rw [z_nL_add, show nI i + 1 = nI (i + 1) from z_nI_add i 1]
    obtain ⟨W', R', e'⟩ := ih (i + 1) (acc + z_perft d (z_mkM P ((z_mvFrom P (z_kOf P) fr).getD i (-1)))) _ (z_unmake_rel V (by omega) L R2) (by omega)
    refine ⟨W', R', ?_⟩
    rw [e', z_drop_sum V _ _ (show i < (z_mvFrom P (z_kOf P) fr).length by omega), Nat.add_assoc]
set_option maxRecDepth 100000 in
theorem z_count_L2_41 {P : z_Pos} (V : z_Val P) {S : St_Po} (RS : z_RelP S P) (hcl : P.clock < 65535) {d : Nat} (hd : d = 1 ∨ d = 2) : ∀ n j v4 acc W, z_RelP W P → j + n = 64 → (z_sq v4).length ≤ n → (∀ q, q < 64 → z_tb v4 q = true → z_isOf (P.men q) (nI P.side) = true) →
    ∃ W', z_RelP W' P ∧ f_Wa_count_L2_41 S.1 S.2.1 S.2.2.1 S.2.2.2.1 S.2.2.2.2.1 S.2.2.2.2.2 (nI (d + 1)) (n + 1) v4 (z_nL acc) (nI j) W = (z_nL (acc + (((z_sq v4).flatMap (z_mvFrom P (z_kOf P))).map (fun m => z_perft d (z_mkM P m))).sum), W') := by
  have hk := z_kOf_is V
  intro n
  induction n with
  | zero =>
    intro j v4 acc W R h hl ho
    rw [f_Wa_count_L2_41]; dsimp only
    have : z_sq v4 = [] := List.length_eq_zero_iff.mp (by omega)
    rw [if_pos (by rw [show j = 64 by omega]; decide), this]; exact ⟨W, R, rfl⟩
  | succ n ih =>
    intro j v4 acc W R h hl ho
    rw [f_Wa_count_L2_41]; dsimp only
    rw [if_neg (z_nI_lt64 j (by omega))]
    by_cases cc : v4 = 0
    · rw [if_pos cc, (z_sq_nil_iff v4).mpr cc]; exact ⟨W, R, rfl⟩
    · rw [if_neg cc]
      obtain ⟨q, l, hql⟩ : ∃ q l, z_sq v4 = q :: l := by
        cases hh : z_sq v4 with
        | nil => exact absurd ((z_sq_nil_iff v4).mp hh) cc
        | cons q l => exact ⟨q, l, rfl⟩
      obtain ⟨hq, h1, -, -⟩ := z_sq_cons hql
      have hoq := ho q hq h1
      rw [z_lowest_eq hql]
      have hts : z_sq (f_Po_legalTargets W.1 W.2.1 W.2.2.1 W.2.2.2.1 (nI q) (f_Po_exposed S.1 S.2.1 S.2.2.2.1)) = (List.range 64).filter (z_legB P (z_kOf P) q) := by
        rw [R.2, RS.2]; exact z_sq_legal2 V R.1.2 R.1.bd hk RS.1.2 RS.1.bd hq hoq
      generalize f_Po_legalTargets W.1 W.2.1 W.2.2.1 W.2.2.2.1 (nI q) (f_Po_exposed S.1 S.2.1 S.2.2.2.1) = ts at hts ⊢
      have here : f_Lo_bitCount ts * f_Po_movesToOneTarget W.1 W.2.1 (nI q) = nI (z_mvFrom P (z_kOf P) q).length := by
        rw [R.2, z_bitCount_eq, z_pc_len, hts, show f_Po_movesToOneTarget W.1 (nI P.side) (nI q) = nI (z_prc P q).length from z_prc_len V R.1.2 R.1.bd hk hq, z_nI_mul, z_mvFrom_len V R.1.2 R.1.bd hk hq hoq]
      have hm := z_mvFrom_le V R.1.2 R.1.bd hk hq hoq
      obtain ⟨W1, R1, e1⟩ := z_from_L2 V R hcl hd hq hoq hts (z_mvFrom P (z_kOf P) q).length 0 0 W R (by omega)
      have e2 : f_Wa_countFrom_L2 W.1 W.2.1 W.2.2.1 W.2.2.2.1 W.2.2.2.2.1 W.2.2.2.2.2 (nI q) ts (nI (d + 1)) = (z_nL (((z_mvFrom P (z_kOf P) q).map (fun m => z_perft d (z_mkM P m))).sum), W1) := by
        rw [f_Wa_countFrom_L2, here]
        have : ((nI (z_mvFrom P (z_kOf P) q).length).toInt - 0).toNat = (z_mvFrom P (z_kOf P) q).length := by rw [z_nI_toInt (by omega)]; omega
        rw [this]
        rw [List.drop_zero, Nat.zero_add] at e1
        exact e1
      rw [e2, f_Wa_count_L2_r75]
      dsimp only
      rw [z_nL_add, z_nI_add1 j (by omega)]
      obtain ⟨W', R', e'⟩ := ih (j + 1) (v4 &&& (v4 - 1)) (acc + ((z_mvFrom P (z_kOf P) q).map (fun m => z_perft d (z_mkM P m))).sum) W1 R1 (by omega) (by rw [z_rest_eq hql]; rw [hql, List.length_cons] at hl; omega)
        (fun t ht g => by rw [z_tb_rest hql ht, Bool.and_eq_true] at g; exact ho t ht g.1)
      refine ⟨W', R', ?_⟩
      rw [e', z_rest_eq hql, hql, z_flat_sum V, Nat.add_assoc]
set_option maxRecDepth 100000 in
theorem z_count_L2_eq {P : z_Pos} (V : z_Val P) {S : St_Po} (RS : z_RelP S P) (hcl : P.clock < 65535) {d : Nat} (hd : d ≤ 3) :
    ∃ W', z_RelP W' P ∧ f_Wa_count_L2 S.1 S.2.1 S.2.2.1 S.2.2.2.1 S.2.2.2.2.1 S.2.2.2.2.2 (nI d) = (z_nL (z_perft d P), W') := by
  have hk := z_kOf_is V
  have hd4 : d = 0 ∨ d = 1 ∨ d = 2 ∨ d = 3 := by omega
  have big : ∀ e : Nat, e = 1 ∨ e = 2 → ∃ W', z_RelP W' P ∧ f_Wa_count_L2 S.1 S.2.1 S.2.2.1 S.2.2.2.1 S.2.2.2.2.1 S.2.2.2.2.2 (nI (e + 1)) = (z_nL (z_perft (e + 1) P), W') := by
    intro e he
    have p1 : 0 < nI (e + 1) := by rcases he with rfl | rfl <;> decide
    have p2 : ¬ nI (e + 1) = 1 := by rcases he with rfl | rfl <;> decide
    rw [f_Wa_count_L2, if_pos p1, if_neg p2]
    obtain ⟨W', R', e'⟩ := z_count_L2_41 V RS hcl he 64 0 (f_Bo_allOf S.1.2 S.2.1) 0 S RS rfl (z_sq_len V RS.1.2 RS.1.bd hk _) (fun q hq h => by rw [RS.2] at h; rw [← z_allOf_eq RS.1.bd V.hs hq]; exact h)
    refine ⟨W', R', ?_⟩
    have e3 : z_perft (e + 1) P = 0 + (((z_sq (f_Bo_allOf S.1.2 S.2.1)).flatMap (z_mvFrom P (z_kOf P))).map (fun m => z_perft e (z_mkM P m))).sum := by
      rw [Nat.zero_add, RS.2]
      show ((z_mvAll P (z_kOf P)).map (fun m => z_perft e (z_mkM P m))).sum = _
      rw [z_mvAll_eq V RS.1.2 RS.1.bd hk]
    rw [e3]; exact e'
  rcases hd4 with rfl | rfl | rfl | rfl
  · exact ⟨S, RS, by rw [f_Wa_count_L2, if_neg (by decide)]; rfl⟩
  · have := z_all_len V RS
    refine ⟨S, RS, ?_⟩
    rw [f_Wa_count_L2, if_pos (by decide), if_pos (by decide), z_count_moves V RS, z_nI_L (by omega), z_perft_1]
  · exact big 1 (.inl rfl)
  · exact big 2 (.inr rfl)

set_option maxRecDepth 100000 in
theorem z_tb_rest {x : Int64} {q : Nat} {l : List Nat} (h : z_sq x = q :: l) {t : Nat} (ht : t < 64) : z_tb (x &&& (x - 1)) t = (z_tb x t && !decide (t = q)) := by
  obtain ⟨hq, h1, h2, h3⟩ := z_sq_cons h
  rw [z_tb_and, z_tb_sub_one h1 h2]
  by_cases a : t < q
  · simp [a, h2 t a]
  · by_cases b : t = q
    · simp [b]
    · simp [a, b]
set_option maxRecDepth 100000 in
theorem z_legal_54 {P : z_Pos} (V : z_Val P) {cm : Nat → Int32} {sets : Nat → Int64} (hc : ∀ q, q < 64 → cm q = P.men q) (B : z_Bd P.men sets) {k : Nat} (hk : z_isK P.men P.side k) {fr : Nat} (hf : fr < 64) (ho : z_isOf (P.men fr) (nI P.side) = true) (ex v48 : Int64) : ∀ n j v4 acc, j + n = 64 → (z_sq v4).length ≤ n → (∀ t, t < 64 → z_tb v4 t = true → z_goalsB P fr t = true) → ∀ t, t < 64 →
    z_tb (f_Po_legalTargets_54 (cm, sets) (nI P.side) (nI P.rights) (z_pI P.passed) (nI fr) ex v48 (n + 1) v4 acc (nI j)) t = (z_tb acc t || (z_tb v4 t && z_safeB P k fr t)) := by
  intro n
  induction n with
  | zero =>
    intro j v4 acc h hl hg t ht
    rw [f_Po_legalTargets_54]; dsimp only
    have : v4 = 0 := (z_sq_nil_iff v4).mp (List.length_eq_zero_iff.mp (by omega))
    rw [if_pos (by rw [show j = 64 by omega]; decide), this, z_tb_zero]; simp
  | succ n ih =>
    intro j v4 acc h hl hg t ht
    rw [f_Po_legalTargets_54]; dsimp only
    rw [if_neg (z_nI_lt64 j (by omega))]
    by_cases c : v4 = 0
    · rw [if_pos c, c, z_tb_zero]; simp
    · rw [if_neg c]
      obtain ⟨q, l, hql⟩ : ∃ q l, z_sq v4 = q :: l := by
        cases hh : z_sq v4 with
        | nil => exact absurd ((z_sq_nil_iff v4).mp hh) c
        | cons q l => exact ⟨q, l, rfl⟩
      obtain ⟨hq, h1, -, -⟩ := z_sq_cons hql
      have hgq := hg q hq h1
      rw [z_lowest_eq hql, z_keepsKingSafe_eq V hc B hk hf hq ho hgq, z_nI_add1 j (by omega), show shl64 1 (nI q) = z_bt q from rfl]
      have hl2 : (z_sq (v4 &&& (v4 - 1))).length ≤ n := by rw [z_rest_eq hql]; rw [hql, List.length_cons] at hl; omega
      have hg2 : ∀ t, t < 64 → z_tb (v4 &&& (v4 - 1)) t = true → z_goalsB P fr t = true := by
        intro t ht g; rw [z_tb_rest hql ht, Bool.and_eq_true] at g; exact hg t ht g.1
      cases hsf : z_safeB P k fr q
      · simp only [Bool.false_eq_true, if_false, if_true]
        rw [ih _ _ _ (by omega) hl2 hg2 t ht, z_tb_rest hql ht]
        by_cases d : t = q
        · subst d; simp [hsf]
        · simp [d]
      · simp only [if_true]
        rw [if_neg (by decide), ih _ _ _ (by omega) hl2 hg2 t ht, z_tb_rest hql ht, z_tb_or, z_tb_bt hq ht]
        by_cases d : t = q
        · subst d; simp [hsf, h1]
        · simp [d]
set_option maxRecDepth 100000 in
theorem z_castB_targets {P : z_Pos} (V : z_Val P) {cm : Nat → Int32} {sets : Nat → Int64} (hc : ∀ q, q < 64 → cm q = P.men q) (B : z_Bd P.men sets) {k : Nat} (hk : z_isK P.men P.side k) {fr : Nat} (hf : fr < 64) (ho : z_isOf (P.men fr) (nI P.side) = true) {t : Nat} (ht : t < 64) (h6 : P.men fr = nI (6 + 8 * P.side)) :
    z_goalsB P fr t = (z_tgtB P fr t || z_tb (f_Po_castlingTargets (cm, sets) (nI P.side) (nI P.rights)) t) := by
  have hs := V.hs
  have k6 := (z_nk_facts 6 (by decide) (by decide) P.side hs).2.2.1
  have n1 : ¬ P.men fr &&& 7 = 1 := by rw [h6, k6]; decide
  rw [z_goalsB, z_tgtB, if_neg n1, if_neg n1, z_castling_eq V hc B ht, z_castB]
  congr 1
  rw [h6, k6]
  cases hm1 : z_mayC P true
  · cases hm2 : z_mayC P false
    · simp
    · have hb : P.rights.testBit (2 * P.side + 1) = true := by
        simp only [z_mayC, Bool.and_eq_true, Bool.false_eq_true, if_false] at hm2; exact hm2.1.1.1
      have := z_isK_home V hs (w := 1) (by decide) hb
      have e : fr = z_home P.side := (this.2 fr hf).mp h6
      simp [e]; intro _; rfl
  · have hb : P.rights.testBit (2 * P.side + 0) = true := by
      simp only [z_mayC, Bool.and_eq_true, if_true] at hm1; exact hm1.1.1.1
    have := z_isK_home V hs (w := 0) (by decide) hb
    have e : fr = z_home P.side := (this.2 fr hf).mp h6
    simp [e]; intro _; rfl
set_option maxRecDepth 100000 in
theorem z_no_cast {P : z_Pos} (V : z_Val P) {cm : Nat → Int32} {sets : Nat → Int64} (hc : ∀ q, q < 64 → cm q = P.men q) (B : z_Bd P.men sets) {k : Nat} (hk : z_isK P.men P.side k) {fr : Nat} (hf : fr < 64) (ho : z_isOf (P.men fr) (nI P.side) = true) {t : Nat} (ht : t < 64) (h6 : P.men fr ≠ nI (6 + 8 * P.side)) : z_goalsB P fr t = z_tgtB P fr t := by
  rw [z_goalsB, z_tgtB]
  by_cases n1 : P.men fr &&& 7 = 1
  · rw [if_pos n1, if_pos n1]
  · rw [if_neg n1, if_neg n1]
    have : ¬ P.men fr &&& 7 = 6 := by
      intro e
      obtain ⟨j, k1, k2, je⟩ := z_own_cases V.hs (V.hv fr hf) ho
      have := (z_nk_facts j k1 k2 P.side V.hs).2.2.1
      rw [← je, e] at this
      have h := (z_nI_inj (a := 6) (b := j) (by omega) (by omega)).mp this
      rw [je, ← h] at h6; exact h6 rfl
    simp [z_castB, this]
set_option maxRecDepth 100000 in
theorem z_sq_len {P : z_Pos} (V : z_Val P) {cm : Nat → Int32} {sets : Nat → Int64} (hc : ∀ q, q < 64 → cm q = P.men q) (B : z_Bd P.men sets) {k : Nat} (hk : z_isK P.men P.side k) (x : Int64) : (z_sq x).length ≤ 64 := by rw [← z_pc_len]; exact z_pc_le x
set_option maxRecDepth 100000 in
theorem z_legalTargets_eq2 {P : z_Pos} (V : z_Val P) {cm : Nat → Int32} {sets : Nat → Int64} (hc : ∀ q, q < 64 → cm q = P.men q) (B : z_Bd P.men sets) {k : Nat} (hk : z_isK P.men P.side k) {cm2 : Nat → Int32} {sets2 : Nat → Int64} (hc2 : ∀ q, q < 64 → cm2 q = P.men q) (B2 : z_Bd P.men sets2) {fr : Nat} (hf : fr < 64) (ho : z_isOf (P.men fr) (nI P.side) = true) {t : Nat} (ht : t < 64) :
    z_tb (f_Po_legalTargets (cm, sets) (nI P.side) (nI P.rights) (z_pI P.passed) (nI fr) (f_Po_exposed (cm2, sets2) (nI P.side) (z_pI P.passed))) t = (z_goalsB P fr t && z_safeB P k fr t) := by
  have hs := V.hs
  have e6 : (6 : Int32) + 8 * nI P.side = nI (6 + 8 * P.side) := by rw [show (8 : Int32) = nI 8 from rfl, z_nI_mul, show (6 : Int32) = nI 6 from rfl, z_nI_add]
  rw [f_Po_legalTargets, z_holds_eq V hc B _ hf]
  dsimp only
  rw [z_manAt_eq _ hf, hc fr hf, e6]
  cases hx : z_tb (f_Po_exposed (cm2, sets2) (nI P.side) (z_pI P.passed)) fr
  · simp only [Bool.false_eq_true, if_false, if_true]
    rw [z_targetsFrom_eq V hc B hf ht ho]
    by_cases c6 : P.men fr = nI (6 + 8 * P.side)
    · -- the king is always among the exposed
      exfalso
      rw [f_Po_exposed, z_isInCheck_eq B2 hs hk] at hx
      cases hck : z_atk P.men (1 - P.side) k
      · rw [hck] at hx
        simp only [Bool.false_eq_true, if_false, if_true] at hx
        rw [z_tb_or, z_tb_or, z_setK B2 hs hk, z_tb_bt hk.1 hf] at hx
        simp [(hk.2 fr hf).mp c6] at hx
      · rw [hck] at hx
        simp only [if_true] at hx
        rw [if_neg (by decide), z_allOf_eq B2 hs hf, ho] at hx; cases hx
    · rw [← z_no_cast V hc B hk hf ho ht c6]
      cases hg : z_goalsB P fr t
      · rfl
      · rw [(z_not_exposed V hc2 B2 hk hf ht ho hg hx).1]; rfl
  · simp only [if_true]
    rw [if_neg (by decide)]
    have fin : ∀ v : Int64, (∀ t, t < 64 → z_tb v t = z_goalsB P fr t) → z_tb (f_Po_legalTargets_48 (cm, sets) (nI P.side) (nI P.rights) (z_pI P.passed) (nI fr) (f_Po_exposed (cm2, sets2) (nI P.side) (z_pI P.passed)) v) t = (z_goalsB P fr t && z_safeB P k fr t) := by
      intro v hv
      rw [f_Po_legalTargets_48]
      have := z_legal_54 V hc B hk hf ho (f_Po_exposed (cm2, sets2) (nI P.side) (z_pI P.passed)) v 64 0 v 0 rfl (z_sq_len V hc B hk v) (fun t ht g => by rw [← hv t ht]; exact g) t ht
      rw [show nI 0 = 0 from rfl, z_tb_zero, hv t ht] at this
      simpa using this
    by_cases c6 : P.men fr = nI (6 + 8 * P.side)
    · rw [if_pos c6]
      exact fin _ (fun t ht => by rw [z_tb_or, z_targetsFrom_eq V hc B hf ht ho, z_castB_targets V hc B hk hf ho ht c6])
    · rw [if_neg c6]
      exact fin _ (fun t ht => by rw [z_targetsFrom_eq V hc B hf ht ho, z_no_cast V hc B hk hf ho ht c6])
set_option maxRecDepth 100000 in
theorem z_legalTargets_eq {P : z_Pos} (V : z_Val P) {cm : Nat → Int32} {sets : Nat → Int64} (hc : ∀ q, q < 64 → cm q = P.men q) (B : z_Bd P.men sets) {k : Nat} (hk : z_isK P.men P.side k) {fr : Nat} (hf : fr < 64) (ho : z_isOf (P.men fr) (nI P.side) = true) {t : Nat} (ht : t < 64) :
    z_tb (f_Po_legalTargets (cm, sets) (nI P.side) (nI P.rights) (z_pI P.passed) (nI fr) (f_Po_exposed (cm, sets) (nI P.side) (z_pI P.passed))) t = (z_goalsB P fr t && z_safeB P k fr t) := z_legalTargets_eq2 V hc B hk hc B hf ho ht
def z_lastB (P : z_Pos) (fr to : Nat) : Bool := decide (P.men fr &&& 7 = 1) && (decide (to < 8) || decide (55 < to))
def z_prs (P : z_Pos) (fr to : Nat) : List Nat := if z_lastB P fr to then [2, 3, 4, 5] else [0]
def z_legB (P : z_Pos) (k fr to : Nat) : Bool := z_isOf (P.men fr) (nI P.side) && z_goalsB P fr to && z_safeB P k fr to
def z_mvTo (P : z_Pos) (k fr to : Nat) : List Int32 := if z_legB P k fr to then (z_prs P fr to).map (z_mv fr to) else []
def z_mvFrom (P : z_Pos) (k fr : Nat) : List Int32 := (List.range 64).flatMap (z_mvTo P k fr)
def z_mvAll (P : z_Pos) (k : Nat) : List Int32 := (List.range 64).flatMap (z_mvFrom P k)
def z_becB (P : z_Pos) (fr : Nat) : Bool := decide (P.men fr = nI (1 + 8 * P.side)) && decide (fr / 8 = if P.side = 0 then 6 else 1)
set_option maxRecDepth 100000 in
theorem z_last_geo : ((List.range 2).all (fun s => (List.range 64).all (fun q => (List.range 64).all (fun t => (!(decide (t = z_nx (z_upd8 s) q) || (decide (q / 8 = if s = 0 then 1 else 6) && decide (t = z_nx (z_upd8 s) (z_nx (z_upd8 s) q))) || z_pnHit (decide (s = 0)) q t)) || (decide ((t < 8 ∨ 55 < t) ↔ (q / 8 = if s = 0 then 6 else 1))))))) = true := by decide +kernel
set_option maxRecDepth 100000 in
theorem z_last_bec {P : z_Pos} (V : z_Val P) {fr to : Nat} (hf : fr < 64) (ht : to < 64) (ho : z_isOf (P.men fr) (nI P.side) = true) (hg : z_goalsB P fr to = true) : z_lastB P fr to = z_becB P fr := by
  have hs := V.hs
  unfold z_lastB z_becB
  by_cases n1 : P.men fr &&& 7 = 1
  · have e1 := z_pn_own V hf ht ho hg n1
    rw [z_goalsB, if_pos n1, z_pawnG] at hg
    have geo := z_all3 z_last_geo hs hf ht
    have hyp : (decide (to = z_nx (z_upd8 P.side) fr) || (decide (fr / 8 = if P.side = 0 then 1 else 6) && decide (to = z_nx (z_upd8 P.side) (z_nx (z_upd8 P.side) fr))) || z_pnHit (decide (P.side = 0)) fr to) = true := by
      simp only [Bool.or_eq_true, Bool.and_eq_true, decide_eq_true_eq] at hg ⊢
      rcases hg with ⟨-, g | g⟩ | g
      · exact .inl (.inl g)
      · exact .inl (.inr g.1)
      · exact .inr g.1
    rw [hyp] at geo
    simp only [Bool.not_true, Bool.false_or, decide_eq_true_eq] at geo
    rw [decide_eq_true n1, decide_eq_true e1, Bool.true_and, Bool.true_and, ← Bool.decide_or]
    exact decide_eq_decide.mpr geo
  · have : P.men fr ≠ nI (1 + 8 * P.side) := fun e => n1 (by rw [e]; exact (z_nk_facts 1 (by decide) (by decide) P.side hs).2.2.1)
    simp [n1, this]
set_option maxRecDepth 100000 in
theorem z_becomes_eq {P : z_Pos} (V : z_Val P) {cm : Nat → Int32} {sets : Nat → Int64} (hc : ∀ q, q < 64 → cm q = P.men q) (B : z_Bd P.men sets) {fr : Nat} (hf : fr < 64) : f_Po_becomesAnother (cm, sets) (nI P.side) (nI fr) = if z_becB P fr then 1 else 0 := by
  have hs := V.hs
  have e1 : (1 : Int32) + 8 * nI P.side = nI (1 + 8 * P.side) := by rw [show (8 : Int32) = nI 8 from rfl, z_nI_mul, show (1 : Int32) = nI 1 from rfl, z_nI_add]
  have e3 : nI fr >>> ((3 : Int32) &&& 31) = nI (fr / 8) := by
    rw [show ((3 : Int32) &&& 31) = nI 3 from by decide, z_nI_shr (by omega) (by omega), Nat.shiftRight_eq_div_pow]
  have key : ∀ r : Nat, r = (if P.side = 0 then 6 else 1) → f_Po_becomesAnother_13 (cm, sets) (nI P.side) (nI fr) (nI r) = if z_becB P fr then 1 else 0 := by
    intro r hr
    rw [f_Po_becomesAnother_13]
    dsimp only
    rw [z_manAt_eq _ hf, hc fr hf, e1, e3, z_becB, ← hr]
    have hrl : r < 8 := by rw [hr]; split <;> decide
    have := z_nI_inj (a := fr / 8) (b := r) (by omega) (by omega)
    by_cases c1 : P.men fr = nI (1 + 8 * P.side)
    · by_cases c2 : fr / 8 = r
      · simp [c1, c2]
      · simp [c1, c2, this]
    · simp [c1]
  rw [f_Po_becomesAnother]
  have hs2 : P.side = 0 ∨ P.side = 1 := by omega
  rcases hs2 with h | h
  · rw [if_pos (by rw [h]; decide)]; exact key 6 (by rw [h]; rfl)
  · rw [if_neg (by rw [h]; decide)]; exact key 1 (by rw [h]; rfl)
set_option maxRecDepth 100000 in
theorem z_flatMap_filter {α : Type} (f : Nat → List α) (p : Nat → Bool) : ∀ L : List Nat, (∀ a ∈ L, p a = false → f a = []) → (L.filter p).flatMap f = L.flatMap f := by
  intro L
  induction L with
  | nil => intro _; rfl
  | cons a L ih =>
    intro h
    have ih' := ih (fun b hb => h b (List.mem_cons_of_mem _ hb))
    cases hp : p a
    · rw [List.filter_cons_of_neg (by simp [hp]), ih', List.flatMap_cons, h a List.mem_cons_self hp, List.nil_append]
    · rw [List.filter_cons_of_pos hp, List.flatMap_cons, List.flatMap_cons, ih']
set_option maxRecDepth 100000 in
theorem z_flatMap_same {α : Type} {f g : Nat → List α} : ∀ L : List Nat, (∀ a ∈ L, f a = g a) → L.flatMap f = L.flatMap g := by
  intro L
  induction L with
  | nil => intro _; rfl
  | cons a L ih =>
    intro h
    rw [List.flatMap_cons, List.flatMap_cons, h a List.mem_cons_self, ih (fun b hb => h b (List.mem_cons_of_mem _ hb))]
def z_prc (P : z_Pos) (fr : Nat) : List Nat := if z_becB P fr then [2, 3, 4, 5] else [0]
set_option maxRecDepth 100000 in
theorem z_sq_legal {P : z_Pos} (V : z_Val P) {cm : Nat → Int32} {sets : Nat → Int64} (hc : ∀ q, q < 64 → cm q = P.men q) (B : z_Bd P.men sets) {k : Nat} (hk : z_isK P.men P.side k) {fr : Nat} (hf : fr < 64) (ho : z_isOf (P.men fr) (nI P.side) = true) :
    z_sq (f_Po_legalTargets (cm, sets) (nI P.side) (nI P.rights) (z_pI P.passed) (nI fr) (f_Po_exposed (cm, sets) (nI P.side) (z_pI P.passed))) = (List.range 64).filter (z_legB P k fr) := by
  unfold z_sq
  apply List.filter_congr
  intro t ht
  rw [z_legalTargets_eq V hc B hk hf ho (List.mem_range.mp ht), z_legB, ho, Bool.true_and]
set_option maxRecDepth 100000 in
theorem z_sq_legal2 {P : z_Pos} (V : z_Val P) {cm : Nat → Int32} {sets : Nat → Int64} (hc : ∀ q, q < 64 → cm q = P.men q) (B : z_Bd P.men sets) {k : Nat} (hk : z_isK P.men P.side k) {cm2 : Nat → Int32} {sets2 : Nat → Int64} (hc2 : ∀ q, q < 64 → cm2 q = P.men q) (B2 : z_Bd P.men sets2) {fr : Nat} (hf : fr < 64) (ho : z_isOf (P.men fr) (nI P.side) = true) :
    z_sq (f_Po_legalTargets (cm, sets) (nI P.side) (nI P.rights) (z_pI P.passed) (nI fr) (f_Po_exposed (cm2, sets2) (nI P.side) (z_pI P.passed))) = (List.range 64).filter (z_legB P k fr) := by
  unfold z_sq
  apply List.filter_congr
  intro t ht
  rw [z_legalTargets_eq2 V hc B hk hc2 B2 hf ho (List.mem_range.mp ht), z_legB, ho, Bool.true_and]
set_option maxRecDepth 100000 in
theorem z_mvFrom_eq {P : z_Pos} (V : z_Val P) {cm : Nat → Int32} {sets : Nat → Int64} (hc : ∀ q, q < 64 → cm q = P.men q) (B : z_Bd P.men sets) {k : Nat} (hk : z_isK P.men P.side k) {fr : Nat} (hf : fr < 64) (ho : z_isOf (P.men fr) (nI P.side) = true) :
    z_mvFrom P k fr = ((List.range 64).filter (z_legB P k fr)).flatMap (fun to => (z_prc P fr).map (z_mv fr to)) := by
  have h1 : z_mvFrom P k fr = ((List.range 64).filter (z_legB P k fr)).flatMap (z_mvTo P k fr) := by
    rw [z_flatMap_filter]; rfl
    intro a _ h; rw [z_mvTo, h]; rfl
  rw [h1]
  apply z_flatMap_same
  intro to hto
  rw [List.mem_filter, List.mem_range] at hto
  have hl := hto.2
  rw [z_legB, Bool.and_eq_true, Bool.and_eq_true] at hl
  rw [z_mvTo, if_pos hto.2, z_prs, z_prc, z_last_bec V hf hto.1 ho hl.1.2]
set_option maxRecDepth 100000 in
theorem z_mvAll_eq {P : z_Pos} (V : z_Val P) {cm : Nat → Int32} {sets : Nat → Int64} (hc : ∀ q, q < 64 → cm q = P.men q) (B : z_Bd P.men sets) {k : Nat} (hk : z_isK P.men P.side k) : z_mvAll P k = (z_sq (f_Bo_allOf sets (nI P.side))).flatMap (z_mvFrom P k) := by
  have : z_sq (f_Bo_allOf sets (nI P.side)) = (List.range 64).filter (fun q => z_isOf (P.men q) (nI P.side)) := by
    unfold z_sq
    apply List.filter_congr
    intro q hq
    exact z_allOf_eq B V.hs (List.mem_range.mp hq)
  rw [this, z_flatMap_filter]; rfl
  intro a _ h
  rw [z_mvFrom]
  apply List.flatMap_eq_nil_iff.mpr
  intro t _
  rw [z_mvTo, z_legB, h]; rfl
set_option maxRecDepth 100000 in
theorem z_prc_len {P : z_Pos} (V : z_Val P) {cm : Nat → Int32} {sets : Nat → Int64} (hc : ∀ q, q < 64 → cm q = P.men q) (B : z_Bd P.men sets) {k : Nat} (hk : z_isK P.men P.side k) {fr : Nat} (hf : fr < 64) : f_Po_movesToOneTarget (cm, sets) (nI P.side) (nI fr) = nI (z_prc P fr).length := by
  rw [f_Po_movesToOneTarget, z_becomes_eq V hc B hf, z_prc]
  cases z_becB P fr <;> rfl
set_option maxRecDepth 100000 in
theorem z_len_flat {P : z_Pos} (V : z_Val P) {cm : Nat → Int32} {sets : Nat → Int64} (hc : ∀ q, q < 64 → cm q = P.men q) (B : z_Bd P.men sets) {k : Nat} (hk : z_isK P.men P.side k) {α : Type} (f : Nat → List α) (c : Nat) : ∀ L : List Nat, (∀ a ∈ L, (f a).length = c) → (L.flatMap f).length = L.length * c := by
  intro L
  induction L with
  | nil => intro _; simp
  | cons a L ih =>
    intro h
    rw [List.flatMap_cons, List.length_append, h a List.mem_cons_self, ih (fun b hb => h b (List.mem_cons_of_mem _ hb)), List.length_cons, Nat.succ_mul, Nat.add_comm]
set_option maxRecDepth 100000 in
theorem z_mvFrom_len {P : z_Pos} (V : z_Val P) {cm : Nat → Int32} {sets : Nat → Int64} (hc : ∀ q, q < 64 → cm q = P.men q) (B : z_Bd P.men sets) {k : Nat} (hk : z_isK P.men P.side k) {fr : Nat} (hf : fr < 64) (ho : z_isOf (P.men fr) (nI P.side) = true) :
    (z_mvFrom P k fr).length = ((List.range 64).filter (z_legB P k fr)).length * (z_prc P fr).length := by
  rw [z_mvFrom_eq V hc B hk hf ho]
  exact z_len_flat V hc B hk _ _ _ (fun a _ => by rw [List.length_map])
set_option maxRecDepth 100000 in
theorem z_here_eq {P : z_Pos} (V : z_Val P) {cm : Nat → Int32} {sets : Nat → Int64} (hc : ∀ q, q < 64 → cm q = P.men q) (B : z_Bd P.men sets) {k : Nat} (hk : z_isK P.men P.side k) {fr : Nat} (hf : fr < 64) (ho : z_isOf (P.men fr) (nI P.side) = true) :
    f_Lo_bitCount (f_Po_legalTargets (cm, sets) (nI P.side) (nI P.rights) (z_pI P.passed) (nI fr) (f_Po_exposed (cm, sets) (nI P.side) (z_pI P.passed))) * f_Po_movesToOneTarget (cm, sets) (nI P.side) (nI fr) = nI (z_mvFrom P k fr).length := by
  rw [z_bitCount_eq, z_pc_len, z_sq_legal V hc B hk hf ho, z_prc_len V hc B hk hf, z_nI_mul, z_mvFrom_len V hc B hk hf ho]
set_option maxRecDepth 100000 in
theorem z_countMoves_23 {P : z_Pos} (V : z_Val P) {cm : Nat → Int32} {sets : Nat → Int64} (hc : ∀ q, q < 64 → cm q = P.men q) (B : z_Bd P.men sets) {k : Nat} (hk : z_isK P.men P.side k) : ∀ n j v3 (c : Nat), j + n = 64 → (z_sq v3).length ≤ n → (∀ q, q < 64 → z_tb v3 q = true → z_isOf (P.men q) (nI P.side) = true) →
    f_Po_countMoves_23 (cm, sets) (nI P.side) (nI P.rights) (z_pI P.passed) (n + 1) v3 (nI c) (nI j) = nI (c + ((z_sq v3).flatMap (z_mvFrom P k)).length) := by
  intro n
  induction n with
  | zero =>
    intro j v3 c h hl ho
    rw [f_Po_countMoves_23]; dsimp only
    have : z_sq v3 = [] := List.length_eq_zero_iff.mp (by omega)
    rw [if_pos (by rw [show j = 64 by omega]; decide), this]; rfl
  | succ n ih =>
    intro j v3 c h hl ho
    rw [f_Po_countMoves_23]; dsimp only
    rw [if_neg (z_nI_lt64 j (by omega))]
    by_cases cc : v3 = 0
    · rw [if_pos cc, (z_sq_nil_iff v3).mpr cc]; rfl
    · rw [if_neg cc]
      obtain ⟨q, l, hql⟩ : ∃ q l, z_sq v3 = q :: l := by
        cases hh : z_sq v3 with
        | nil => exact absurd ((z_sq_nil_iff v3).mp hh) cc
        | cons q l => exact ⟨q, l, rfl⟩
      obtain ⟨hq, h1, -, -⟩ := z_sq_cons hql
      rw [z_lowest_eq hql, z_here_eq V hc B hk hq (ho q hq h1), z_nI_add, z_nI_add1 j (by omega), ih _ _ _ (by omega) (by rw [z_rest_eq hql]; rw [hql, List.length_cons] at hl; omega)
        (fun t ht g => by rw [z_tb_rest hql ht, Bool.and_eq_true] at g; exact ho t ht g.1), z_rest_eq hql, hql, List.flatMap_cons, List.length_append, Nat.add_assoc]
set_option maxRecDepth 100000 in
theorem z_countMoves_eq {P : z_Pos} (V : z_Val P) {cm : Nat → Int32} {sets : Nat → Int64} (hc : ∀ q, q < 64 → cm q = P.men q) (B : z_Bd P.men sets) {k : Nat} (hk : z_isK P.men P.side k) : f_Po_countMoves (cm, sets) (nI P.side) (nI P.rights) (z_pI P.passed) = nI (z_mvAll P k).length := by
  rw [f_Po_countMoves, z_mvAll_eq V hc B hk]
  have := z_countMoves_23 V hc B hk 64 0 (f_Bo_allOf sets (nI P.side)) 0 rfl (z_sq_len V hc B hk _) (fun q hq h => by rw [← z_allOf_eq B V.hs hq]; exact h)
  rw [show nI 0 = 0 from rfl, Nat.zero_add] at this
  exact this
set_option maxRecDepth 100000 in
theorem z_hasMove_20 {P : z_Pos} (V : z_Val P) {cm : Nat → Int32} {sets : Nat → Int64} (hc : ∀ q, q < 64 → cm q = P.men q) (B : z_Bd P.men sets) {k : Nat} (hk : z_isK P.men P.side k) : ∀ n j v3, j + n = 64 → (z_sq v3).length ≤ n → (∀ q, q < 64 → z_tb v3 q = true → z_isOf (P.men q) (nI P.side) = true) →
    f_Po_hasMove_20 (cm, sets) (nI P.side) (nI P.rights) (z_pI P.passed) (n + 1) v3 (nI j) = if (z_sq v3).flatMap (z_mvFrom P k) = [] then 0 else 1 := by
  intro n
  induction n with
  | zero =>
    intro j v3 h hl ho
    rw [f_Po_hasMove_20]; dsimp only
    have : z_sq v3 = [] := List.length_eq_zero_iff.mp (by omega)
    rw [if_pos (by rw [show j = 64 by omega]; decide), this]; rfl
  | succ n ih =>
    intro j v3 h hl ho
    rw [f_Po_hasMove_20]; dsimp only
    rw [if_neg (z_nI_lt64 j (by omega))]
    by_cases cc : v3 = 0
    · rw [if_pos cc, (z_sq_nil_iff v3).mpr cc]; rfl
    · rw [if_neg cc]
      obtain ⟨q, l, hql⟩ : ∃ q l, z_sq v3 = q :: l := by
        cases hh : z_sq v3 with
        | nil => exact absurd ((z_sq_nil_iff v3).mp hh) cc
        | cons q l => exact ⟨q, l, rfl⟩
      obtain ⟨hq, h1, -, -⟩ := z_sq_cons hql
      have hoq := ho q hq h1
      rw [z_lowest_eq hql, z_nI_add1 j (by omega), ih _ _ (by omega) (by rw [z_rest_eq hql]; rw [hql, List.length_cons] at hl; omega)
        (fun t ht g => by rw [z_tb_rest hql ht, Bool.and_eq_true] at g; exact ho t ht g.1), z_rest_eq hql, hql, List.flatMap_cons]
      have hz : f_Po_legalTargets (cm, sets) (nI P.side) (nI P.rights) (z_pI P.passed) (nI q) (f_Po_exposed (cm, sets) (nI P.side) (z_pI P.passed)) = 0 ↔ z_mvFrom P k q = [] := by
        rw [← z_sq_nil_iff, z_sq_legal V hc B hk hq hoq, ← List.length_eq_zero_iff, ← List.length_eq_zero_iff, z_mvFrom_len V hc B hk hq hoq]
        have : 0 < (z_prc P q).length := by unfold z_prc; split <;> decide
        constructor
        · intro h; rw [h, Nat.zero_mul]
        · intro h; rcases Nat.mul_eq_zero.mp h with g | g
          · exact g
          · omega
      by_cases c2 : z_mvFrom P k q = []
      · rw [if_pos (hz.mpr c2), c2, List.nil_append]
      · rw [if_neg (fun g => c2 (hz.mp g)), if_neg (by simp [c2])]
set_option maxRecDepth 100000 in
theorem z_hasMove_eq {P : z_Pos} (V : z_Val P) {cm : Nat → Int32} {sets : Nat → Int64} (hc : ∀ q, q < 64 → cm q = P.men q) (B : z_Bd P.men sets) {k : Nat} (hk : z_isK P.men P.side k) : f_Po_hasMove (cm, sets) (nI P.side) (nI P.rights) (z_pI P.passed) = if z_mvAll P k = [] then 0 else 1 := by
  rw [f_Po_hasMove, z_mvAll_eq V hc B hk]
  have := z_hasMove_20 V hc B hk 64 0 (f_Bo_allOf sets (nI P.side)) rfl (z_sq_len V hc B hk _) (fun q hq h => by rw [← z_allOf_eq B V.hs hq]; exact h)
  exact this
set_option maxRecDepth 100000 in
theorem z_moveOfMan_45 {P : z_Pos} (V : z_Val P) {cm : Nat → Int32} {sets : Nat → Int64} (hc : ∀ q, q < 64 → cm q = P.men q) (B : z_Bd P.men sets) {k : Nat} (hk : z_isK P.men P.side k) (fr t0 kk : Int32) (ts : Int64) {sk becomes : Nat} : ∀ n j v7, j + n = sk → sk < 100 → n < (z_sq v7).length →
    f_Po_moveOfMan_45 (cm, sets) (nI P.side) fr ts kk (nI sk) (nI becomes) (n + 1) v7 (nI j) = fr + 64 * nI ((z_sq v7).getD n 0) + 4096 * nI becomes := by
  intro n
  induction n with
  | zero =>
    intro j v7 h hs hl
    rw [f_Po_moveOfMan_45]; dsimp only
    rw [if_pos (by rw [show j = sk by omega]; exact Int32.le_refl _)]
    cases hh : z_sq v7 with
    | nil => rw [hh] at hl; simp at hl
    | cons q l => rw [z_lowest_eq hh]; rfl
  | succ n ih =>
    intro j v7 h hs hl
    rw [f_Po_moveOfMan_45]; dsimp only
    rw [if_neg (by rw [z_nI_le (by omega) (by omega)]; omega)]
    cases hh : z_sq v7 with
    | nil => rw [hh] at hl; simp at hl
    | cons q l =>
      rw [hh, List.length_cons] at hl
      rw [show nI j + 1 = nI (j + 1) from z_nI_add j 1, ih _ _ (by omega) hs (by rw [z_rest_eq hh]; omega), z_rest_eq hh]; rfl
set_option maxRecDepth 100000 in
theorem z_getD_flat {c : Nat} (hc : 0 < c) (f : Nat → List Int32) : ∀ (L : List Nat), (∀ a ∈ L, (f a).length = c) → ∀ i, i < L.length * c → (L.flatMap f).getD i (-1) = (f (L.getD (i / c) 0)).getD (i % c) (-1) := by
  intro L
  induction L with
  | nil => intro _ i h; simp at h
  | cons a L ih =>
    intro h i hi
    have ha := h a List.mem_cons_self
    rw [List.flatMap_cons]
    rcases Nat.lt_or_ge i c with g | g
    · rw [List.getD_eq_getElem?_getD, List.getElem?_append_left (by omega), Nat.div_eq_of_lt g, Nat.mod_eq_of_lt g]; rfl
    · rw [List.getD_eq_getElem?_getD, List.getElem?_append_right (by omega), ha, ← List.getD_eq_getElem?_getD, ih (fun b hb => h b (List.mem_cons_of_mem _ hb)) (i - c) (by rw [List.length_cons, Nat.succ_mul] at hi; omega)]
      have e1 : i / c = (i - c) / c + 1 := by
        rw [← Nat.add_div_right _ hc]; congr 1; omega
      have e2 : i % c = (i - c) % c := by
        rw [Nat.mod_eq_sub_mod g]
      rw [e1, e2]; rfl
set_option maxRecDepth 100000 in
theorem z_mv_sum {fr to pr : Nat} : nI fr + 64 * nI to + 4096 * nI pr = z_mv fr to pr := by
  rw [show (64 : Int32) = nI 64 from rfl, show (4096 : Int32) = nI 4096 from rfl, z_nI_mul, z_nI_mul, z_nI_add, z_nI_add]; rfl
set_option maxRecDepth 100000 in
theorem z_and63 (x : Int32) : x &&& 63 = nI (x.toBitVec.toNat % 64) := by
  apply Int32.toBitVec_inj.mp
  apply BitVec.eq_of_toNat_eq
  rw [Int32.toBitVec_and, BitVec.toNat_and, z_nI_bv, BitVec.toNat_ofNat, show (63 : Int32).toBitVec.toNat = 2 ^ 6 - 1 from by decide, Nat.and_two_pow_sub_one_eq_mod]
  omega
set_option maxRecDepth 100000 in
theorem z_shr12 (m : Int32) : (m >>> ((12 : Int32) &&& 31)).toInt = m.toInt / 4096 := by
  rw [show ((12 : Int32) &&& 31) = nI 12 from by decide]
  show (m >>> nI 12).toBitVec.toInt = _
  rw [Int32.toBitVec_shiftRight, z_k31' 12 (by decide), BitVec.sshiftRight_eq', BitVec.toInt_sshiftRight]
  rw [Int.shiftRight_eq_div_pow]; rfl
set_option maxRecDepth 100000 in
theorem z_of_nonneg {m : Int32} (h : 0 ≤ m.toInt) : m = nI m.toInt.toNat := by
  have := Int32.toInt_lt m
  apply Int32.toInt_inj.mp
  rw [z_nI_toInt (by omega)]; omega
set_option maxRecDepth 100000 in
theorem z_mv_parts {m : Int32} {pr : Nat} (hp : pr < 8) (h : m >>> ((12 : Int32) &&& 31) = nI pr) : ∃ fr to, fr < 64 ∧ to < 64 ∧ m = z_mv fr to pr := by
  have e := congrArg Int32.toInt h
  rw [z_shr12, z_nI_toInt (by omega)] at e
  have h0 : 0 ≤ m.toInt := by omega
  refine ⟨m.toInt.toNat % 64, m.toInt.toNat / 64 % 64, by omega, by omega, ?_⟩
  rw [z_mv]
  have hn : m.toInt.toNat % 64 + 64 * (m.toInt.toNat / 64 % 64) + 4096 * pr = m.toInt.toNat := by omega
  rw [hn]; exact z_of_nonneg h0
set_option maxRecDepth 100000 in
theorem z_moveOfMan_eq2 {P : z_Pos} (V : z_Val P) {cm : Nat → Int32} {sets : Nat → Int64} (hc : ∀ q, q < 64 → cm q = P.men q) (B : z_Bd P.men sets) {k : Nat} (hk : z_isK P.men P.side k) {fr i : Nat} (hf : fr < 64) (ho : z_isOf (P.men fr) (nI P.side) = true) {ts : Int64} (hsl : z_sq ts = (List.range 64).filter (z_legB P k fr)) (hi : i < (z_mvFrom P k fr).length) :
    f_Po_moveOfMan (cm, sets) (nI P.side) (nI fr) ts (nI i) = (z_mvFrom P k fr).getD i (-1) := by
  have hlen := z_mvFrom_len V hc B hk hf ho
  have hle := z_sq_len V hc B hk ts
  rw [z_mvFrom_eq V hc B hk hf ho]
  rw [← hsl] at hlen ⊢
  have hpl : 0 < (z_prc P fr).length := by unfold z_prc; split <;> decide
  rw [z_getD_flat hpl (fun to => (z_prc P fr).map (z_mv fr to)) (z_sq ts) (fun a _ => by rw [List.length_map]) i (by rw [← hlen]; exact hi)]
  rw [f_Po_moveOfMan, f_Po_moveOfMan_17, f_Po_moveOfMan_17, z_becomes_eq V hc B hf]
  rw [hlen] at hi
  cases hb : z_becB P fr
  · have hp1 : z_prc P fr = [0] := by rw [z_prc, hb]; rfl
    rw [hp1, List.length_singleton, Nat.mul_one] at hi
    simp only [Bool.false_eq_true, if_false, if_true]
    rw [f_Po_moveOfMan_37, hp1, List.length_singleton, Nat.div_one, Nat.mod_one]
    have : ((nI i).toInt - 0).toNat = i := by rw [z_nI_toInt (by omega)]; omega
    rw [this]
    have := z_moveOfMan_45 V hc B hk (nI fr) 0 (nI i) ts (sk := i) (becomes := 0) i 0 ts (by omega) (by omega) hi
    rw [show nI 0 = 0 from rfl] at this
    rw [this, show (0 : Int32) = nI 0 from rfl, z_mv_sum]; rfl
  · have hp4 : z_prc P fr = [2, 3, 4, 5] := by rw [z_prc, hb]; rfl
    rw [hp4] at hi
    have hi4 : i < (z_sq ts).length * 4 := hi
    have d4 : nI i / 4 = nI (i / 4) := z_nI_div (b := 4) (by omega) (by decide) (by decide)
    have m4 : nI i - nI i / 4 * 4 = nI (i % 4) := z_nI_mod (b := 4) (by omega) (by decide) (by decide)
    simp only [if_true]
    rw [if_neg (by decide), if_neg (by decide), f_Po_moveOfMan_37, m4, d4, hp4]
    have : ((nI (i / 4)).toInt - 0).toNat = i / 4 := by rw [z_nI_toInt (by omega)]; omega
    rw [this, show (2 : Int32) + nI (i % 4) = nI (2 + i % 4) from z_nI_add 2 _]
    have := z_moveOfMan_45 V hc B hk (nI fr) 0 (nI i) ts (sk := i / 4) (becomes := 2 + i % 4) (i / 4) 0 ts (by omega) (by omega) (by omega)
    rw [show nI 0 = 0 from rfl] at this
    rw [this, z_mv_sum]
    show _ = ([2, 3, 4, 5].map (z_mv fr ((z_sq ts).getD (i / 4) 0))).getD (i % 4) (-1)
    have hm : i % 4 = 0 ∨ i % 4 = 1 ∨ i % 4 = 2 ∨ i % 4 = 3 := by omega
    rcases hm with h | h | h | h <;> rw [h] <;> rfl
set_option maxRecDepth 100000 in
theorem z_moveOfMan_eq {P : z_Pos} (V : z_Val P) {cm : Nat → Int32} {sets : Nat → Int64} (hc : ∀ q, q < 64 → cm q = P.men q) (B : z_Bd P.men sets) {k : Nat} (hk : z_isK P.men P.side k) {fr i : Nat} (hf : fr < 64) (ho : z_isOf (P.men fr) (nI P.side) = true) (hi : i < (z_mvFrom P k fr).length) :
    f_Po_moveOfMan (cm, sets) (nI P.side) (nI fr) (f_Po_legalTargets (cm, sets) (nI P.side) (nI P.rights) (z_pI P.passed) (nI fr) (f_Po_exposed (cm, sets) (nI P.side) (z_pI P.passed))) (nI i) = (z_mvFrom P k fr).getD i (-1) :=
  z_moveOfMan_eq2 V hc B hk hf ho (z_sq_legal V hc B hk hf ho) hi
set_option maxRecDepth 100000 in
theorem z_mvFrom_le {P : z_Pos} (V : z_Val P) {cm : Nat → Int32} {sets : Nat → Int64} (hc : ∀ q, q < 64 → cm q = P.men q) (B : z_Bd P.men sets) {k : Nat} (hk : z_isK P.men P.side k) {fr : Nat} (hf : fr < 64) (ho : z_isOf (P.men fr) (nI P.side) = true) : (z_mvFrom P k fr).length ≤ 256 := by
  rw [z_mvFrom_len V hc B hk hf ho]
  have h1 : ((List.range 64).filter (z_legB P k fr)).length ≤ 64 := by
    have := List.length_filter_le (z_legB P k fr) (List.range 64); rwa [List.length_range] at this
  have h2 : (z_prc P fr).length ≤ 4 := by unfold z_prc; split <;> decide
  calc _ ≤ 64 * 4 := Nat.mul_le_mul h1 h2
    _ = 256 := rfl
set_option maxRecDepth 100000 in
theorem z_inOrder_24 {P : z_Pos} (V : z_Val P) {cm : Nat → Int32} {sets : Nat → Int64} (hc : ∀ q, q < 64 → cm q = P.men q) (B : z_Bd P.men sets) {k : Nat} (hk : z_isK P.men P.side k) {kk : Nat} (hkk : kk < 2147483648) : ∀ n j v4 (b : Nat), j + n = 64 → (z_sq v4).length ≤ n → (∀ q, q < 64 → z_tb v4 q = true → z_isOf (P.men q) (nI P.side) = true) → b ≤ kk → b ≤ 256 * j →
    f_Po_moveInOrder_24 (cm, sets) (nI P.side) (nI P.rights) (z_pI P.passed) (nI kk) (n + 1) v4 (nI b) (nI j) = ((z_sq v4).flatMap (z_mvFrom P k)).getD (kk - b) (-1) := by
  intro n
  induction n with
  | zero =>
    intro j v4 b h hl ho hb hb2
    rw [f_Po_moveInOrder_24]; dsimp only
    have : z_sq v4 = [] := List.length_eq_zero_iff.mp (by omega)
    rw [if_pos (by rw [show j = 64 by omega]; decide), this]; rfl
  | succ n ih =>
    intro j v4 b h hl ho hb hb2
    rw [f_Po_moveInOrder_24]; dsimp only
    rw [if_neg (z_nI_lt64 j (by omega))]
    by_cases cc : v4 = 0
    · rw [if_pos cc, (z_sq_nil_iff v4).mpr cc]; rfl
    · rw [if_neg cc]
      obtain ⟨q, l, hql⟩ : ∃ q l, z_sq v4 = q :: l := by
        cases hh : z_sq v4 with
        | nil => exact absurd ((z_sq_nil_iff v4).mp hh) cc
        | cons q l => exact ⟨q, l, rfl⟩
      obtain ⟨hq, h1, -, -⟩ := z_sq_cons hql
      have hoq := ho q hq h1
      have hml := z_mvFrom_le V hc B hk hq hoq
      rw [z_lowest_eq hql, z_here_eq V hc B hk hq hoq, z_nI_add, z_nI_add1 j (by omega), hql, List.flatMap_cons]
      by_cases c2 : b + (z_mvFrom P k q).length ≤ kk
      · rw [if_pos ((z_nI_le (by omega) (by omega)).mpr c2), ih _ _ _ (by omega) (by rw [z_rest_eq hql]; rw [hql, List.length_cons] at hl; omega)
          (fun t ht g => by rw [z_tb_rest hql ht, Bool.and_eq_true] at g; exact ho t ht g.1) c2 (by omega), z_rest_eq hql]
        rw [List.getD_eq_getElem?_getD, List.getD_eq_getElem?_getD, List.getElem?_append_right (by omega), show kk - b - (z_mvFrom P k q).length = kk - (b + (z_mvFrom P k q).length) by omega]
      · rw [if_neg (fun g => c2 ((z_nI_le (by omega) (by omega)).mp g)), z_nI_sub hb (by omega), z_moveOfMan_eq V hc B hk hq hoq (by omega)]
        rw [List.getD_eq_getElem?_getD, List.getD_eq_getElem?_getD, List.getElem?_append_left (by omega)]
set_option maxRecDepth 100000 in
theorem z_moveInOrder_eq {P : z_Pos} (V : z_Val P) {cm : Nat → Int32} {sets : Nat → Int64} (hc : ∀ q, q < 64 → cm q = P.men q) (B : z_Bd P.men sets) {k : Nat} (hk : z_isK P.men P.side k) {kk : Nat} (hkk : kk < 2147483648) : f_Po_moveInOrder (cm, sets) (nI P.side) (nI P.rights) (z_pI P.passed) (nI kk) = (z_mvAll P k).getD kk (-1) := by
  rw [f_Po_moveInOrder, z_mvAll_eq V hc B hk]
  have := z_inOrder_24 V hc B hk hkk 64 0 (f_Bo_allOf sets (nI P.side)) 0 rfl (z_sq_len V hc B hk _) (fun q hq h => by rw [← z_allOf_eq B V.hs hq]; exact h) (by omega) (by omega)
  exact this
set_option maxRecDepth 100000 in
theorem z_legal_none {P : z_Pos} (V : z_Val P) {cm : Nat → Int32} {sets : Nat → Int64} (hc : ∀ q, q < 64 → cm q = P.men q) (B : z_Bd P.men sets) {k : Nat} (hk : z_isK P.men P.side k) {fr : Nat} (hf : fr < 64) (ho : z_isOf (P.men fr) (nI P.side) = false) (ex : Int64) : f_Po_legalTargets (cm, sets) (nI P.side) (nI P.rights) (z_pI P.passed) (nI fr) ex = 0 := by
  have hs := V.hs
  have ht : f_Po_targetsFrom (cm, sets) (nI P.side) (z_pI P.passed) (nI fr) = 0 := by
    rw [f_Po_targetsFrom]
    dsimp only
    rw [z_manAt_eq _ hf, hc fr hf]
    by_cases c : P.men fr = 0
    · rw [if_pos c]
    · rw [if_neg c, show ((3 : Int32) &&& 31) = 3 from by decide, if_neg]
      intro e; simp [z_isOf, c, e] at ho
  have e6 : (6 : Int32) + 8 * nI P.side = nI (6 + 8 * P.side) := by rw [show (8 : Int32) = nI 8 from rfl, z_nI_mul, show (6 : Int32) = nI 6 from rfl, z_nI_add]
  have hn6 : ¬ P.men fr = nI (6 + 8 * P.side) := by
    intro e; rw [e, (z_nk_facts 6 (by decide) (by decide) P.side hs).1] at ho; cases ho
  rw [f_Po_legalTargets, z_holds_eq V hc B _ hf]
  dsimp only
  rw [z_manAt_eq _ hf, hc fr hf, e6, ht, if_neg hn6]
  have z : f_Po_legalTargets_48 (cm, sets) (nI P.side) (nI P.rights) (z_pI P.passed) (nI fr) ex 0 = 0 := by
    rw [f_Po_legalTargets_48, f_Po_legalTargets_54]; dsimp only
    rw [if_neg (by decide), if_pos rfl]
  rw [z]; cases z_tb ex fr <;> rfl
set_option maxRecDepth 100000 in
theorem z_mem_mvAll {P : z_Pos} (V : z_Val P) {cm : Nat → Int32} {sets : Nat → Int64} (hc : ∀ q, q < 64 → cm q = P.men q) (B : z_Bd P.men sets) {k : Nat} (hk : z_isK P.men P.side k) {m : Int32} : m ∈ z_mvAll P k ↔ ∃ fr to pr, fr < 64 ∧ to < 64 ∧ z_legB P k fr to = true ∧ pr ∈ z_prc P fr ∧ m = z_mv fr to pr := by
  rw [z_mvAll, List.mem_flatMap]
  constructor
  · rintro ⟨fr, h1, h2⟩
    have hf := List.mem_range.mp h1
    rw [z_mvFrom, List.mem_flatMap] at h2
    obtain ⟨to, h3, h4⟩ := h2
    have ht := List.mem_range.mp h3
    rw [z_mvTo] at h4
    by_cases c : z_legB P k fr to = true
    · rw [if_pos c, List.mem_map] at h4
      obtain ⟨pr, h5, h6⟩ := h4
      have c' := c
      rw [z_legB, Bool.and_eq_true, Bool.and_eq_true] at c'
      refine ⟨fr, to, pr, hf, ht, c, ?_, h6.symm⟩
      rw [z_prs, z_last_bec V hf ht c'.1.1 c'.1.2] at h5; exact h5
    · rw [if_neg c] at h4; cases h4
  · rintro ⟨fr, to, pr, hf, ht, c, h5, rfl⟩
    have c' := c
    rw [z_legB, Bool.and_eq_true, Bool.and_eq_true] at c'
    refine ⟨fr, List.mem_range.mpr hf, ?_⟩
    rw [z_mvFrom, List.mem_flatMap]
    refine ⟨to, List.mem_range.mpr ht, ?_⟩
    rw [z_mvTo, if_pos c, List.mem_map]
    refine ⟨pr, ?_, rfl⟩
    rw [z_prs, z_last_bec V hf ht c'.1.1 c'.1.2]; exact h5
set_option maxRecDepth 100000 in
theorem z_mv_inj {P : z_Pos} (V : z_Val P) {cm : Nat → Int32} {sets : Nat → Int64} (hc : ∀ q, q < 64 → cm q = P.men q) (B : z_Bd P.men sets) {k : Nat} (hk : z_isK P.men P.side k) {fr to pr fr' to' pr' : Nat} (hf : fr < 64) (ht : to < 64) (hp : pr < 8) (hf' : fr' < 64) (ht' : to' < 64) (hp' : pr' < 8) (h : z_mv fr to pr = z_mv fr' to' pr') : fr = fr' ∧ to = to' ∧ pr = pr' := by
  have := (z_nI_inj (by omega) (by omega)).mp h
  omega
set_option maxRecDepth 100000 in
theorem z_isLegal_eq {P : z_Pos} (V : z_Val P) {cm : Nat → Int32} {sets : Nat → Int64} (hc : ∀ q, q < 64 → cm q = P.men q) (B : z_Bd P.men sets) {k : Nat} (hk : z_isK P.men P.side k) (m : Int32) : f_Po_isLegal (cm, sets) (nI P.side) (nI P.rights) (z_pI P.passed) m = if m ∈ z_mvAll P k then 1 else 0 := by
  have hs := V.hs
  have at3 : ∀ fr to pr : Nat, fr < 64 → to < 64 → pr < 8 → (m = z_mv fr to pr) → (m ∈ z_mvAll P k ↔ z_legB P k fr to = true ∧ pr ∈ z_prc P fr) := by
    intro fr to pr hf ht hp e
    rw [z_mem_mvAll V hc B hk]
    constructor
    · rintro ⟨fr', to', pr', hf', ht', c, h5, e'⟩
      have hp' : pr' < 8 := by
        unfold z_prc at h5; split at h5
        · simp at h5; omega
        · simp at h5; omega
      obtain ⟨rfl, rfl, rfl⟩ := z_mv_inj V hc B hk hf ht hp hf' ht' hp' (e.symm.trans e')
      exact ⟨c, h5⟩
    · rintro ⟨c, h5⟩; exact ⟨fr, to, pr, hf, ht, c, h5, e⟩
  have h57 : ∀ fr to pr : Nat, fr < 64 → to < 64 → pr < 8 → (m = z_mv fr to pr) → f_Po_isLegal_57 (cm, sets) (nI P.side) (nI P.rights) (z_pI P.passed) m 1 = if z_legB P k fr to = true then 1 else 0 := by
    intro fr to pr hf ht hp e
    rw [f_Po_isLegal_57, if_neg (by decide), e, z_mv_fr2 hf ht hp, z_mv_to2 hf ht hp, z_holds_eq V hc B _ ht]
    cases ho : z_isOf (P.men fr) (nI P.side)
    · rw [z_legal_none V hc B hk hf ho, z_tb_zero, z_legB, ho]; rfl
    · rw [z_legalTargets_eq V hc B hk hf ho ht, z_legB, ho, Bool.true_and]
      cases (z_goalsB P fr to && z_safeB P k fr to) <;> rfl
  have h0 : f_Po_isLegal_57 (cm, sets) (nI P.side) (nI P.rights) (z_pI P.passed) m 0 = 0 := by rw [f_Po_isLegal_57, if_pos rfl]
  have nfit : (∀ pr : Nat, pr < 8 → m >>> ((12 : Int32) &&& 31) = nI pr → pr ∉ z_prc P (m.toBitVec.toNat % 64)) → ¬ m ∈ z_mvAll P k := by
    intro h g
    rw [z_mem_mvAll V hc B hk] at g
    obtain ⟨fr, to, pr, hf, ht, c, h5, e⟩ := g
    have hp : pr < 8 := by
      unfold z_prc at h5; split at h5
      · simp at h5; omega
      · simp at h5; omega
    have e1 := z_mv_pr2 hf ht hp
    have e2 := z_mv_fr2 hf ht hp
    rw [← e] at e1 e2
    rw [z_and63] at e2
    have := (z_nI_inj (by omega) (by omega)).mp e2
    exact h pr hp e1 (by rw [this]; exact h5)
  have hfr : m &&& 63 = nI (m.toBitVec.toNat % 64) := z_and63 m
  have hf64 : m.toBitVec.toNat % 64 < 64 := by omega
  rw [f_Po_isLegal, f_Po_isLegal_43, h0, hfr, z_becomes_eq V hc B hf64]
  cases hb : z_becB P (m.toBitVec.toNat % 64)
  · simp only [Bool.false_eq_true, if_false, if_true]
    have hp0 : z_prc P (m.toBitVec.toNat % 64) = [0] := by rw [z_prc, hb]; rfl
    by_cases c : m >>> ((12 : Int32) &&& 31) = 0
    · rw [if_pos c]
      obtain ⟨fr, to, hf, ht, e⟩ := z_mv_parts (pr := 0) (by decide) c
      have efr : fr = m.toBitVec.toNat % 64 := by
        have := z_mv_fr2 hf ht (show 0 < 8 by decide)
        rw [← e, z_and63] at this
        exact ((z_nI_inj (by omega) (by omega)).mp this).symm
      rw [h57 fr to 0 hf ht (by decide) e]
      have a3 := at3 fr to 0 hf ht (by decide) e
      rw [efr, hp0] at a3
      rw [efr]
      simp only [List.mem_singleton, and_true] at a3
      by_cases g : z_legB P k (m.toBitVec.toNat % 64) to = true
      · rw [if_pos g, if_pos (a3.mpr g)]
      · rw [if_neg g, if_neg (fun h => g (a3.mp h))]
    · rw [if_neg c, if_neg]
      apply nfit
      intro pr hp e h5
      rw [hp0] at h5
      simp at h5
      rw [h5] at e; exact c e
  · simp only [if_true]
    rw [if_neg (by decide)]
    have hp4 : z_prc P (m.toBitVec.toNat % 64) = [2, 3, 4, 5] := by rw [z_prc, hb]; rfl
    by_cases c1 : m >>> ((12 : Int32) &&& 31) < 2
    · rw [if_pos c1, if_neg]
      apply nfit
      intro pr hp e h5
      rw [hp4] at h5
      rw [e, show (2 : Int32) = nI 2 from rfl, z_nI_lt (by omega) (by omega)] at c1
      simp at h5; omega
    · rw [if_neg c1]
      by_cases c2 : 5 < m >>> ((12 : Int32) &&& 31)
      · rw [if_pos c2, if_neg]
        apply nfit
        intro pr hp e h5
        rw [hp4] at h5
        rw [e, show (5 : Int32) = nI 5 from rfl, z_nI_lt (by omega) (by omega)] at c2
        simp at h5; omega
      · rw [if_neg c2]
        have b1 := Int32.not_lt.mp c1
        have b2 := Int32.not_lt.mp c2
        rw [Int32.le_iff_toInt_le] at b1 b2
        have t2 : (2 : Int32).toInt = 2 := by decide
        have t5 : (5 : Int32).toInt = 5 := by decide
        rw [t2] at b1; rw [t5] at b2
        obtain ⟨pr, hp2, hp5, epr⟩ : ∃ pr : Nat, 2 ≤ pr ∧ pr ≤ 5 ∧ m >>> ((12 : Int32) &&& 31) = nI pr := by
          refine ⟨(m >>> ((12 : Int32) &&& 31)).toInt.toNat, by omega, by omega, z_of_nonneg (by omega)⟩
        obtain ⟨fr, to, hf, ht, e⟩ := z_mv_parts (pr := pr) (by omega) epr
        have efr : fr = m.toBitVec.toNat % 64 := by
          have := z_mv_fr2 hf ht (show pr < 8 by omega)
          rw [← e, z_and63] at this
          exact ((z_nI_inj (by omega) (by omega)).mp this).symm
        rw [h57 fr to pr hf ht (by omega) e]
        have a3 := at3 fr to pr hf ht (by omega) e
        rw [efr, hp4] at a3
        rw [efr]
        have hin : pr ∈ [2, 3, 4, 5] := by simp; omega
        by_cases g : z_legB P k (m.toBitVec.toNat % 64) to = true
        · rw [if_pos g, if_pos (a3.mpr ⟨g, hin⟩)]
        · rw [if_neg g, if_neg (fun h => g (a3.mp h).1)]

set_option maxRecDepth 100000 in
theorem z_upd_same (f : Nat → Int32) (k : Nat) (x : Int32) : upd f k x k = x := by unfold upd; rw [if_pos rfl]
set_option maxRecDepth 100000 in
theorem z_upd_ne {f : Nat → Int32} {k j : Nat} (x : Int32) (h : j ≠ k) : upd f k x j = f j := by unfold upd; rw [if_neg h]
def z_kept (kM men : Nat → Int32) (lv q : Nat) : Nat → Int32 := fun j => if 64 * lv + q ≤ j ∧ j < 64 * lv + 64 then men (j - 64 * lv) else kM j
def z_keptR (kR : Nat → Int32) (lv : Nat) (a b c d e : Int32) : Nat → Int32 := upd (upd (upd (upd (upd kR (5 * lv) a) (5 * lv + 1) b) (5 * lv + 2) c) (5 * lv + 3) d) (5 * lv + 4) e
set_option maxRecDepth 100000 in
theorem z_keep_2 (men : Nat → Int32) (a b c d e : Int32) (kM kR : Nat → Int32) {lv : Nat} (hl : lv ≤ 5) : ∀ n q W, q + n = 64 →
    f_Mo_keep_2 men a b c d e kM kR (nI lv) (n + 1) (nI q) W = (z_kept W men lv q, z_keptR kR lv a b c d e) := by
  have i64 : ∀ q : Nat, q < 64 → ((64 : Int32) * nI lv + nI q).toNatClampNeg = 64 * lv + q := by
    intro q hq
    rw [show (64 : Int32) = nI 64 from rfl, z_nI_mul, z_nI_add, z_nI_clamp (by omega)]
  have i5 : ((5 : Int32) * nI lv).toNatClampNeg = 5 * lv := by
    rw [show (5 : Int32) = nI 5 from rfl, z_nI_mul, z_nI_clamp (by omega)]
  have i5k : ∀ k : Nat, k < 5 → ((5 : Int32) * nI lv + nI k).toNatClampNeg = 5 * lv + k := by
    intro k hk
    rw [show (5 : Int32) = nI 5 from rfl, z_nI_mul, z_nI_add, z_nI_clamp (by omega)]
  intro n
  induction n with
  | zero =>
    intro q W h
    rw [f_Mo_keep_2]; dsimp only
    rw [if_pos (by rw [show q = 64 by omega]; decide), i5]
    have h1 := i5k 1 (by decide); have h2 := i5k 2 (by decide); have h3 := i5k 3 (by decide); have h4 := i5k 4 (by decide)
    rw [show (5 * nI lv + 1 : Int32).toNatClampNeg = 5 * lv + 1 from h1, show (5 * nI lv + 2 : Int32).toNatClampNeg = 5 * lv + 2 from h2, show (5 * nI lv + 3 : Int32).toNatClampNeg = 5 * lv + 3 from h3, show (5 * nI lv + 4 : Int32).toNatClampNeg = 5 * lv + 4 from h4]
    have : z_kept W men lv q = W := by
      funext j; unfold z_kept; rw [if_neg (by omega)]
    rw [this]; rfl
  | succ n ih =>
    intro q W h
    have hq : q < 64 := by omega
    rw [f_Mo_keep_2]; dsimp only
    rw [if_neg (z_nI_lt64 q hq), i64 q hq, z_nI_clamp (by omega), z_nI_add1 q hq, ih (q + 1) _ (by omega)]
    have : z_kept (upd W (64 * lv + q) (men q)) men lv (q + 1) = z_kept W men lv q := by
      funext j; unfold z_kept upd
      by_cases c1 : j = 64 * lv + q
      · rw [if_neg (by omega), if_pos c1, if_pos (by omega)]; congr 1; omega
      · by_cases c2 : 64 * lv + q ≤ j ∧ j < 64 * lv + 64
        · rw [if_pos (by omega), if_pos c2]
        · rw [if_neg (by omega), if_neg c1, if_neg c2]
    rw [this]
set_option maxRecDepth 100000 in
theorem z_keep_eq (men : Nat → Int32) (a b c d e : Int32) (kM kR : Nat → Int32) {lv : Nat} (hl : lv ≤ 5) :
    f_Mo_keep men a b c d e kM kR (nI lv) = (z_kept kM men lv 0, z_keptR kR lv a b c d e) :=
  z_keep_2 men a b c d e kM kR hl 64 0 kM rfl
def z_brought (men kM : Nat → Int32) (lv q : Nat) : Nat → Int32 := fun j => if q ≤ j ∧ j < 64 then kM (64 * lv + j) else men j
set_option maxRecDepth 100000 in
theorem z_bring_2 (men : Nat → Int32) (a b c d e : Int32) (kM kR : Nat → Int32) {lv : Nat} (hl : lv ≤ 5) : ∀ n q W, q + n = 64 →
    f_Mo_bringBack_2 men a b c d e kM kR (nI lv) (n + 1) (nI q) W = (z_brought W kM lv q, kR (5 * lv), kR (5 * lv + 1), kR (5 * lv + 2), kR (5 * lv + 3), kR (5 * lv + 4)) := by
  have i64 : ∀ q : Nat, q < 64 → ((64 : Int32) * nI lv + nI q).toNatClampNeg = 64 * lv + q := by
    intro q hq
    rw [show (64 : Int32) = nI 64 from rfl, z_nI_mul, z_nI_add, z_nI_clamp (by omega)]
  have i5 : ((5 : Int32) * nI lv).toNatClampNeg = 5 * lv := by
    rw [show (5 : Int32) = nI 5 from rfl, z_nI_mul, z_nI_clamp (by omega)]
  have i5k : ∀ k : Nat, k < 5 → ((5 : Int32) * nI lv + nI k).toNatClampNeg = 5 * lv + k := by
    intro k hk
    rw [show (5 : Int32) = nI 5 from rfl, z_nI_mul, z_nI_add, z_nI_clamp (by omega)]
  intro n
  induction n with
  | zero =>
    intro q W h
    rw [f_Mo_bringBack_2]; dsimp only
    rw [if_pos (by rw [show q = 64 by omega]; decide), i5]
    have h1 := i5k 1 (by decide); have h2 := i5k 2 (by decide); have h3 := i5k 3 (by decide); have h4 := i5k 4 (by decide)
    rw [show (5 * nI lv + 1 : Int32).toNatClampNeg = 5 * lv + 1 from h1, show (5 * nI lv + 2 : Int32).toNatClampNeg = 5 * lv + 2 from h2, show (5 * nI lv + 3 : Int32).toNatClampNeg = 5 * lv + 3 from h3, show (5 * nI lv + 4 : Int32).toNatClampNeg = 5 * lv + 4 from h4]
    have : z_brought W kM lv q = W := by
      funext j; unfold z_brought; rw [if_neg (by omega)]
    rw [this]
  | succ n ih =>
    intro q W h
    have hq : q < 64 := by omega
    rw [f_Mo_bringBack_2]; dsimp only
    rw [if_neg (z_nI_lt64 q hq), i64 q hq, z_nI_clamp (by omega), z_nI_add1 q hq, ih (q + 1) _ (by omega)]
    have : z_brought (upd W q (kM (64 * lv + q))) kM lv (q + 1) = z_brought W kM lv q := by
      funext j; unfold z_brought upd
      by_cases c1 : j = q
      · rw [if_neg (by omega), if_pos c1, if_pos (by omega), c1]
      · by_cases c2 : q ≤ j ∧ j < 64
        · rw [if_pos (by omega), if_pos c2]
        · rw [if_neg (by omega), if_neg c1, if_neg c2]
    rw [this]
set_option maxRecDepth 100000 in
theorem z_bring_eq (men : Nat → Int32) (a b c d e : Int32) (kM kR : Nat → Int32) {lv : Nat} (hl : lv ≤ 5) :
    f_Mo_bringBack men a b c d e kM kR (nI lv) = (z_brought men kM lv 0, kR (5 * lv), kR (5 * lv + 1), kR (5 * lv + 2), kR (5 * lv + 3), kR (5 * lv + 4)) :=
  z_bring_2 men a b c d e kM kR hl 64 0 men rfl
set_option maxRecDepth 100000 in
theorem z_keptR_get (kR : Nat → Int32) (lv : Nat) (a b c d e : Int32) : z_keptR kR lv a b c d e (5 * lv) = a ∧ z_keptR kR lv a b c d e (5 * lv + 1) = b ∧ z_keptR kR lv a b c d e (5 * lv + 2) = c ∧ z_keptR kR lv a b c d e (5 * lv + 3) = d ∧ z_keptR kR lv a b c d e (5 * lv + 4) = e := by
  unfold z_keptR upd
  refine ⟨?_, ?_, ?_, ?_, ?_⟩ <;> repeat' split
  all_goals first | rfl | omega
set_option maxRecDepth 100000 in
theorem z_brought_kept {men M kM : Nat → Int32} {lv : Nat} (h : ∀ j, 64 ≤ j → M j = men j) : z_brought M (z_kept kM men lv 0) lv 0 = men := by
  funext j
  unfold z_brought z_kept
  by_cases c : j < 64
  · rw [if_pos (by omega), if_pos (by omega)]; congr 1; omega
  · rw [if_neg (by omega)]; exact h j (by omega)
set_option maxRecDepth 100000 in
theorem z_mkMen_ge {men : Nat → Int32} {side passed fr to pr : Nat} (hf : fr < 64) (ht : to < 64) (hk6 : z_isCa (men fr) fr to → 4 ≤ fr ∧ fr + 3 < 64) {j : Nat} (hj : 64 ≤ j) : z_mkMen men side passed fr to pr j = men j := by
  unfold z_mkMen
  have e1 : ∀ W : Nat → Int32, W j = men j → (if z_isCa (men fr) fr to then upd (upd W ((fr + to) / 2) (W (z_corner fr to))) (z_corner fr to) 0 else W) j = men j := by
    intro W hW
    by_cases c : z_isCa (men fr) fr to
    · have := hk6 c
      have hc : z_corner fr to < 64 := by unfold z_corner; split <;> omega
      rw [if_pos c, z_upd_ne _ (by omega), z_upd_ne _ (by omega)]; exact hW
    · rw [if_neg c]; exact hW
  rw [z_upd_ne _ (by omega), z_upd_ne _ (by omega)]
  apply e1
  by_cases c : z_isEp (men fr) passed fr to
  · rw [if_pos c, z_upd_ne _ (by omega)]
  · rw [if_neg c]
abbrev z_VPs (P : z_Pos) (men : Nat → Int32) (side rights passed clock number : Int32) : Prop := men = P.men ∧ side = nI P.side ∧ rights = nI P.rights ∧ passed = z_pI P.passed ∧ clock = nI P.clock ∧ number = nI P.number
set_option maxRecDepth 100000 in
theorem z_ca_small {P : z_Pos} (V : z_Val P) {fr to : Nat} (hf : fr < 64) (ht : to < 64) (ho : z_isOf (P.men fr) (nI P.side) = true) (hg : z_goalsB P fr to = true) (h : z_isCa (P.men fr) fr to) : 4 ≤ fr ∧ fr + 3 < 64 := by
  have := (z_ca_facts V hf ht ho hg h).1
  unfold z_home at this
  have := V.hs
  omega
set_option maxRecDepth 100000 in
theorem z_ref_mk {P : z_Pos} (V : z_Val P) {fr to pr : Nat} (hf : fr < 64) (ht : to < 64) (ho : z_isOf (P.men fr) (nI P.side) = true) (hg : z_goalsB P fr to = true) (hpr : z_okp P fr pr) :
    f_Mo_make P.men (nI P.side) (nI P.rights) (z_pI P.passed) (nI P.clock) (nI P.number) (z_mv fr to pr) = ((z_mkPos P fr to pr).men, nI (z_mkPos P fr to pr).side, nI (z_mkPos P fr to pr).rights, z_pI (z_mkPos P fr to pr).passed, nI (z_mkPos P fr to pr).clock, nI (z_mkPos P fr to pr).number) := by
  have hp8 : pr < 8 := by rcases hpr with h | h <;> omega
  exact z_ref_make V.hs V.hr hf ht hp8 V.hp (z_ca_small V hf ht ho hg) (fun e => (z_ep_facts V hf ht ho hg e.1 e.2.1).2.2.2.2.2.2)
set_option maxRecDepth 100000 in
theorem z_legal_ref {P : z_Pos} (V : z_Val P) {fr to pr : Nat} (hf : fr < 64) (ht : to < 64) (ho : z_isOf (P.men fr) (nI P.side) = true) (hg : z_goalsB P fr to = true) (hpr : z_okp P fr pr) (kM kR : Nat → Int32) :
    f_Mo_isLegal P.men (nI P.side) (nI P.rights) (z_pI P.passed) (nI P.clock) (nI P.number) kM kR (z_mv fr to pr) =
    ((if z_safeB P (z_kOf P) fr to then 1 else 0), P.men, nI P.side, nI P.rights, z_pI P.passed, nI P.clock, nI P.number, z_kept kM P.men 4 0, z_keptR kR 4 (nI P.side) (nI P.rights) (z_pI P.passed) (nI P.clock) (nI P.number)) := by
  have hs := V.hs
  have hk := z_kOf_is V
  have K := z_keep_eq P.men (nI P.side) (nI P.rights) (z_pI P.passed) (nI P.clock) (nI P.number) kM kR (lv := 4) (by decide)
  have hK := z_isK_own V hf ht ho hg hpr hk
  have ic := z_inCheck_eq hs hK
  have sf : (1 : Int32) - nI (1 - P.side) = nI P.side := by rw [z_side_flip (by omega)]; congr 1; omega
  have si : z_safeB P (z_kOf P) fr to = !z_atk (z_mkMen P.men P.side P.passed fr to pr) (1 - P.side) (z_nK P fr to (z_kOf P)) := by
    have a := z_safe_iff V hf ht ho hg hpr hk
    have b := z_safe_iff V hf ht ho hg (.inl rfl : z_okp P fr 0) hk
    unfold z_safeB
    cases c1 : z_atk (z_mkMen P.men P.side P.passed fr to pr) (1 - P.side) (z_nK P fr to (z_kOf P))
    · rw [b.mpr (a.mp c1)]
    · cases c2 : z_atk (z_mkMen P.men P.side P.passed fr to 0) (1 - P.side) (z_nK P fr to (z_kOf P))
      · rw [a.mpr (b.mp c2)] at c1; cases c1
      · rfl
  have BB := z_bring_eq (z_mkPos P fr to pr).men (nI (z_mkPos P fr to pr).side) (nI (z_mkPos P fr to pr).rights) (z_pI (z_mkPos P fr to pr).passed) (nI (z_mkPos P fr to pr).clock) (nI (z_mkPos P fr to pr).number) (z_kept kM P.men 4 0) (z_keptR kR 4 (nI P.side) (nI P.rights) (z_pI P.passed) (nI P.clock) (nI P.number)) (lv := 4) (by decide)
  have bk : z_brought (z_mkPos P fr to pr).men (z_kept kM P.men 4 0) 4 0 = P.men := z_brought_kept (fun j hj => z_mkMen_ge hf ht (z_ca_small V hf ht ho hg) hj)
  obtain ⟨r0, r1, r2, r3, r4⟩ := z_keptR_get kR 4 (nI P.side) (nI P.rights) (z_pI P.passed) (nI P.clock) (nI P.number)
  rw [bk, r0, r1, r2, r3, r4] at BB
  rw [f_Mo_isLegal, show (4 : Int32) = nI 4 from rfl, K, f_Mo_isLegal_r2, z_ref_mk V hf ht ho hg hpr, f_Mo_isLegal_r7]
  dsimp only
  have e1 : f_Mo_inCheck (z_mkPos P fr to pr).men (1 - nI (z_mkPos P fr to pr).side) = if z_atk (z_mkMen P.men P.side P.passed fr to pr) (1 - P.side) (z_nK P fr to (z_kOf P)) then 1 else 0 := by
    rw [show (z_mkPos P fr to pr).side = 1 - P.side from rfl, sf]; exact ic
  rw [e1, f_Mo_isLegal_28, f_Mo_isLegal_28, f_Mo_isLegal_r31, f_Mo_isLegal_r31, si]
  dsimp only
  rw [show (4 : Int32) = nI 4 from rfl, BB]
  cases z_atk (z_mkMen P.men P.side P.passed fr to pr) (1 - P.side) (z_nK P fr to (z_kOf P)) <;> rfl
abbrev z_LgP (men : Nat → Int32) (side rights passed clock number move : Int32) : Prop := ∃ P fr to pr, z_Val P ∧ z_VPs P men side rights passed clock number ∧ fr < 64 ∧ to < 64 ∧ z_isOf (P.men fr) (nI P.side) = true ∧ z_goalsB P fr to = true ∧ z_okp P fr pr ∧ move = z_mv fr to pr
set_option maxRecDepth 100000 in
theorem z_lg_back {men : Nat → Int32} {side rights passed clock number move : Int32} (h : z_LgP men side rights passed clock number move) (kM kR : Nat → Int32) :
    (f_Mo_isLegal men side rights passed clock number kM kR move).2.1 = men ∧ (f_Mo_isLegal men side rights passed clock number kM kR move).2.2.1 = side ∧ (f_Mo_isLegal men side rights passed clock number kM kR move).2.2.2.1 = rights ∧ (f_Mo_isLegal men side rights passed clock number kM kR move).2.2.2.2.1 = passed ∧ (f_Mo_isLegal men side rights passed clock number kM kR move).2.2.2.2.2.1 = clock ∧ (f_Mo_isLegal men side rights passed clock number kM kR move).2.2.2.2.2.2.1 = number := by
  obtain ⟨P, fr, to, pr, V, ⟨rfl, rfl, rfl, rfl, rfl, rfl⟩, hf, ht, ho, hg, hpr, rfl⟩ := h
  rw [z_legal_ref V hf ht ho hg hpr kM kR]
  exact ⟨rfl, rfl, rfl, rfl, rfl, rfl⟩
set_option maxRecDepth 100000 in
theorem z_lg_hm0 {men : Nat → Int32} {side rights passed clock number move : Int32} (h : z_LgP men side rights passed clock number move) : 0 ≤ move.toInt := by
  obtain ⟨P, fr, to, pr, V, -, hf, ht, ho, hg, hpr, rfl⟩ := h
  have hp8 : pr < 8 := by rcases hpr with h | h <;> omega
  rw [z_mv, z_nI_toInt (by omega)]; omega
set_option maxRecDepth 100000 in
theorem z_lg_hk {men : Nat → Int32} {side rights passed clock number move : Int32} (h : z_LgP men side rights passed clock number move) :
    (f_Mo_kind (men (move - move / 64 * 64).toNatClampNeg)) = 6 → ((move / 64 - move / 64 / 64 * 64) - (move - move / 64 * 64) = 2 ∨ (move - move / 64 * 64) - (move / 64 - move / 64 / 64 * 64) = 2) → ((move - move / 64 * 64) = 4 ∨ (move - move / 64 * 64) = 60) := by
  obtain ⟨P, fr, to, pr, V, ⟨rfl, rfl, rfl, rfl, rfl, rfl⟩, hf, ht, ho, hg, hpr, rfl⟩ := h
  have hp8 : pr < 8 := by rcases hpr with h | h <;> omega
  rw [z_mv_fr1 hf ht hp8, z_mv_to1 hf ht hp8, z_nI_clamp (by omega)]
  intro h6 h2
  have hca : z_isCa (P.men fr) fr to := ⟨h6, by
    rcases h2 with h2 | h2
    · exact .inl ((z_sub_eq_iff ht hf (c := 2) (by decide) (by decide)).mp h2)
    · exact .inr ((z_sub_eq_iff hf ht (c := 2) (by decide) (by decide)).mp h2)⟩
  have := (z_ca_facts V hf ht ho hg hca).1
  have hs := V.hs
  have hs2 : P.side = 0 ∨ P.side = 1 := by omega
  rcases hs2 with e | e <;> rw [this, e]
  · left; decide
  · right; decide
def z_lineA (q t : Nat) : Bool := !decide (q = t) && (decide (q % 8 = t % 8) || decide (q / 8 = t / 8) || decide (q % 8 + t / 8 = t % 8 + q / 8) || decide (q % 8 + q / 8 = t % 8 + t / 8))
set_option maxRecDepth 100000 in
theorem z_lineA_it0 : ((List.range 8).all (fun d => (List.range 64).all (fun q => (List.range 8).all (fun k => decide (k = 0) || !decide (z_it d k q < 64) || z_lineA q (z_it d k q))))) = true := by decide +kernel
set_option maxRecDepth 100000 in
theorem z_lineA_it {d q k : Nat} (hd : d < 8) (hq : q < 64) (h0 : 0 < k) (h : z_it d k q < 64) : z_lineA q (z_it d k q) = true := by
  have hk := z_it_k_le (k := k) hd hq h
  have := z_all3 z_lineA_it0 hd hq (show k < 8 by omega)
  simpa [h, show k ≠ 0 by omega] using this
set_option maxRecDepth 100000 in
theorem z_cnt_line : ((List.range 64).all (fun q => decide (z_cF (z_lineA q) 0 64 ≤ 27) && decide (z_cF (z_knHit q) 0 64 ≤ 8))) = true := by decide +kernel
set_option maxRecDepth 100000 in
theorem z_cF_mono {p p' : Nat → Bool} : ∀ n q, (∀ r, q ≤ r → r < q + n → p r = true → p' r = true) → z_cF p q n ≤ z_cF p' q n
  | 0, _, _ => Nat.le_refl _
  | n + 1, q, h => by
    rw [z_cF, z_cF]
    have := z_cF_mono n (q + 1) (fun r a b => h r (by omega) (by omega))
    cases c : p q
    · simp; omega
    · rw [h q (Nat.le_refl _) (by omega) c]; simp; omega
def z_pwM (s q t : Nat) : Bool := decide (t = z_nx (z_upd8 s) q) || decide (t = z_nx (z_upd8 s) (z_nx (z_upd8 s) q)) || z_pnHit (decide (s = 0)) q t
set_option maxRecDepth 100000 in
theorem z_cnt_pawn : ((List.range 2).all (fun s => (List.range 64).all (fun q => decide (z_cF (z_pwM s q) 0 64 ≤ 4)))) = true := by decide +kernel
set_option maxRecDepth 100000 in
theorem z_kg_line0 : ((List.range 64).all (fun q => (List.range 64).all (fun t => !z_kgHit q t || z_lineA q t))) = true := by decide +kernel
def z_wgt (m : Int32) : Nat := if m &&& 7 = 1 then 4 else 1
set_option maxRecDepth 100000 in
theorem z_goals_few {P : z_Pos} (V : z_Val P) {q : Nat} (hq : q < 64) (ho : z_isOf (P.men q) (nI P.side) = true) :
    z_wgt (P.men q) * z_cF (z_tb (f_Mo_goals P.men (nI P.side) (nI P.rights) (z_pI P.passed) (nI q))) 0 64 ≤ 28 := by
  have hs := V.hs
  have e : z_cF (z_tb (f_Mo_goals P.men (nI P.side) (nI P.rights) (z_pI P.passed) (nI q))) 0 64 = z_cF (z_goalsB P q) 0 64 := z_cF_congr 64 0 (fun r _ hr => z_goals_eq V hq (by omega) ho)
  rw [e]
  unfold z_wgt
  by_cases c1 : P.men q &&& 7 = 1
  · rw [if_pos c1]
    have h1 : z_cF (z_goalsB P q) 0 64 ≤ z_cF (z_pwM P.side q) 0 64 := by
      apply z_cF_mono
      intro r _ hr hg
      rw [z_goalsB, if_pos c1, z_pawnG] at hg
      unfold z_pwM
      simp only [Bool.or_eq_true, Bool.and_eq_true, decide_eq_true_eq] at hg ⊢
      rcases hg with ⟨-, g | g⟩ | g
      · exact .inl (.inl g)
      · exact .inl (.inr g.1.2)
      · exact .inr g.1
    have h2 := List.all_eq_true.mp (List.all_eq_true.mp z_cnt_pawn P.side (List.mem_range.mpr hs)) q (List.mem_range.mpr hq)
    rw [decide_eq_true_eq] at h2
    omega
  · rw [if_neg c1]
    have h2 := List.all_eq_true.mp z_cnt_line q (List.mem_range.mpr hq)
    rw [Bool.and_eq_true, decide_eq_true_eq, decide_eq_true_eq] at h2
    by_cases c2 : P.men q &&& 7 = 2
    · have h1 : z_cF (z_goalsB P q) 0 64 ≤ z_cF (z_knHit q) 0 64 := by
        apply z_cF_mono
        intro r _ hr hg
        rw [z_goalsB, if_neg c1, Bool.or_eq_true, Bool.and_eq_true] at hg
        rcases hg with g | g
        · have := g.1; rw [z_hits, if_neg c1, if_pos c2] at this; exact this
        · simp only [z_castB, Bool.and_eq_true, decide_eq_true_eq] at g
          rw [c2] at g; exact absurd g.1.1 (by decide)
      omega
    · have h1 : z_cF (z_goalsB P q) 0 64 ≤ z_cF (z_lineA q) 0 64 := by
        apply z_cF_mono
        intro r _ hr hg
        have hr64 : r < 64 := by omega
        rw [z_goalsB, if_neg c1, Bool.or_eq_true, Bool.and_eq_true] at hg
        rcases hg with g | g
        · have := g.1
          rw [z_hits_iff hq] at this
          rcases this with f | ⟨d, hd, -, k, k1, k2, k3, -⟩
          · simp only [z_fixd, c1, c2, decide_false, Bool.false_and, Bool.false_or, Bool.and_eq_true] at f
            have z := z_all2 z_kg_line0 hq hr64
            rw [f.2] at z; simpa using z
          · rw [← k2]; exact z_lineA_it hd hq (by omega) (by omega)
        · simp only [z_castB, Bool.and_eq_true, Bool.or_eq_true, decide_eq_true_eq] at g
          have hh := g.1.2
          unfold z_home at hh
          unfold z_lineA
          have a1 : ¬ q = r := by rcases g.2 with u | u <;> omega
          have a2 : q / 8 = r / 8 := by rcases g.2 with u | u <;> omega
          simp [a1, a2]
      omega
set_option maxRecDepth 100000 in
theorem z_cF_add (p : Nat → Bool) : ∀ m q n, z_cF p q (m + n) = z_cF p q m + z_cF p (q + m) n
  | 0, q, n => by rw [Nat.zero_add]; simp [z_cF]
  | m + 1, q, n => by
    rw [Nat.add_right_comm, z_cF, z_cF, z_cF_add p m (q + 1) n, show q + (m + 1) = q + 1 + m by omega]
    omega
set_option maxRecDepth 100000 in
theorem z_cF_succ (p : Nat → Bool) (q n : Nat) : z_cF p q (n + 1) = z_cF p q n + (if p (q + n) then 1 else 0) := by
  rw [z_cF_add p n q 1]; simp [z_cF]
def z_lsW (m : Int32) (set : Int64) (to : Int32) : Int := ((z_wgt m * z_cF (z_tb set) 0 to.toInt.toNat : Nat) : Int)
abbrev z_SetP (men : Nat → Int32) (side rights passed clock number fr : Int32) (set : Int64) : Prop := set = 0 ∨ (¬ f_Mo_isOf men fr side = 0 ∧ set = f_Mo_goals men side rights passed fr)
abbrev z_VP (men : Nat → Int32) (side rights passed clock number : Int32) : Prop := ∃ P, z_Val P ∧ z_VPs P men side rights passed clock number
set_option maxRecDepth 100000 in
theorem z_sqr {x : Int32} (h1 : 0 ≤ x.toInt) (h2 : x.toInt < 64) : ∃ j, j < 64 ∧ x = nI j := ⟨x.toInt.toNat, by omega, z_of_nonneg h1⟩
set_option maxRecDepth 100000 in
theorem z_set_goal {men : Nat → Int32} {side rights passed clock number fr to : Int32} {set : Int64} (hV : z_VP men side rights passed clock number) (h : z_SetP men side rights passed clock number fr set)
    (hf : 0 ≤ fr.toInt ∧ fr.toInt < 64) (ht : 0 ≤ to.toInt ∧ to.toInt < 64) (hb : (shr64 set to) &&& 1 = 1) :
    ∃ P, z_Val P ∧ z_VPs P men side rights passed clock number ∧ ∃ f t, f < 64 ∧ t < 64 ∧ fr = nI f ∧ to = nI t ∧ z_isOf (P.men f) (nI P.side) = true ∧ z_goalsB P f t = true ∧ z_tb set t = true ∧ set = f_Mo_goals P.men (nI P.side) (nI P.rights) (z_pI P.passed) (nI f) := by
  obtain ⟨P, V, rfl, rfl, rfl, rfl, rfl, rfl⟩ := hV
  obtain ⟨f, hf', rfl⟩ := z_sqr hf.1 hf.2
  obtain ⟨t, ht', rfl⟩ := z_sqr ht.1 ht.2
  rw [z_tb_shr0 _ ht'] at hb
  rcases h with rfl | ⟨h1, rfl⟩
  · rw [z_tb_zero] at hb; cases hb
  · rw [z_isOf_ref _ hf'] at h1
    have ho : z_isOf (P.men f) (nI P.side) = true := by
      cases c : z_isOf (P.men f) (nI P.side)
      · rw [c] at h1; exact absurd rfl h1
      · rfl
    refine ⟨P, V, ⟨rfl, rfl, rfl, rfl, rfl, rfl⟩, f, t, hf', ht', rfl, rfl, ho, ?_, hb, rfl⟩
    rw [← z_goals_eq V hf' ht' ho]; exact hb
set_option maxRecDepth 100000 in
theorem z_lsW_nn (m : Int32) (set : Int64) (to : Int32) : 0 ≤ z_lsW m set to := Int.natCast_nonneg _
set_option maxRecDepth 100000 in
theorem z_lsW_0 (m : Int32) (set : Int64) : z_lsW m set 0 = 0 := by unfold z_lsW; rw [show (0 : Int32).toInt.toNat = 0 from rfl]; simp [z_cF]
set_option maxRecDepth 100000 in
theorem z_lsW_step {m : Int32} {set : Int64} {to : Int32} (ht : 0 ≤ to.toInt ∧ to.toInt < 64) : z_lsW m set (to + 1) = z_lsW m set to + (if (shr64 set to) &&& 1 = 1 then (z_wgt m : Int) else 0) := by
  obtain ⟨t, ht', rfl⟩ := z_sqr ht.1 ht.2
  unfold z_lsW
  rw [z_nI_add1 t ht', z_nI_toInt (by omega), z_nI_toInt (by omega)]
  simp only [Int.toNat_natCast]
  rw [z_cF_succ, Nat.zero_add]
  by_cases c : z_tb set t = true
  · rw [if_pos c, if_pos ((z_tb_shr0 set ht').mpr c)]; rw [Nat.mul_add, Nat.mul_one]; omega
  · rw [if_neg c, if_neg (fun h => c ((z_tb_shr0 set ht').mp h))]; simp
set_option maxRecDepth 100000 in
theorem z_lsW_room {men : Nat → Int32} {side rights passed clock number fr to : Int32} {set : Int64} (hV : z_VP men side rights passed clock number) (h : z_SetP men side rights passed clock number fr set)
    (hf : 0 ≤ fr.toInt ∧ fr.toInt < 64) (ht : 0 ≤ to.toInt ∧ to.toInt ≤ 64) : z_lsW (men fr.toNatClampNeg) set to ≤ 28 := by
  obtain ⟨P, V, rfl, rfl, rfl, rfl, rfl, rfl⟩ := hV
  obtain ⟨f, hf', rfl⟩ := z_sqr hf.1 hf.2
  rw [z_nI_clamp (by omega)]
  unfold z_lsW
  have hle : z_cF (z_tb set) 0 to.toInt.toNat ≤ z_cF (z_tb set) 0 64 := by
    have := z_cF_add (z_tb set) to.toInt.toNat 0 (64 - to.toInt.toNat)
    rw [show to.toInt.toNat + (64 - to.toInt.toNat) = 64 by omega] at this
    omega
  have h28 : z_wgt (P.men f) * z_cF (z_tb set) 0 64 ≤ 28 := by
    rcases h with rfl | ⟨h1, rfl⟩
    · have : z_cF (z_tb 0) 0 64 = 0 := (z_cF_zero 0).mpr rfl
      rw [this]; omega
    · rw [z_isOf_ref _ hf'] at h1
      have ho : z_isOf (P.men f) (nI P.side) = true := by
        cases c : z_isOf (P.men f) (nI P.side)
        · rw [c] at h1; exact absurd rfl h1
        · rfl
      exact z_goals_few V hf' ho
  have := Nat.mul_le_mul (Nat.le_refl (z_wgt (P.men f))) hle
  omega

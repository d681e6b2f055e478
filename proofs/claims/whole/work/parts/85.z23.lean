set_option maxRecDepth 100000 in
theorem z_takes_4 {P : z_Pos} (V : z_Val P) (hp : P.passed < 64) {kM0 kR0 : Nat → Int32} : ∀ n q acc kM kR, q + n = 64 →
    ∃ kM' kR', z_KR kM kR kM' kR' ∧ ∃ x, (∀ t, t < 64 → z_tb x t = (z_tb acc t || (decide (q ≤ t) && z_tkB P t))) ∧
      f_Mo_takes_4 P.men (nI P.side) (nI P.rights) (z_pI P.passed) (nI P.clock) (nI P.number) kM0 kR0 (n + 1) acc (nI q) kM kR = (x, kM', kR') := by
  intro n
  induction n with
  | zero =>
    intro q acc kM kR h
    have hq : q = 64 := by omega
    subst hq
    refine ⟨kM, kR, z_KR.rf _ _, acc, fun t ht => ?_, ?_⟩
    · rw [show decide (64 ≤ t) = false from decide_eq_false (by omega)]; simp
    · rw [f_Mo_takes_4]; dsimp only
      rw [if_pos (by decide)]
  | succ n ih =>
    intro q acc kM kR h
    have hq : q < 64 := by omega
    have c1 : ¬ (64 : Int32) ≤ nI q := z_nI_lt64 q hq
    have pp : z_pI P.passed = nI P.passed := by unfold z_pI; rw [if_pos hp]
    have c2 : ¬ z_pI P.passed < 0 := by rw [pp]; exact z_nI_ge _ hp
    have e1 : (1 : Int32) + 8 * nI P.side = nI (1 + 8 * P.side) := by
      rw [show (1 : Int32) = nI 1 from rfl, show (8 : Int32) = nI 8 from rfl, z_nI_mul, z_nI_add]
    have skip : z_tkB P q = false → ∀ kM1 kR1, z_KR kM kR kM1 kR1 → ∀ X, X = f_Mo_takes_4 P.men (nI P.side) (nI P.rights) (z_pI P.passed) (nI P.clock) (nI P.number) kM0 kR0 (n + 1) acc (nI q + 1) kM1 kR1 →
        ∃ kM' kR', z_KR kM kR kM' kR' ∧ ∃ x, (∀ t, t < 64 → z_tb x t = (z_tb acc t || (decide (q ≤ t) && z_tkB P t))) ∧ X = (x, kM', kR') := by
      intro hf kM1 kR1 k1 X hX
      obtain ⟨kM', kR', k2, x, hx, ex⟩ := ih (q + 1) acc kM1 kR1 (by omega)
      refine ⟨kM', kR', k1.tr k2, x, fun t ht => ?_, by rw [hX, z_nI_add1 q hq]; exact ex⟩
      rw [hx t ht]
      by_cases c : t = q
      · rw [c, hf]; simp
      · rw [show decide (q + 1 ≤ t) = decide (q ≤ t) from decide_eq_decide.mpr (by omega)]
    rw [f_Mo_takes_4]; dsimp only
    rw [if_neg c1, if_neg c2, z_nI_nat q hq, e1]
    by_cases hm : P.men q = nI (1 + 8 * P.side)
    · rw [if_pos hm]
      by_cases hh : z_pnHit (decide (P.side = 0)) q P.passed = true
      · rw [if_neg (by rw [pp, z_att_pn V.hs hq hp hm, hh]; decide)]
        obtain ⟨ho, hg⟩ := z_taker_goal V hq hp hm hh
        have LG := z_legal_ref V hq hp ho hg (Or.inl rfl) kM kR (pr := 0)
        have em : nI q + 64 * z_pI P.passed = z_mv q P.passed 0 := by
          rw [pp]; unfold z_mv; rw [show (64 : Int32) = nI 64 from rfl, z_nI_mul, z_nI_add]; rfl
        rw [f_Mo_takes_58, if_neg (by decide), em, f_Mo_isLegalS, LG, f_Mo_takes_r75]
        dsimp only
        cases hsf : z_safeB P (z_kOf P) q P.passed
        · have hf : z_tkB P q = false := by unfold z_tkB; rw [hsf]; simp
          rw [if_pos (by decide)]
          exact skip hf _ _ (z_KR_keep kM kR P.men _ _ _ _ _) _ rfl
        · have ht : z_tkB P q = true := by unfold z_tkB; rw [hsf, hh, decide_eq_true hp, decide_eq_true hm]; rfl
          rw [if_neg (by decide)]
          obtain ⟨kM', kR', k2, x, hx, ex⟩ := ih (q + 1) (acc ||| f_Mo_bit (nI q)) (z_kept kM P.men 4 0) (z_keptR kR 4 (nI P.side) (nI P.rights) (z_pI P.passed) (nI P.clock) (nI P.number)) (by omega)
          refine ⟨kM', kR', (z_KR_keep kM kR P.men _ _ _ _ _).tr k2, x, fun t h64 => ?_, by rw [z_nI_add1 q hq]; exact ex⟩
          rw [hx t h64, z_tb_or, z_bit_eq hq, z_tb_bt hq h64]
          by_cases c : t = q
          · rw [c, ht]; simp
          · rw [show decide (q + 1 ≤ t) = decide (q ≤ t) from decide_eq_decide.mpr (by omega), decide_eq_false c]; simp
      · have hf : z_tkB P q = false := by unfold z_tkB; rw [Bool.eq_false_iff.mpr hh]; simp
        rw [if_pos (by rw [pp, z_att_pn V.hs hq hp hm]; exact Bool.eq_false_iff.mpr hh), f_Mo_takes_57, f_Mo_takes_58, if_pos (by decide)]
        exact skip hf kM kR (z_KR.rf _ _) _ rfl
    · have hf : z_tkB P q = false := by unfold z_tkB; rw [decide_eq_false hm]; simp
      rw [if_neg hm, f_Mo_takes_57, f_Mo_takes_58, if_pos (by decide)]
      exact skip hf kM kR (z_KR.rf _ _) _ rfl
set_option maxRecDepth 100000 in
theorem z_takes_eq {P : z_Pos} (V : z_Val P) (kM kR : Nat → Int32) :
    ∃ kM' kR', z_KR kM kR kM' kR' ∧ ∃ x, z_TkOk x P ∧ f_Mo_takes P.men (nI P.side) (nI P.rights) (z_pI P.passed) (nI P.clock) (nI P.number) kM kR = (x, kM', kR') := by
  unfold f_Mo_takes
  by_cases hp : P.passed < 64
  · obtain ⟨kM', kR', k, x, hx, ex⟩ := z_takes_4 V hp (kM0 := kM) (kR0 := kR) 64 0 0 kM kR rfl
    refine ⟨kM', kR', k, x, fun t ht => ?_, ex⟩
    rw [hx t ht, z_tb_zero, show decide (0 ≤ t) = true from decide_eq_true (Nat.zero_le t)]; simp
  · refine ⟨kM, kR, z_KR.rf _ _, 0, fun t ht => ?_, ?_⟩
    · rw [z_tb_zero]; unfold z_tkB; rw [decide_eq_false hp]; rfl
    · rw [f_Mo_takes_4]; dsimp only
      rw [if_neg (by decide), if_pos (by unfold z_pI; rw [if_neg hp]; decide)]
def z_ptM (pm men : Nat → Int32) (i q : Nat) : Nat → Int32 := fun j => if 64 * i + q ≤ j ∧ j < 64 * i + 64 then men (j - 64 * i) else pm j
set_option maxRecDepth 100000 in
theorem z_idx_64 {i q : Nat} (hi : i ≤ 400) (hq : q < 64) : ((64 : Int32) * nI i + nI q).toNatClampNeg = 64 * i + q := by
  rw [show (64 : Int32) = nI 64 from rfl, z_nI_mul, z_nI_add, z_nI_clamp (by omega)]
set_option maxRecDepth 100000 in
theorem z_enter_2 {men : Nat → Int32} {a b c d e : Int32} {i : Nat} (hi : i ≤ 400) {pm p1 p2 p3 p4 p5 : Nat → Int32} {pt : Nat → Int64} {kM kR : Nat → Int32} : ∀ n q W, q + n = 64 →
    f_Mo_enter_2 men a b c d e (nI i) pm p1 p2 p3 p4 p5 pt kM kR (n + 1) (nI q) W =
    (z_ptM W men i q, upd p1 i a, upd p2 i b, upd p3 i c, upd p4 i d, upd p5 i e, vp_updL pt i (f_Mo_takes men a b c d e kM kR).1, (f_Mo_takes men a b c d e kM kR).2.1, (f_Mo_takes men a b c d e kM kR).2.2) := by
  intro n
  induction n with
  | zero =>
    intro q W h
    have hq : q = 64 := by omega
    subst hq
    rw [f_Mo_enter_2]; dsimp only
    rw [if_pos (by decide), f_Mo_enter_r108, z_nI_clamp (by omega)]
    rw [show z_ptM W men i 64 = W from by funext j; unfold z_ptM; rw [if_neg (by omega)]]
  | succ n ih =>
    intro q W h
    have hq : q < 64 := by omega
    rw [f_Mo_enter_2]; dsimp only
    rw [if_neg (z_nI_lt64 q hq), z_nI_add1 q hq, ih (q + 1) _ (by omega), z_idx_64 hi hq, z_nI_nat q hq]
    rw [show z_ptM (upd W (64 * i + q) (men q)) men i (q + 1) = z_ptM W men i q from ?_]
    funext j; unfold z_ptM upd
    by_cases c1 : j = 64 * i + q
    · rw [if_neg (by omega), if_pos c1, if_pos (by omega), show j - 64 * i = q by omega]
    · by_cases c2 : 64 * i + (q + 1) ≤ j ∧ j < 64 * i + 64
      · rw [if_pos c2, if_pos (by omega)]
      · rw [if_neg c2, if_neg c1, if_neg (by omega)]
set_option maxRecDepth 100000 in
theorem z_updL_same (f : Nat → Int64) (k : Nat) (x : Int64) : vp_updL f k x k = x := by unfold vp_updL; simp
set_option maxRecDepth 100000 in
theorem z_updL_ne {f : Nat → Int64} {k j : Nat} (x : Int64) (h : j ≠ k) : vp_updL f k x j = f j := by unfold vp_updL; simp [h]
set_option maxRecDepth 100000 in
theorem z_enter_eq {P : z_Pos} (V : z_Val P) {i : Nat} (hi : i ≤ 400) (pm p1 p2 p3 p4 p5 : Nat → Int32) (pt : Nat → Int64) (kM kR : Nat → Int32) :
    ∃ kM' kR' pm' p1' p2' p3' p4' p5' pt', z_KR kM kR kM' kR' ∧ z_Past pm' p1' p2' p3' p4' p5' pt' i P ∧ (∀ j Q, j < i → z_Past pm p1 p2 p3 p4 p5 pt j Q → z_Past pm' p1' p2' p3' p4' p5' pt' j Q) ∧
      f_Mo_enter P.men (nI P.side) (nI P.rights) (z_pI P.passed) (nI P.clock) (nI P.number) (nI i) pm p1 p2 p3 p4 p5 pt kM kR = (pm', p1', p2', p3', p4', p5', pt', kM', kR') := by
  obtain ⟨kM', kR', k, x, hx, ex⟩ := z_takes_eq V kM kR
  refine ⟨kM', kR', z_ptM pm P.men i 0, upd p1 i (nI P.side), upd p2 i (nI P.rights), upd p3 i (z_pI P.passed), upd p4 i (nI P.clock), upd p5 i (nI P.number), vp_updL pt i x, k, ?_, ?_, ?_⟩
  · refine ⟨fun q hq => ?_, z_upd_same _ _ _, z_upd_same _ _ _, z_upd_same _ _ _, z_upd_same _ _ _, z_upd_same _ _ _, ?_⟩
    · unfold z_ptM; rw [if_pos (by omega), show 64 * i + q - 64 * i = q by omega]
    · rw [z_updL_same]; exact hx
  · intro j Q hj A
    refine ⟨fun q hq => ?_, ?_, ?_, ?_, ?_, ?_, ?_⟩
    · rw [← A.m q hq]; unfold z_ptM; rw [if_neg (by omega)]
    · rw [z_upd_ne _ (by omega)]; exact A.s
    · rw [z_upd_ne _ (by omega)]; exact A.r
    · rw [z_upd_ne _ (by omega)]; exact A.p
    · rw [z_upd_ne _ (by omega)]; exact A.c
    · rw [z_upd_ne _ (by omega)]; exact A.n
    · rw [z_updL_ne _ (by omega)]; exact A.t
  · unfold f_Mo_enter
    rw [show (0 : Int32) = nI 0 from rfl, z_enter_2 hi 64 0 pm rfl, ex]
set_option maxRecDepth 100000 in
theorem z_goTo_7 {men : Nat → Int32} {a b c d e f : Int32} {i : Nat} (hi : i ≤ 400) {pm p1 p2 p3 p4 p5 : Nat → Int32} : ∀ n q W, q + n = 64 →
    f_Mo_goTo_7 men a b c d e f pm p1 p2 p3 p4 p5 (nI i) (n + 1) (nI q) W = ((fun j => if q ≤ j ∧ j < 64 then pm (64 * i + j) else W j), p1 i, p2 i, p3 i, p4 i, p5 i, nI i) := by
  intro n
  induction n with
  | zero =>
    intro q W h
    have hq : q = 64 := by omega
    subst hq
    rw [f_Mo_goTo_7]; dsimp only
    rw [if_pos (by decide), z_nI_clamp (by omega)]
    rw [show (fun j => if 64 ≤ j ∧ j < 64 then pm (64 * i + j) else W j) = W from by funext j; rw [if_neg (by omega)]]
  | succ n ih =>
    intro q W h
    have hq : q < 64 := by omega
    rw [f_Mo_goTo_7]; dsimp only
    rw [if_neg (z_nI_lt64 q hq), z_nI_add1 q hq, ih (q + 1) _ (by omega), z_idx_64 hi hq, z_nI_nat q hq]
    refine Prod.ext ?_ rfl
    funext j; unfold upd; dsimp only
    by_cases c1 : j = q
    · rw [if_neg (by omega), if_pos c1, if_pos (by omega), c1]
    · by_cases c2 : q + 1 ≤ j ∧ j < 64
      · rw [if_pos c2, if_pos (by omega)]
      · rw [if_neg c2, if_neg c1, if_neg (by omega)]
abbrev z_Eqv (P Q : z_Pos) : Prop := (∀ q, q < 64 → P.men q = Q.men q) ∧ P.2 = Q.2
set_option maxRecDepth 100000 in
theorem z_goTo_eq {P : z_Pos} {i : Nat} (hi : i ≤ 400) {pm p1 p2 p3 p4 p5 : Nat → Int32} {pt : Nat → Int64} (A : z_Past pm p1 p2 p3 p4 p5 pt i P) (men : Nat → Int32) (a b c d e f : Int32) :
    ∃ Q : z_Pos, z_Eqv P Q ∧ f_Mo_goTo men a b c d e f pm p1 p2 p3 p4 p5 (nI i) = (Q.men, nI Q.side, nI Q.rights, z_pI Q.passed, nI Q.clock, nI Q.number, nI i) := by
  refine ⟨((fun j => if 0 ≤ j ∧ j < 64 then pm (64 * i + j) else men j), P.2), ⟨fun q hq => ?_, rfl⟩, ?_⟩
  · show P.men q = if 0 ≤ q ∧ q < 64 then pm (64 * i + q) else men q
    rw [if_pos (by omega), A.m q hq]
  · unfold f_Mo_goTo
    rw [show (0 : Int32) = nI 0 from rfl, z_goTo_7 hi 64 0 men rfl, A.s, A.r, A.p, A.c, A.n]
    rfl

set_option maxRecDepth 100000 in
theorem z_Eqv.sym {P Q : z_Pos} (E : z_Eqv P Q) : z_Eqv Q P := ⟨fun q hq => (E.1 q hq).symm, E.2.symm⟩
set_option maxRecDepth 100000 in
theorem z_Eqv.rf (P : z_Pos) : z_Eqv P P := ⟨fun _ _ => rfl, rfl⟩
set_option maxRecDepth 100000 in
theorem z_Eqv.tr {P Q R : z_Pos} (E : z_Eqv P Q) (F : z_Eqv Q R) : z_Eqv P R := ⟨fun q hq => (E.1 q hq).trans (F.1 q hq), E.2.trans F.2⟩
set_option maxRecDepth 100000 in
theorem z_Eqv.fl {P Q : z_Pos} (E : z_Eqv P Q) : P.side = Q.side ∧ P.rights = Q.rights ∧ P.passed = Q.passed ∧ P.clock = Q.clock ∧ P.number = Q.number := by
  have h := E.2
  unfold z_Pos.side z_Pos.rights z_Pos.passed z_Pos.clock z_Pos.number
  rw [h]
  exact ⟨rfl, rfl, rfl, rfl, rfl⟩
set_option maxRecDepth 100000 in
theorem z_isK_congr {M M' : Nat → Int32} (h : ∀ q, q < 64 → M q = M' q) {s k : Nat} (K : z_isK M s k) : z_isK M' s k := ⟨K.1, fun q hq => by rw [← h q hq]; exact K.2 q hq⟩
set_option maxRecDepth 100000 in
theorem z_Eqv.val {P Q : z_Pos} (E : z_Eqv P Q) (V : z_Val P) : z_Val Q := by
  obtain ⟨e1, e2, e3, e4, e5⟩ := E.fl
  have hm := E.1
  refine ⟨by rw [← e1]; exact V.hs, by rw [← e2]; exact V.hr, by rw [← e3]; exact V.hp, fun q hq => ?_, fun s hs => ?_, fun s hs w hw hb => ?_, fun hp => ?_, fun k hk => ?_⟩
  · rw [← hm q hq]; exact V.hv q hq
  · obtain ⟨k, K⟩ := V.hk s hs; exact ⟨k, z_isK_congr hm K⟩
  · have h := V.rk s hs w hw (by rw [e2]; exact hb)
    have a1 : z_home s < 64 := by unfold z_home; omega
    have a2 : 56 * s + (if w = 0 then 7 else 0) < 64 := by split <;> omega
    rw [← hm _ a1, ← hm _ a2]; exact h
  · rw [← e3] at hp
    have h := V.pp hp
    have e := h.2.1
    have b1 : (if P.side = 0 then P.passed - 8 else P.passed + 8) < 64 := by
      rcases Decidable.em (P.side = 0) with c | c
      · rw [if_pos c] at e ⊢; omega
      · rw [if_neg c] at e ⊢; omega
    have b2 : (if P.side = 0 then P.passed + 8 else P.passed - 8) < 64 := by
      rcases Decidable.em (P.side = 0) with c | c
      · rw [if_pos c] at e ⊢; omega
      · rw [if_neg c] at e ⊢; omega
    rw [← e3, ← e1, ← hm _ hp, ← hm _ b1, ← hm _ b2]; exact h
  · rw [← e1] at hk ⊢
    rw [← z_atk_congr hm]
    exact V.sf k (z_isK_congr (fun q hq => (hm q hq).symm) hk)
set_option maxRecDepth 100000 in
theorem z_Eqv.tkb {P Q : z_Pos} (E : z_Eqv P Q) (V : z_Val P) {q : Nat} (hq : q < 64) : z_tkB P q = z_tkB Q q := z_tkB_congr V (E.val V) E.1 E.fl.1 E.fl.2.2.1 hq
set_option maxRecDepth 100000 in
theorem z_Eqv.ptc {P Q : z_Pos} (E : z_Eqv P Q) (V : z_Val P) : z_ptc P = z_ptc Q := by
  have h : z_cnt1 P = z_cnt1 Q := by
    unfold z_cnt1; exact z_any_congr (fun q hq => E.tkb V hq)
  unfold z_ptc; rw [h, E.fl.2.2.1]
set_option maxRecDepth 100000 in
theorem z_Eqv.mark {P Q : z_Pos} (E : z_Eqv P Q) (V : z_Val P) : z_mark P = z_mark Q := by
  unfold z_mark; rw [E.ptc V, E.fl.1, E.fl.2.1]
set_option maxRecDepth 100000 in
theorem z_Eqv.past {P Q : z_Pos} (E : z_Eqv P Q) (V : z_Val P) {pm p1 p2 p3 p4 p5 : Nat → Int32} {pt : Nat → Int64} {i : Nat} (A : z_Past pm p1 p2 p3 p4 p5 pt i P) : z_Past pm p1 p2 p3 p4 p5 pt i Q := by
  obtain ⟨e1, e2, e3, e4, e5⟩ := E.fl
  refine ⟨fun q hq => (A.m q hq).trans (E.1 q hq), ?_, ?_, ?_, ?_, ?_, fun q hq => (A.t q hq).trans (E.tkb V hq)⟩
  · rw [← e1]; exact A.s
  · rw [← e2]; exact A.r
  · rw [← e3]; exact A.p
  · rw [← e4]; exact A.c
  · rw [← e5]; exact A.n
set_option maxRecDepth 100000 in
theorem z_Eqv.picOk {P Q : z_Pos} (E : z_Eqv P Q) {pics : Nat → Int64} {i : Nat} (A : z_PicOk pics i P) : z_PicOk pics i Q := fun b hb q hq => by rw [← E.1 q hq]; exact A b hb q hq
set_option maxRecDepth 100000 in
theorem z_Eqv.rel {P Q : z_Pos} (E : z_Eqv P Q) {W : St_Po} (R : z_RelP W P) : z_RelP W Q := by
  obtain ⟨e1, e2, e3, e4, e5⟩ := E.fl
  exact ⟨R.1.to E.1, by rw [R.2, e1, e2, e3, e4, e5]⟩
set_option maxRecDepth 100000 in
theorem z_idx_4 {c b : Nat} (hc : c ≤ 400) (hb : b < 4) : ((4 : Int32) * nI c + nI b).toNatClampNeg = 4 * c + b := by
  rw [show (4 : Int32) = nI 4 from rfl, z_nI_mul, z_nI_add, z_nI_clamp (by omega)]
set_option maxRecDepth 100000 in
theorem z_pic_58 {W : St_Po} {c : Nat} (hc : c ≤ 400) {mk : Nat → Int32} {p0 : Nat → Int64} : ∀ n b pcs, b + n = 4 →
    f_Ga_keepPicture_58 W (nI c) mk p0 (n + 1) (nI b) pcs = (upd mk c ((W.2.1 + (2 * W.2.2.1)) + (32 * ((f_Po_passedThatCounts W.1 W.2.1 W.2.2.2.1) + 1))), fun j => if 4 * c + b ≤ j ∧ j < 4 * c + 4 then f_Bo_squaresWithBit W.1.2 (nI (j - 4 * c)) else pcs j) := by
  intro n
  induction n with
  | zero =>
    intro b pcs h
    have hb : b = 4 := by omega
    subst hb
    rw [f_Ga_keepPicture_58]; dsimp only
    rw [if_pos (by decide), z_nI_clamp (by omega)]
    refine Prod.ext rfl ?_
    funext j; dsimp only; rw [if_neg (by omega)]
  | succ n ih =>
    intro b pcs h
    have hb : b < 4 := by omega
    rw [f_Ga_keepPicture_58]; dsimp only
    rw [if_neg (by rw [show (4 : Int32) = nI 4 from rfl, z_nI_le (by omega) (by omega)]; omega), show nI b + 1 = nI (b + 1) from z_nI_add b 1, ih (b + 1) _ (by omega), z_idx_4 hc hb]
    refine Prod.ext rfl ?_
    funext j; dsimp only
    by_cases c1 : j = 4 * c + b
    · rw [if_neg (by omega), c1, z_updL_same, if_pos (by omega), show 4 * c + b - 4 * c = b by omega]
    · rw [z_updL_ne _ c1]
      by_cases c2 : 4 * c + (b + 1) ≤ j ∧ j < 4 * c + 4
      · rw [if_pos c2, if_pos (by omega)]
      · rw [if_neg c2, if_neg (by omega)]
set_option maxRecDepth 100000 in
theorem z_keepPic_eq {P : z_Pos} (V : z_Val P) {W : St_Po} (R : z_RelP W P) {c : Nat} (hc : c ≤ 400) (mk : Nat → Int32) (pcs : Nat → Int64) :
    ∃ mk' pcs', mk' c = z_mark P ∧ (∀ j, j ≠ c → mk' j = mk j) ∧ z_PicOk pcs' c P ∧ (∀ j Q, j ≠ c → z_PicOk pcs j Q → z_PicOk pcs' j Q) ∧ f_Ga_keepPicture W (nI c) mk pcs = (mk', pcs') := by
  refine ⟨upd mk c ((W.2.1 + (2 * W.2.2.1)) + (32 * ((f_Po_passedThatCounts W.1 W.2.1 W.2.2.2.1) + 1))), fun j => if 4 * c + 0 ≤ j ∧ j < 4 * c + 4 then f_Bo_squaresWithBit W.1.2 (nI (j - 4 * c)) else pcs j, ?_, fun j hj => z_upd_ne _ hj, fun b hb q hq => ?_, fun j Q hj A b hb q hq => ?_, ?_⟩
  · rw [z_upd_same]; exact z_mark_cls V R
  · dsimp only
    rw [if_pos (by omega), show 4 * c + b - 4 * c = b by omega]
    exact z_swb_5 R.1.bd hb hq
  · dsimp only
    rw [if_neg (by omega)]
    exact A b hb q hq
  · unfold f_Ga_keepPicture
    rw [if_neg (by rw [show (0 : Int32) = nI 0 from rfl, z_nI_lt (by omega) (by omega)]; omega), if_neg (by rw [show (400 : Int32) = nI 400 from rfl, z_nI_lt (by omega) (by omega)]; omega), show (0 : Int32) = nI 0 from rfl]
    exact z_pic_58 hc 4 0 pcs rfl
def z_GH (c : Nat) (Ps : Nat → z_Pos) (told mem marks : Nat → Int32) (pics : Nat → Int64) (pm p1 p2 p3 p4 p5 : Nat → Int32) (pt : Nat → Int64) (pl : Nat → Int32) : Prop :=
  (∀ i, i ≤ c → z_Val (Ps i) ∧ (Ps i).clock ≤ 999 + i ∧ (Ps i).number ≤ 999 + i ∧ marks i = z_mark (Ps i) ∧ z_PicOk pics i (Ps i) ∧ z_Past pm p1 p2 p3 p4 p5 pt i (Ps i)) ∧
  (∀ i, i < c → told i ∈ z_all (Ps i) ∧ pl i = told i ∧ mem i = z_memM (Ps i) (told i) ∧ z_Eqv (z_mkM (Ps i) (told i)) (Ps (i + 1)))
set_option maxRecDepth 100000 in
theorem z_GH.set {c : Nat} {Ps : Nat → z_Pos} {told mem marks : Nat → Int32} {pics : Nat → Int64} {pm p1 p2 p3 p4 p5 : Nat → Int32} {pt : Nat → Int64} {pl : Nat → Int32}
    (h : z_GH c Ps told mem marks pics pm p1 p2 p3 p4 p5 pt pl) {Q : z_Pos} (E : z_Eqv (Ps c) Q) : z_GH c (fun i => if i = c then Q else Ps i) told mem marks pics pm p1 p2 p3 p4 p5 pt pl := by
  refine ⟨fun i hi => ?_, fun i hi => ?_⟩
  · obtain ⟨V, h1, h2, h3, h4, h5⟩ := h.1 i hi
    by_cases c1 : i = c
    · subst c1
      dsimp only; rw [if_pos rfl]
      exact ⟨E.val V, by rw [← E.fl.2.2.2.1]; exact h1, by rw [← E.fl.2.2.2.2]; exact h2, h3.trans (E.mark V), E.picOk h4, E.past V h5⟩
    · dsimp only; rw [if_neg c1]
      exact ⟨V, h1, h2, h3, h4, h5⟩
  · obtain ⟨h1, h2, h3, h4⟩ := h.2 i hi
    dsimp only
    rw [if_neg (show ¬ i = c by omega)]
    refine ⟨h1, h2, h3, ?_⟩
    by_cases c1 : i + 1 = c
    · rw [if_pos c1]; rw [c1] at h4; exact h4.tr E
    · rw [if_neg c1]; exact h4
set_option maxRecDepth 100000 in
theorem z_GH.less {c : Nat} {Ps : Nat → z_Pos} {told mem marks : Nat → Int32} {pics : Nat → Int64} {pm p1 p2 p3 p4 p5 : Nat → Int32} {pt : Nat → Int64} {pl : Nat → Int32}
    (h : z_GH (c + 1) Ps told mem marks pics pm p1 p2 p3 p4 p5 pt pl) : z_GH c Ps told mem marks pics pm p1 p2 p3 p4 p5 pt pl :=
  ⟨fun i hi => h.1 i (by omega), fun i hi => h.2 i (by omega)⟩
def z_GI (g : St_Ga) (men : Nat → Int32) (a b c d e pls : Int32) (pm p1 p2 p3 p4 p5 : Nat → Int32) (pt : Nat → Int64) (pl : Nat → Int32) : Prop :=
  ∃ n Ps, n ≤ 400 ∧ g.2.1 = nI n ∧ pls = nI n ∧ z_RelP g.1 (Ps n) ∧ z_VPs (Ps n) men a b c d e ∧ z_GH n Ps g.2.2.1 g.2.2.2.1 g.2.2.2.2.1 g.2.2.2.2.2 pm p1 p2 p3 p4 p5 pt pl
set_option maxRecDepth 100000 in
theorem z_gi_begin {P : z_Pos} (V : z_Val P) (hcl : P.clock ≤ 999) (hnm : P.number ≤ 999) {g : St_Ga} {M : Nat → Int32} (hB : z_BdM M g.1.1) {x : St_Po} (R : z_RelP x P) {pm p1 p2 p3 p4 p5 : Nat → Int32} {pt : Nat → Int64} {pl kM kR : Nat → Int32}
    {G : St_Po × Int32 × (Nat → Int32) × (Nat → Int64)} (hG : G = f_Ga_begin g.1 g.2.2.2.2.1 g.2.2.2.2.2 x.1 x.2.1 x.2.2.1 x.2.2.2.1 x.2.2.2.2.1 x.2.2.2.2.2)
    {E : (Nat → Int32) × (Nat → Int32) × (Nat → Int32) × (Nat → Int32) × (Nat → Int32) × (Nat → Int32) × (Nat → Int64) × (Nat → Int32) × (Nat → Int32)} (hE : E = f_Mo_enter P.men (nI P.side) (nI P.rights) (z_pI P.passed) (nI P.clock) (nI P.number) 0 pm p1 p2 p3 p4 p5 pt kM kR) :
    z_GI (G.1, G.2.1, g.2.2.1, g.2.2.2.1, G.2.2.1, G.2.2.2) P.men (nI P.side) (nI P.rights) (z_pI P.passed) (nI P.clock) (nI P.number) 0 E.1 E.2.1 E.2.2.1 E.2.2.2.1 E.2.2.2.2.1 E.2.2.2.2.2.1 E.2.2.2.2.2.2.1 pl := by
  obtain ⟨b', hb', eb⟩ := z_copy_eq hB R.1 g.1.2.1 g.1.2.2.1 g.1.2.2.2.1 g.1.2.2.2.2.1 g.1.2.2.2.2.2 x.2.1 x.2.2.1 x.2.2.2.1 x.2.2.2.2.1 x.2.2.2.2.2
  have RW : z_RelP (b', x.2) P := ⟨hb', R.2⟩
  obtain ⟨mk', pcs', h1, h2, h3, h4, h5⟩ := z_keepPic_eq V RW (Nat.zero_le 400) g.2.2.2.2.1 g.2.2.2.2.2
  have hG2 : G = ((b', x.2), 0, mk', pcs') := by
    rw [hG, f_Ga_begin, eb, f_Ga_begin_r5, show (0 : Int32) = nI 0 from rfl]
    have h5' : f_Ga_keepPicture (b', x.2.1, x.2.2.1, x.2.2.2.1, x.2.2.2.2.1, x.2.2.2.2.2) (nI 0) g.2.2.2.2.1 g.2.2.2.2.2 = (mk', pcs') := h5
    rw [h5', f_Ga_begin_r14]
    rfl
  obtain ⟨kM', kR', pm', p1', p2', p3', p4', p5', pt', k, hp, hp2, ex⟩ := z_enter_eq V (Nat.zero_le 400) pm p1 p2 p3 p4 p5 pt kM kR
  rw [hG2, hE, show (0 : Int32) = nI 0 from rfl, ex]
  dsimp only
  refine ⟨0, fun _ => P, Nat.zero_le _, rfl, rfl, RW, ⟨rfl, rfl, rfl, rfl, rfl, rfl⟩, fun i hi => ?_, fun i hi => by omega⟩
  have hi0 : i = 0 := by omega
  subst hi0
  exact ⟨V, by omega, by omega, h1, h3, hp⟩
set_option maxRecDepth 100000 in
theorem z_mkM_number {P : z_Pos} (hs : P.side < 2) (m : Int32) : (z_mkM P m).number ≤ P.number + 1 := by
  unfold z_mkM z_mkPos z_Pos.number; dsimp only
  have : z_Pos.side P < 2 := hs
  unfold z_Pos.side at this ⊢
  omega
set_option maxRecDepth 100000 in
theorem z_gi_play {g : St_Ga} {P : z_Pos} {n : Nat} {Ps : Nat → z_Pos} (hn : n < 400) (hg : g.2.1 = nI n) (R : z_RelP g.1 (Ps n)) {pm p1 p2 p3 p4 p5 : Nat → Int32} {pt : Nat → Int64} {pl kM kR : Nat → Int32}
    (H : z_GH n Ps g.2.2.1 g.2.2.2.1 g.2.2.2.2.1 g.2.2.2.2.2 pm p1 p2 p3 p4 p5 pt pl) {m : Int32} (hm : m ∈ z_all (Ps n)) (hP : P = z_mkM (Ps n) m)
    {E : (Nat → Int32) × (Nat → Int32) × (Nat → Int32) × (Nat → Int32) × (Nat → Int32) × (Nat → Int32) × (Nat → Int64) × (Nat → Int32) × (Nat → Int32)} (hE : E = f_Mo_enter P.men (nI P.side) (nI P.rights) (z_pI P.passed) (nI P.clock) (nI P.number) (nI n + 1) pm p1 p2 p3 p4 p5 pt kM kR) :
    (f_Ga_advance g.1 g.2.1 g.2.2.1 g.2.2.2.1 g.2.2.2.2.1 g.2.2.2.2.2 m).2.1 = nI (n + 1) ∧
    z_GI (f_Ga_advance g.1 g.2.1 g.2.2.1 g.2.2.2.1 g.2.2.2.2.1 g.2.2.2.2.2 m) P.men (nI P.side) (nI P.rights) (z_pI P.passed) (nI P.clock) (nI P.number) (nI n + 1) E.1 E.2.1 E.2.2.1 E.2.2.2.1 E.2.2.2.2.1 E.2.2.2.2.2.1 E.2.2.2.2.2.2.1 (upd pl (nI n).toNatClampNeg m) := by
  obtain ⟨V, hcl, hnm, _, _, _⟩ := H.1 n (Nat.le_refl _)
  have L := z_leg_of V hm
  have VP' : z_Val P := by rw [hP]; exact z_leg_val V L
  obtain ⟨W', RW, eW⟩ := z_make_rel V R L
  rw [← hP] at RW
  obtain ⟨mk', pcs', h1, h2, h3, h4, h5⟩ := z_keepPic_eq VP' RW (show n + 1 ≤ 400 by omega) g.2.2.2.2.1 g.2.2.2.2.2
  obtain ⟨kM', kR', pm', p1', p2', p3', p4', p5', pt', k, hp, hp2, ex⟩ := z_enter_eq VP' (show n + 1 ≤ 400 by omega) pm p1 p2 p3 p4 p5 pt kM kR
  have e1 : nI n + 1 = nI (n + 1) := z_nI_add n 1
  have hA : f_Ga_advance g.1 g.2.1 g.2.2.1 g.2.2.2.1 g.2.2.2.2.1 g.2.2.2.2.2 m = (W', nI (n + 1), upd g.2.2.1 n m, upd g.2.2.2.1 n (z_memM (Ps n) m), mk', pcs') := by
    unfold f_Ga_advance
    rw [hg, if_neg (by rw [show (0 : Int32) = nI 0 from rfl, z_nI_lt (by omega) (by omega)]; omega), if_neg (by rw [show (400 : Int32) = nI 400 from rfl, z_nI_le (by omega) (by omega)]; omega), eW]
    rw [f_Ga_advance_r40]; dsimp only
    rw [e1, h5, f_Ga_advance_r55]; dsimp only
    rw [e1, z_nI_clamp (by omega)]
  rw [hA, hE, e1, ex, z_nI_clamp (by omega)]
  refine ⟨rfl, n + 1, fun i => if i = n + 1 then P else Ps i, by omega, rfl, rfl, ?_, ?_, fun i hi => ?_, fun i hi => ?_⟩
  · dsimp only; rw [if_pos rfl]; exact RW
  · dsimp only; rw [if_pos rfl]; exact ⟨rfl, rfl, rfl, rfl, rfl, rfl⟩
  · dsimp only
    by_cases c : i = n + 1
    · rw [if_pos c, c]
      refine ⟨VP', ?_, ?_, h1, h3, hp⟩
      · have := z_mkM_clock (Ps n) m; rw [hP]; omega
      · have := z_mkM_number V.hs m; rw [hP]; omega
    · rw [if_neg c]
      obtain ⟨V1, a1, a2, a3, a4, a5⟩ := H.1 i (by omega)
      exact ⟨V1, a1, a2, by rw [h2 i c]; exact a3, h4 i _ c a4, hp2 i _ (by omega) a5⟩
  · dsimp only
    rw [if_neg (show ¬ i = n + 1 by omega)]
    by_cases c : i = n
    · subst c
      rw [if_pos rfl, z_upd_same, z_upd_same, z_upd_same]
      exact ⟨hm, rfl, rfl, by rw [hP]; exact z_Eqv.rf _⟩
    · rw [z_upd_ne _ c, z_upd_ne _ c, z_upd_ne _ c, if_neg (show ¬ i + 1 = n + 1 by omega)]
      exact H.2 i (by omega)
set_option maxRecDepth 100000 in
theorem z_gi_back {g : St_Ga} {n : Nat} {Ps : Nat → z_Pos} (hn : n < 400) (hg : g.2.1 = nI (n + 1)) (R : z_RelP g.1 (Ps (n + 1))) {pm p1 p2 p3 p4 p5 : Nat → Int32} {pt : Nat → Int64} {pl : Nat → Int32}
    (H : z_GH (n + 1) Ps g.2.2.1 g.2.2.2.1 g.2.2.2.2.1 g.2.2.2.2.2 pm p1 p2 p3 p4 p5 pt pl) (men : Nat → Int32) (a b c d e : Int32)
    {E : (Nat → Int32) × Int32 × Int32 × Int32 × Int32 × Int32 × Int32} (hE : E = f_Mo_goTo men a b c d e (nI (n + 1)) pm p1 p2 p3 p4 p5 (nI (n + 1) - 1)) :
    (f_Ga_retreat g.1 g.2.1 g.2.2.1 g.2.2.2.1).2 = nI n ∧ E.2.2.2.2.2.2 = nI n ∧
    z_GI ((f_Ga_retreat g.1 g.2.1 g.2.2.1 g.2.2.2.1).1, (f_Ga_retreat g.1 g.2.1 g.2.2.1 g.2.2.2.1).2, g.2.2.1, g.2.2.2.1, g.2.2.2.2.1, g.2.2.2.2.2) E.1 E.2.1 E.2.2.1 E.2.2.2.1 E.2.2.2.2.1 E.2.2.2.2.2.1 E.2.2.2.2.2.2 pm p1 p2 p3 p4 p5 pt pl := by
  obtain ⟨V, hcl, hnm, _, _, A⟩ := H.1 n (by omega)
  obtain ⟨m1, m2, m3, m4⟩ := H.2 n (by omega)
  have L := z_leg_of V m1
  have RU := z_unmake_rel V (by omega) L (m4.sym.rel R)
  have e1 : nI (n + 1) - 1 = nI n := z_nI_sub (show 1 ≤ n + 1 by omega) (by omega)
  obtain ⟨Q, EQ, eq⟩ := z_goTo_eq (show n ≤ 400 by omega) A men a b c d e (nI (n + 1))
  have hA : f_Ga_retreat g.1 g.2.1 g.2.2.1 g.2.2.2.1 = (f_Po_unmake g.1.1 g.1.2.1 g.1.2.2.2.2.2 (g.2.2.1 n) (z_memM (Ps n) (g.2.2.1 n)), nI n) := by
    unfold f_Ga_retreat
    rw [hg, if_neg (by rw [show (0 : Int32) = nI 0 from rfl, z_nI_le (by omega) (by omega)]; omega), if_neg (by rw [show (400 : Int32) = nI 400 from rfl, z_nI_lt (by omega) (by omega)]; omega), e1, z_nI_clamp (by omega), m3, f_Ga_retreat_r49, e1]
  rw [hA, hE, e1, eq]
  refine ⟨rfl, rfl, n, fun i => if i = n then Q else Ps i, by omega, rfl, rfl, ?_, ?_, H.less.set EQ⟩
  · dsimp only; rw [if_pos rfl]; exact EQ.rel RU
  · dsimp only; rw [if_pos rfl]; exact ⟨rfl, rfl, rfl, rfl, rfl, rfl⟩

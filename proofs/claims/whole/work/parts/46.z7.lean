def z_cF (p : Nat → Bool) : Nat → Nat → Nat
  | _, 0 => 0
  | q, n + 1 => (if p q then 1 else 0) + z_cF p (q + 1) n
set_option maxRecDepth 100000 in
theorem z_cF_le (p : Nat → Bool) : ∀ n q, z_cF p q n ≤ n
  | 0, _ => Nat.le_refl 0
  | n + 1, q => by rw [z_cF]; have := z_cF_le p n (q + 1); split <;> omega
set_option maxRecDepth 100000 in
theorem z_cF_congr {p p' : Nat → Bool} : ∀ n q, (∀ r, q ≤ r → r < q + n → p r = p' r) → z_cF p q n = z_cF p' q n
  | 0, _, _ => rfl
  | n + 1, q, h => by
    rw [z_cF, z_cF, h q (by omega) (by omega), z_cF_congr n (q + 1) (fun r a b => h r (by omega) (by omega))]
set_option maxRecDepth 100000 in
theorem z_cF_len (p : Nat → Bool) : ∀ n q, z_cF p q n = ((List.range' q n).filter p).length
  | 0, _ => rfl
  | n + 1, q => by
    rw [z_cF, z_cF_len p n (q + 1), List.range'_succ]
    cases h : p q
    · rw [List.filter_cons_of_neg (by simp [h])]; simp
    · rw [List.filter_cons_of_pos h, List.length_cons]; simp; omega
set_option maxRecDepth 100000 in
theorem z_cF_pc (x : Int64) : z_cF (z_tb x) 0 64 = z_pc x := by
  rw [z_cF_len, z_pc_len, z_sq, List.range_eq_range']
set_option maxRecDepth 100000 in
theorem z_cF_zero (x : Int64) : z_cF (z_tb x) 0 64 = 0 ↔ x = 0 := by
  rw [z_cF_pc, z_pc_len, List.length_eq_zero_iff, z_sq_nil_iff]
def z_kdB (men : Nat → Int32) (k : Int32) (q : Nat) : Bool := decide (men q &&& 7 = k)
def z_dkB (men : Nat → Int32) (q : Nat) : Bool := z_kdB men 3 q && decide ((q % 8 + q / 8) % 2 = 0)
def z_liB (men : Nat → Int32) (q : Nat) : Bool := z_kdB men 3 q && !decide ((q % 8 + q / 8) % 2 = 0)
def z_otB (men : Nat → Int32) (q : Nat) : Bool := z_kdB men 1 q || z_kdB men 4 q || z_kdB men 5 q
def z_tooN (kn li dk ot : Nat) : Bool := decide (ot = 0) && (if li + dk = 0 then decide (kn ≤ 1) else decide (kn = 0) && (decide (li = 0) || decide (dk = 0)))
def z_tooB (men : Nat → Int32) : Bool := z_tooN (z_cF (z_kdB men 2) 0 64) (z_cF (z_liB men) 0 64) (z_cF (z_dkB men) 0 64) (z_cF (z_otB men) 0 64)
set_option maxRecDepth 100000 in
theorem z_too_12 (men : Nat → Int32) : ∀ n q kn li dk ot, q + n = 64 → kn ≤ q → li ≤ q → dk ≤ q → ot ≤ q →
    f_Mo_isTooLittle_12 men (n + 1) (nI kn) (nI li) (nI dk) (nI ot) (nI q) = if z_tooN (kn + z_cF (z_kdB men 2) q n) (li + z_cF (z_liB men) q n) (dk + z_cF (z_dkB men) q n) (ot + z_cF (z_otB men) q n) then 1 else 0 := by
  intro n
  induction n with
  | zero =>
    intro q kn li dk ot h h1 h2 h3 h4
    rw [f_Mo_isTooLittle_12]; dsimp only
    rw [if_pos (by rw [show q = 64 by omega]; decide), z_nI_add, f_Mo_isTooLittle_128, f_Mo_isTooLittle_128]
    simp only [z_cF, Nat.add_zero, z_tooN]
    have z : ∀ a : Nat, a ≤ 64 → (nI a = 0 ↔ a = 0) := fun a ha => z_nI_inj (a := a) (b := 0) (by omega) (by omega)
    have z1 : ((1 : Int32) < nI kn) ↔ 1 < kn := z_nI_lt (a := 1) (b := kn) (by omega) (by omega)
    have z2 : (nI (li + dk) ≤ 0) ↔ li + dk ≤ 0 := z_nI_le (a := li + dk) (b := 0) (by omega) (by omega)
    simp only [z kn (by omega), z li (by omega), z dk (by omega), z ot (by omega), z1, z2]
    by_cases c1 : ot = 0
    · by_cases c2 : li + dk = 0
      · have : li + dk ≤ 0 := by omega
        by_cases c3 : 1 < kn
        · have c3' : ¬ kn ≤ 1 := by omega
          simp [c1, c2, c3, c3']
        · have c3' : kn ≤ 1 := by omega
          simp [c1, c2, c3, c3']
      · have : ¬ li + dk ≤ 0 := by omega
        by_cases c3 : kn = 0
        · by_cases c4 : li = 0
          · have c5 : ¬ dk = 0 := by omega
            simp [c1, c3, c4, c5]
          · by_cases c5 : dk = 0
            · simp [c1, c3, c4, c5]
            · simp [c1, c3, c4, c5]
        · simp [c1, c2, c3, this]; omega
    · simp [c1]
  | succ n ih =>
    intro q kn li dk ot h h1 h2 h3 h4
    have hq : q < 64 := by omega
    rw [f_Mo_isTooLittle_12]; dsimp only
    rw [if_neg (z_nI_lt64 q hq), z_nI_clamp (by omega), show f_Mo_kind (men q) = men q &&& 7 from rfl]
    have e1 : ∀ a : Nat, nI a + 1 = nI (a + 1) := fun a => z_nI_add a 1
    have m8 : nI q - nI q / 8 * 8 = nI (q % 8) := z_nI_mod (b := 8) (by omega) (by decide) (by decide)
    have d8 : nI q / 8 = nI (q / 8) := z_nI_div (b := 8) (by omega) (by decide) (by decide)
    have m2 : nI (q % 8 + q / 8) - nI (q % 8 + q / 8) / 2 * 2 = nI ((q % 8 + q / 8) % 2) := z_nI_mod (b := 2) (by omega) (by decide) (by decide)
    have z2 : nI ((q % 8 + q / 8) % 2) = 0 ↔ (q % 8 + q / 8) % 2 = 0 := z_nI_inj (b := 0) (by omega) (by omega)
    simp only [f_Mo_isTooLittle_44, f_Mo_isTooLittle_63, f_Mo_isTooLittle_72, f_Mo_isTooLittle_102, z_nI_clamp (show q < 2147483648 by omega), show f_Mo_kind (men q) = men q &&& 7 from rfl, e1]
    rw [m8, d8, z_nI_add, m2]
    simp only [z2]
    have c12 : ∀ {a b : Int32}, a ≠ b → (men q &&& 7 = a) → ¬ (men q &&& 7 = b) := fun h1 h2 h3 => h1 (h2.symm.trans h3)
    simp only [z_cF]
    unfold z_liB z_dkB z_otB z_kdB
    by_cases k2 : men q &&& 7 = 2
    · have a1 := c12 (b := 1) (by decide) k2; have a3 := c12 (b := 3) (by decide) k2; have a4 := c12 (b := 4) (by decide) k2; have a5 := c12 (b := 5) (by decide) k2
      simp only [k2, a1, a3, a4, a5, if_true, if_false, decide_true, decide_false, Bool.false_and, Bool.or_false, Bool.false_eq_true]
      simp only [show (2 : Int32) = 1 ↔ False from by decide, show (2 : Int32) = 3 ↔ False from by decide, show (2 : Int32) = 4 ↔ False from by decide, show (2 : Int32) = 5 ↔ False from by decide, if_false, decide_false, Bool.false_and, Bool.or_false, Bool.false_eq_true]
      rw [ih (q + 1) _ _ _ _ (by omega) (by omega) (by omega) (by omega) (by omega)]
      unfold z_liB z_dkB z_otB z_kdB
      simp only [Nat.zero_add, Nat.add_assoc]
    · by_cases k3 : men q &&& 7 = 3
      · simp only [k3, show (3 : Int32) = 1 ↔ False from by decide, show (3 : Int32) = 2 ↔ False from by decide, show (3 : Int32) = 4 ↔ False from by decide, show (3 : Int32) = 5 ↔ False from by decide, if_true, if_false, decide_true, decide_false, Bool.true_and, Bool.or_false, Bool.false_eq_true]
        by_cases cc : (q % 8 + q / 8) % 2 = 0
        · simp only [cc, if_true, decide_true, Bool.not_true, Bool.false_eq_true, if_false]
          rw [ih (q + 1) _ _ _ _ (by omega) (by omega) (by omega) (by omega) (by omega)]
          unfold z_liB z_dkB z_otB z_kdB
          simp only [Nat.zero_add, Nat.add_assoc]
        · simp only [cc, if_false, decide_false, Bool.not_false, if_true, Bool.false_eq_true]
          rw [ih (q + 1) _ _ _ _ (by omega) (by omega) (by omega) (by omega) (by omega)]
          unfold z_liB z_dkB z_otB z_kdB
          simp only [Nat.zero_add, Nat.add_assoc]
      · by_cases ko : men q &&& 7 = 1 ∨ men q &&& 7 = 4 ∨ men q &&& 7 = 5
        · rcases ko with ko | ko | ko
          · simp only [ko, show (1 : Int32) = 2 ↔ False from by decide, show (1 : Int32) = 3 ↔ False from by decide, show (1 : Int32) = 4 ↔ False from by decide, show (1 : Int32) = 5 ↔ False from by decide, if_true, if_false, decide_true, decide_false, Bool.false_and, Bool.or_false, Bool.true_or, Bool.false_eq_true]
            rw [ih (q + 1) _ _ _ _ (by omega) (by omega) (by omega) (by omega) (by omega)]
            unfold z_liB z_dkB z_otB z_kdB
            simp only [Nat.zero_add, Nat.add_assoc]
          · simp only [ko, show (4 : Int32) = 2 ↔ False from by decide, show (4 : Int32) = 3 ↔ False from by decide, show (4 : Int32) = 1 ↔ False from by decide, show (4 : Int32) = 5 ↔ False from by decide, if_true, if_false, decide_true, decide_false, Bool.false_and, Bool.or_false, Bool.or_true, Bool.false_eq_true]
            rw [ih (q + 1) _ _ _ _ (by omega) (by omega) (by omega) (by omega) (by omega)]
            unfold z_liB z_dkB z_otB z_kdB
            simp only [Nat.zero_add, Nat.add_assoc]
          · simp only [ko, show (5 : Int32) = 2 ↔ False from by decide, show (5 : Int32) = 3 ↔ False from by decide, show (5 : Int32) = 1 ↔ False from by decide, show (5 : Int32) = 4 ↔ False from by decide, if_true, if_false, decide_true, decide_false, Bool.false_and, Bool.or_false, Bool.or_true, Bool.false_eq_true]
            rw [ih (q + 1) _ _ _ _ (by omega) (by omega) (by omega) (by omega) (by omega)]
            unfold z_liB z_dkB z_otB z_kdB
            simp only [Nat.zero_add, Nat.add_assoc]
        · have n1 : ¬ men q &&& 7 = 1 := fun e => ko (.inl e)
          have n4 : ¬ men q &&& 7 = 4 := fun e => ko (.inr (.inl e))
          have n5 : ¬ men q &&& 7 = 5 := fun e => ko (.inr (.inr e))
          simp only [k2, k3, n1, n4, n5, if_false, decide_false, Bool.false_and, Bool.or_false, Bool.false_eq_true]
          rw [ih (q + 1) _ _ _ _ (by omega) (by omega) (by omega) (by omega) (by omega)]
          unfold z_liB z_dkB z_otB z_kdB
          simp only [Nat.zero_add]
set_option maxRecDepth 100000 in
theorem z_too_ref (men : Nat → Int32) : f_Mo_isTooLittle men = if z_tooB men then 1 else 0 := by
  have := z_too_12 men 64 0 0 0 0 0 rfl (by omega) (by omega) (by omega) (by omega)
  simp only [Nat.zero_add] at this
  exact this
set_option maxRecDepth 100000 in
theorem z_bothOf_eq {men : Nat → Int32} {sets : Nat → Int64} (B : z_Bd men sets) {k : Nat} (h1 : 1 ≤ k) (h2 : k ≤ 6) {q : Nat} (hq : q < 64) : z_tb (f_Bo_bothOf sets (nI k)) q = z_kdB men (nI k) q := by
  rw [f_Bo_bothOf, z_tb_or, show (0 : Int32) = nI 0 from rfl, show (1 : Int32) = nI 1 from rfl, z_setOf_eq B (by omega) (by decide) hq, z_setOf_eq B (by omega) (by decide) hq, z_kdB]
  have hv := z_vm_cases (B.1 q hq)
  have hk : k = 1 ∨ k = 2 ∨ k = 3 ∨ k = 4 ∨ k = 5 ∨ k = 6 := by omega
  generalize men q = m at *
  rcases hk with rfl | rfl | rfl | rfl | rfl | rfl <;>
  rcases hv with rfl | rfl | rfl | rfl | rfl | rfl | rfl | rfl | rfl | rfl | rfl | rfl | rfl <;> decide
set_option maxRecDepth 100000 in
theorem z_light_eq : ∀ q, q < 64 → z_tb 6172840429334713770 q = !decide ((q % 8 + q / 8) % 2 = 0) ∧ z_tb (-6172840429334713771) q = decide ((q % 8 + q / 8) % 2 = 0) := by decide +kernel
set_option maxRecDepth 100000 in
theorem z_too_cls {men : Nat → Int32} {sets : Nat → Int64} (B : z_Bd men sets) : f_Bo_hasTooLittle sets = if z_tooB men then 1 else 0 := by
  have b : ∀ k, 1 ≤ k → k ≤ 6 → ∀ q, q < 64 → z_tb (f_Bo_bothOf sets (nI k)) q = z_kdB men (nI k) q := fun k h1 h2 q hq => z_bothOf_eq B h1 h2 hq
  have cz : ∀ (x : Int64) (p : Nat → Bool), (∀ q, q < 64 → z_tb x q = p q) → z_cF p 0 64 = z_cF (z_tb x) 0 64 := fun x p h => z_cF_congr 64 0 (fun r _ hr => (h r (by omega)).symm)
  have o1 := cz (((f_Bo_bothOf sets 1) ||| (f_Bo_bothOf sets 4)) ||| (f_Bo_bothOf sets 5)) (z_otB men) (fun q hq => by
    rw [z_tb_or, z_tb_or]
    rw [show z_tb (f_Bo_bothOf sets 1) q = z_kdB men 1 q from b 1 (by decide) (by decide) q hq, show z_tb (f_Bo_bothOf sets 4) q = z_kdB men 4 q from b 4 (by decide) (by decide) q hq, show z_tb (f_Bo_bothOf sets 5) q = z_kdB men 5 q from b 5 (by decide) (by decide) q hq]; rfl)
  have o2 := cz (f_Bo_bothOf sets 2) (z_kdB men 2) (fun q hq => b 2 (by decide) (by decide) q hq)
  have o3 := cz ((f_Bo_bothOf sets 3) &&& 6172840429334713770) (z_liB men) (fun q hq => by
    rw [z_tb_and, (z_light_eq q hq).1]; rw [show z_tb (f_Bo_bothOf sets 3) q = z_kdB men 3 q from b 3 (by decide) (by decide) q hq]; rfl)
  have o4 := cz ((f_Bo_bothOf sets 3) &&& (-6172840429334713771)) (z_dkB men) (fun q hq => by
    rw [z_tb_and, (z_light_eq q hq).2]; rw [show z_tb (f_Bo_bothOf sets 3) q = z_kdB men 3 q from b 3 (by decide) (by decide) q hq]; rfl)
  have o5 : f_Bo_bothOf sets 3 = 0 ↔ ((f_Bo_bothOf sets 3) &&& 6172840429334713770 = 0 ∧ (f_Bo_bothOf sets 3) &&& (-6172840429334713771) = 0) := by
    constructor
    · intro h; rw [h]; exact ⟨z_zero_and 6172840429334713770, z_zero_and (-6172840429334713771)⟩
    · rintro ⟨h1, h2⟩
      rw [z_eq0_iff] at h1 h2 ⊢
      intro q hq
      have a1 := h1 q hq; have a2 := h2 q hq
      rw [z_tb_and, (z_light_eq q hq).1] at a1; rw [z_tb_and, (z_light_eq q hq).2] at a2
      cases hb : z_tb (f_Bo_bothOf sets 3) q
      · rfl
      · rw [hb] at a1 a2; simp at a1 a2; omega
  rw [f_Bo_hasTooLittle, z_bitCount_eq, ← z_cF_pc, ← o2]
  unfold z_tooB
  have z1 := z_cF_zero (((f_Bo_bothOf sets 1) ||| (f_Bo_bothOf sets 4)) ||| (f_Bo_bothOf sets 5))
  have z3 := z_cF_zero ((f_Bo_bothOf sets 3) &&& 6172840429334713770)
  have z4 := z_cF_zero ((f_Bo_bothOf sets 3) &&& (-6172840429334713771))
  rw [← o1] at z1; rw [← o3] at z3; rw [← o4] at z4
  simp only [o5]
  simp only [← z1, ← z3, ← z4]
  have l2 := z_cF_le (z_kdB men 2) 64 0
  generalize z_cF (z_kdB men 2) 0 64 = kn at *
  generalize z_cF (z_liB men) 0 64 = li at *
  generalize z_cF (z_dkB men) 0 64 = dk at *
  generalize z_cF (z_otB men) 0 64 = ot at *
  have y0 : (nI kn ≤ 0) ↔ kn ≤ 0 := z_nI_le (a := kn) (b := 0) (by omega) (by omega)
  have y1 : (nI kn = 1) ↔ kn = 1 := z_nI_inj (a := kn) (b := 1) (by omega) (by omega)
  simp only [y0, y1, z_tooN]
  by_cases c1 : ot = 0
  · by_cases c2 : kn ≤ 0
    · have : kn = 0 := by omega
      by_cases c3 : li = 0
      · by_cases c4 : dk = 0 <;> simp [c1, this, c3, c4]
      · by_cases c4 : dk = 0 <;> simp [c1, this, c3, c4]
    · have k0 : ¬ kn = 0 := by omega
      by_cases c5 : kn = 1
      · by_cases c3 : li = 0
        · by_cases c4 : dk = 0 <;> simp [c1, c5, c3, c4]
        · by_cases c4 : dk = 0 <;> simp [c1, c5, c3, c4]
      · have c6 : ¬ kn ≤ 1 := by omega
        by_cases c3 : li = 0
        · by_cases c4 : dk = 0 <;> simp [c1, c2, c5, c3, c4, c6, k0]
        · by_cases c4 : dk = 0 <;> simp [c1, c2, c5, c3, c4, c6, k0]
  · simp [c1]
def z_tkB (P : z_Pos) (q : Nat) : Bool := decide (P.passed < 64) && decide (P.men q = nI (1 + 8 * P.side)) && z_pnHit (decide (P.side = 0)) q P.passed && z_safeB P (z_kOf P) q P.passed
def z_cnt1 (P : z_Pos) : Bool := (List.range 64).any (z_tkB P)
def z_ptc (P : z_Pos) : Nat := if z_cnt1 P then P.passed else 64
set_option maxRecDepth 100000 in
theorem z_two_takers : ((List.range 64).all (fun p => decide (((List.range 64).filter (fun q => z_pnHit true q p)).length ≤ 2) && decide (((List.range 64).filter (fun q => z_pnHit false q p)).length ≤ 2))) = true := by decide +kernel
set_option maxRecDepth 100000 in
theorem z_filter_le_of_imp {p q : Nat → Bool} : ∀ L : List Nat, (∀ a ∈ L, p a = true → q a = true) → (L.filter p).length ≤ (L.filter q).length := by
  intro L
  induction L with
  | nil => intro _; exact Nat.le_refl _
  | cons a L ih =>
    intro h
    have := ih (fun b hb => h b (List.mem_cons_of_mem _ hb))
    have ha := h a List.mem_cons_self
    cases hp : p a
    · rw [List.filter_cons_of_neg (by simp [hp])]
      cases hq : q a
      · rw [List.filter_cons_of_neg (by simp [hq])]; exact this
      · rw [List.filter_cons_of_pos hq, List.length_cons]; omega
    · rw [List.filter_cons_of_pos hp, List.filter_cons_of_pos (ha hp), List.length_cons, List.length_cons]; omega
set_option maxRecDepth 100000 in
theorem z_taker_goal {P : z_Pos} (V : z_Val P) {q : Nat} (hq : q < 64) (hp : P.passed < 64) (hm : P.men q = nI (1 + 8 * P.side)) (hh : z_pnHit (decide (P.side = 0)) q P.passed = true) : z_isOf (P.men q) (nI P.side) = true ∧ z_goalsB P q P.passed = true := by
  have f := z_nk_facts 1 (by decide) (by decide) P.side V.hs
  refine ⟨by rw [hm]; exact f.1, ?_⟩
  rw [z_goalsB, if_pos (by rw [hm]; exact f.2.2.1), z_pawnG, hh]; simp
set_option maxRecDepth 100000 in
theorem z_ptc_7 {P : z_Pos} (V : z_Val P) {W : St_Po} (R : z_RelP W P) (hp : P.passed < 64) : ∀ n j v1, j + n = 2 → (z_sq v1).length ≤ n → (∀ q, q < 64 → z_tb v1 q = true → P.men q = nI (1 + 8 * P.side) ∧ z_pnHit (decide (P.side = 0)) q P.passed = true) →
    f_Po_passedThatCounts_7 W.1 W.2.1 W.2.2.2.1 (n + 1) v1 (nI j) = if (z_sq v1).any (fun q => z_safeB P (z_kOf P) q P.passed) then nI P.passed else -1 := by
  have hk := z_kOf_is V
  intro n
  induction n with
  | zero =>
    intro j v1 h hl ho
    rw [f_Po_passedThatCounts_7]; dsimp only
    have : z_sq v1 = [] := List.length_eq_zero_iff.mp (by omega)
    rw [if_pos (by rw [show j = 2 by omega]; decide), this]; rfl
  | succ n ih =>
    intro j v1 h hl ho
    rw [f_Po_passedThatCounts_7]; dsimp only
    rw [if_neg ((by decide : ∀ j, j < 2 → ¬ (2 : Int32) ≤ nI j) j (by omega))]
    by_cases cc : v1 = 0
    · rw [if_pos cc, (z_sq_nil_iff v1).mpr cc]; rfl
    · rw [if_neg cc]
      obtain ⟨q, l, hql⟩ : ∃ q l, z_sq v1 = q :: l := by
        cases hh : z_sq v1 with
        | nil => exact absurd ((z_sq_nil_iff v1).mp hh) cc
        | cons q l => exact ⟨q, l, rfl⟩
      obtain ⟨hq, h1, -, -⟩ := z_sq_cons hql
      obtain ⟨o1, o2⟩ := ho q hq h1
      obtain ⟨z_g1, z_g2⟩ := z_taker_goal V hq hp o1 o2
      have pe : z_pI P.passed = nI P.passed := by rw [z_pI, if_pos hp]
      have ks := z_keepsKingSafe_eq V R.1.2 R.1.bd hk hq hp z_g1 z_g2
      rw [pe] at ks
      have e2 : W.2.1 = nI P.side ∧ W.2.2.2.1 = nI P.passed := by rw [R.2, ← pe]; exact ⟨rfl, rfl⟩
      rw [z_lowest_eq hql, show nI j + 1 = nI (j + 1) from z_nI_add j 1, e2.1, e2.2]
      rw [show f_Po_keepsKingSafe W.1 (nI P.side) (nI P.passed) (nI q) (nI P.passed) = _ from ks]
      have ih' := ih (j + 1) (v1 &&& (v1 - 1)) (by omega) (by rw [z_rest_eq hql]; rw [hql, List.length_cons] at hl; omega) (fun t ht g => by rw [z_tb_rest hql ht, Bool.and_eq_true] at g; exact ho t ht g.1)
      rw [e2.1, e2.2] at ih'
      rw [ih', z_rest_eq hql, hql, List.any_cons]
      cases z_safeB P (z_kOf P) q P.passed
      · simp
      · simp
set_option maxRecDepth 100000 in
theorem z_ptc_cls {P : z_Pos} (V : z_Val P) {W : St_Po} (R : z_RelP W P) : f_Po_passedThatCounts W.1 W.2.1 W.2.2.2.1 = z_pI (z_ptc P) := by
  have hk := z_kOf_is V
  have hs := V.hs
  have e2 : W.2.1 = nI P.side ∧ W.2.2.2.1 = z_pI P.passed := by rw [R.2]; exact ⟨rfl, rfl⟩
  rw [f_Po_passedThatCounts]
  by_cases hp : P.passed < 64
  · have bits : ∀ q, q < 64 → z_tb (f_Po_pawnsThatAttackPassed W.1 W.2.1 W.2.2.2.1) q = (z_pnHit (decide (P.side = 0)) q P.passed && decide (P.men q = nI (1 + 8 * P.side))) := by
      intro q hq
      rw [e2.1, e2.2]
      have := z_attackPassed_eq V R.1.2 R.1.bd hq
      rw [show f_Po_pawnsThatAttackPassed W.1 (nI P.side) (z_pI P.passed) = f_Po_pawnsThatAttackPassed (W.1.1, W.1.2) (nI P.side) (z_pI P.passed) from rfl, this]; simp [hp]
    have len : (z_sq (f_Po_pawnsThatAttackPassed W.1 W.2.1 W.2.2.2.1)).length ≤ 2 := by
      have := List.all_eq_true.mp z_two_takers P.passed (List.mem_range.mpr hp)
      rw [Bool.and_eq_true, decide_eq_true_eq, decide_eq_true_eq] at this
      have h2 : (z_sq (f_Po_pawnsThatAttackPassed W.1 W.2.1 W.2.2.2.1)).length ≤ ((List.range 64).filter (fun q => z_pnHit (decide (P.side = 0)) q P.passed)).length := by
        apply z_filter_le_of_imp
        intro a ha h
        rw [bits a (List.mem_range.mp ha), Bool.and_eq_true] at h; exact h.1
      refine Nat.le_trans h2 ?_
      cases decide (P.side = 0)
      · exact this.2
      · exact this.1
    have := z_ptc_7 V R hp 2 0 (f_Po_pawnsThatAttackPassed W.1 W.2.1 W.2.2.2.1) rfl len (fun q hq h => by
      rw [bits q hq, Bool.and_eq_true, decide_eq_true_eq] at h; exact ⟨h.2, h.1⟩)
    have this' : f_Po_passedThatCounts_7 W.1 W.2.1 W.2.2.2.1 3 (f_Po_pawnsThatAttackPassed W.1 W.2.1 W.2.2.2.1) 0 = _ := this
    rw [this', z_ptc]
    have eq : (z_sq (f_Po_pawnsThatAttackPassed W.1 W.2.1 W.2.2.2.1)).any (fun q => z_safeB P (z_kOf P) q P.passed) = z_cnt1 P := by
      unfold z_cnt1
      rw [Bool.eq_iff_iff, List.any_eq_true, List.any_eq_true]
      constructor
      · rintro ⟨q, h1, h2⟩
        obtain ⟨hq, h3⟩ := z_mem_sq.mp h1
        rw [bits q hq, Bool.and_eq_true] at h3
        exact ⟨q, List.mem_range.mpr hq, by rw [z_tkB, h3.1, h3.2, h2]; simp [hp]⟩
      · rintro ⟨q, h1, h2⟩
        have hq := List.mem_range.mp h1
        simp only [z_tkB, Bool.and_eq_true] at h2
        exact ⟨q, z_mem_sq.mpr ⟨hq, by rw [bits q hq, h2.1.2, h2.1.1.2]; rfl⟩, h2.2⟩
    rw [eq]
    cases z_cnt1 P
    · simp; rfl
    · simp [z_pI, hp]
  · have z : f_Po_pawnsThatAttackPassed W.1 W.2.1 W.2.2.2.1 = 0 := by
      rw [z_eq0_iff]
      intro q hq
      rw [e2.1, e2.2]
      have := z_attackPassed_eq V R.1.2 R.1.bd hq
      rw [show f_Po_pawnsThatAttackPassed W.1 (nI P.side) (z_pI P.passed) = f_Po_pawnsThatAttackPassed (W.1.1, W.1.2) (nI P.side) (z_pI P.passed) from rfl, this]; simp [hp]
    rw [z, f_Po_passedThatCounts_7]; dsimp only
    rw [if_neg (by decide), if_pos rfl, z_ptc]
    have : z_cnt1 P = false := by
      rw [← Bool.not_eq_true]; unfold z_cnt1; rw [List.any_eq_true]
      rintro ⟨q, -, h⟩; simp [z_tkB, hp] at h
    rw [this]; rfl
def z_mark (P : z_Pos) : Int32 := nI (P.side + 2 * P.rights + 32 * (if z_ptc P < 64 then z_ptc P + 1 else 0))
set_option maxRecDepth 100000 in
theorem z_ptc_le {P : z_Pos} (V : z_Val P) : z_ptc P ≤ 64 := by unfold z_ptc; have := V.hp; split <;> omega
set_option maxRecDepth 100000 in
theorem z_mark_cls {P : z_Pos} (V : z_Val P) {W : St_Po} (R : z_RelP W P) : (W.2.1 + (2 * W.2.2.1)) + (32 * ((f_Po_passedThatCounts W.1 W.2.1 W.2.2.2.1) + 1)) = z_mark P := by
  rw [z_ptc_cls V R, z_pI_1 (z_ptc_le V), R.2, z_mark]
  dsimp only
  rw [show (2 : Int32) = nI 2 from rfl, show (32 : Int32) = nI 32 from rfl, z_nI_mul, z_nI_mul, z_nI_add, z_nI_add]
def z_pic (P : z_Pos) (b : Nat) : Int64 := Int64.ofBitVec (BitVec.ofNat 64 0)
set_option maxRecDepth 100000 in
theorem z_swb_5 {men : Nat → Int32} {sets : Nat → Int64} (B : z_Bd men sets) {b : Nat} (hb : b < 4) {q : Nat} (hq : q < 64) : z_tb (f_Bo_squaresWithBit sets (nI b)) q = (men q).toInt.toNat.testBit b := by
  have hv := z_vm_cases (B.1 q hq)
  have b1 := B.2 1 (by decide) q hq; have b2 := B.2 2 (by decide) q hq; have b3 := B.2 3 (by decide) q hq
  have b4 := B.2 4 (by decide) q hq; have b5 := B.2 5 (by decide) q hq; have b6 := B.2 6 (by decide) q hq; have b7 := B.2 7 (by decide) q hq; have b8 := B.2 8 (by decide) q hq
  have b9 := B.2 9 (by decide) q hq; have b10 := B.2 10 (by decide) q hq; have b11 := B.2 11 (by decide) q hq
  have b12 := B.2 12 (by decide) q hq; have b13 := B.2 13 (by decide) q hq; have b14 := B.2 14 (by decide) q hq; have b15 := B.2 15 (by decide) q hq
  have hb4 : b = 0 ∨ b = 1 ∨ b = 2 ∨ b = 3 := by omega
  rcases hb4 with rfl | rfl | rfl | rfl
  · have e : f_Bo_squaresWithBit sets (nI 0) = 0 ||| sets 1 ||| sets 3 ||| sets 5 ||| sets 7 ||| sets 9 ||| sets 11 ||| sets 13 ||| sets 15 := rfl
    rw [e]; simp only [z_tb_or, z_tb_zero, b1, b3, b5, b7, b9, b11, b13, b15]
    generalize men q = m at *
    rcases hv with rfl | rfl | rfl | rfl | rfl | rfl | rfl | rfl | rfl | rfl | rfl | rfl | rfl <;> decide
  · have e : f_Bo_squaresWithBit sets (nI 1) = 0 ||| sets 2 ||| sets 3 ||| sets 6 ||| sets 7 ||| sets 10 ||| sets 11 ||| sets 14 ||| sets 15 := rfl
    rw [e]; simp only [z_tb_or, z_tb_zero, b2, b3, b6, b7, b10, b11, b14, b15]
    generalize men q = m at *
    rcases hv with rfl | rfl | rfl | rfl | rfl | rfl | rfl | rfl | rfl | rfl | rfl | rfl | rfl <;> decide
  · have e : f_Bo_squaresWithBit sets (nI 2) = 0 ||| sets 4 ||| sets 5 ||| sets 6 ||| sets 7 ||| sets 12 ||| sets 13 ||| sets 14 ||| sets 15 := rfl
    rw [e]; simp only [z_tb_or, z_tb_zero, b4, b5, b6, b7, b12, b13, b14, b15]
    generalize men q = m at *
    rcases hv with rfl | rfl | rfl | rfl | rfl | rfl | rfl | rfl | rfl | rfl | rfl | rfl | rfl <;> decide
  · have e : f_Bo_squaresWithBit sets (nI 3) = 0 ||| sets 8 ||| sets 9 ||| sets 10 ||| sets 11 ||| sets 12 ||| sets 13 ||| sets 14 ||| sets 15 := rfl
    rw [e]; simp only [z_tb_or, z_tb_zero, b8, b9, b10, b11, b12, b13, b14, b15]
    generalize men q = m at *
    rcases hv with rfl | rfl | rfl | rfl | rfl | rfl | rfl | rfl | rfl | rfl | rfl | rfl | rfl <;> decide
set_option maxRecDepth 100000 in
theorem z_vm_bits {m m' : Int32} (h : z_vm m = true) (h' : z_vm m' = true) (hb : ∀ b, b < 4 → m.toInt.toNat.testBit b = m'.toInt.toNat.testBit b) : m = m' := by
  have b0 := hb 0 (by decide); have b1 := hb 1 (by decide); have b2 := hb 2 (by decide); have b3 := hb 3 (by decide)
  clear hb
  rcases z_vm_cases h with rfl | rfl | rfl | rfl | rfl | rfl | rfl | rfl | rfl | rfl | rfl | rfl | rfl <;>
  rcases z_vm_cases h' with rfl | rfl | rfl | rfl | rfl | rfl | rfl | rfl | rfl | rfl | rfl | rfl | rfl <;>
  first | rfl | (exfalso; revert b0 b1 b2 b3; decide)
def z_menEq (P P' : z_Pos) : Bool := (List.range 64).all (fun q => decide (P.men q = P'.men q))
set_option maxRecDepth 100000 in
theorem z_menEq_iff {P P' : z_Pos} : z_menEq P P' = true ↔ ∀ q, q < 64 → P.men q = P'.men q := by
  unfold z_menEq
  rw [List.all_eq_true]
  exact ⟨fun h q hq => by have := h q (List.mem_range.mpr hq); simpa using this, fun h q hq => by have := h q (List.mem_range.mp hq); simpa using this⟩
def z_sameP (P P' : z_Pos) : Bool := decide (P.side = P'.side) && decide (P.rights = P'.rights) && decide (z_ptc P = z_ptc P') && z_menEq P P'
set_option maxRecDepth 100000 in
theorem z_mark_inj {P P' : z_Pos} (V : z_Val P) (V' : z_Val P') : z_mark P = z_mark P' ↔ P.side = P'.side ∧ P.rights = P'.rights ∧ z_ptc P = z_ptc P' := by
  have h1 := V.hs; have h2 := V.hr; have h3 := z_ptc_le V
  have h1' := V'.hs; have h2' := V'.hr; have h3' := z_ptc_le V'
  unfold z_mark
  rw [z_nI_inj (by split <;> omega) (by split <;> omega)]
  constructor
  · intro h; split at h <;> split at h <;> omega
  · rintro ⟨a, b, c⟩; rw [a, b, c]
def z_PicOk (pics : Nat → Int64) (i : Nat) (P : z_Pos) : Prop := ∀ b, b < 4 → ∀ q, q < 64 → z_tb (pics (4 * i + b)) q = (P.men q).toInt.toNat.testBit b
set_option maxRecDepth 100000 in
theorem z_pic_eq {pics : Nat → Int64} {i c : Nat} {P P' : z_Pos} (V : z_Val P) (V' : z_Val P') (hi : z_PicOk pics i P) (hc : z_PicOk pics c P') :
    (∀ b, b < 4 → pics (4 * i + b) = pics (4 * c + b)) ↔ z_menEq P P' = true := by
  rw [z_menEq_iff]
  constructor
  · intro h q hq
    apply z_vm_bits (V.hv q hq) (V'.hv q hq)
    intro b hb
    rw [← hi b hb q hq, ← hc b hb q hq, h b hb]
  · intro h b hb
    apply z_tb_ext
    intro q hq
    rw [hi b hb q hq, hc b hb q hq, h q hq]
def z_alF (p : Nat → Bool) : Nat → Nat → Bool
  | _, 0 => true
  | q, n + 1 => p q && z_alF p (q + 1) n
set_option maxRecDepth 100000 in
theorem z_alF_iff (p : Nat → Bool) : ∀ n q, z_alF p q n = true ↔ ∀ r, q ≤ r → r < q + n → p r = true
  | 0, q => ⟨fun _ r h1 h2 => by omega, fun _ => rfl⟩
  | n + 1, q => by
    rw [z_alF, Bool.and_eq_true, z_alF_iff p n (q + 1)]
    constructor
    · rintro ⟨h1, h2⟩ r h3 h4
      rcases Nat.eq_or_lt_of_le h3 with e | e
      · rw [← e]; exact h1
      · exact h2 r e (by omega)
    · intro h
      exact ⟨h q (Nat.le_refl _) (by omega), fun r h3 h4 => h r (by omega) (by omega)⟩
set_option maxRecDepth 100000 in
theorem z_isSame_44 (marks : Nat → Int32) (pics : Nat → Int64) {i c : Nat} (hi : i ≤ 400) (hc : c ≤ 400) : ∀ n b, b + n = 4 →
    f_Ga_isSameAsPresent_44 (nI c) marks pics (nI i) (n + 1) (nI b) = if z_alF (fun b' => decide (pics (4 * i + b') = pics (4 * c + b'))) b n then 1 else 0 := by
  have i4 : ∀ a b : Nat, a ≤ 400 → b < 4 → ((4 : Int32) * nI a + nI b).toNatClampNeg = 4 * a + b := by
    intro a b ha hb
    rw [show (4 : Int32) = nI 4 from rfl, z_nI_mul, z_nI_add, z_nI_clamp (by omega)]
  intro n
  induction n with
  | zero =>
    intro b h
    rw [f_Ga_isSameAsPresent_44]; dsimp only
    rw [if_pos (by rw [show b = 4 by omega]; decide)]; rfl
  | succ n ih =>
    intro b h
    rw [f_Ga_isSameAsPresent_44]; dsimp only
    rw [if_neg ((by decide : ∀ b, b < 4 → ¬ (4 : Int32) ≤ nI b) b (by omega)), i4 i b hi (by omega), i4 c b hc (by omega), show nI b + 1 = nI (b + 1) from z_nI_add b 1, ih (b + 1) (by omega), z_alF]
    by_cases e : pics (4 * i + b) = pics (4 * c + b)
    · rw [if_pos e]; simp [e]
    · rw [if_neg e]; simp [e]
set_option maxRecDepth 100000 in
theorem z_isSame_eq {marks : Nat → Int32} {pics : Nat → Int64} {i c : Nat} {P P' : z_Pos} (V : z_Val P) (V' : z_Val P') (hic : i ≤ c) (hc : c ≤ 400)
    (m1 : marks i = z_mark P) (m2 : marks c = z_mark P') (p1 : z_PicOk pics i P) (p2 : z_PicOk pics c P') : f_Ga_isSameAsPresent (nI c) marks pics (nI i) = if z_sameP P P' then 1 else 0 := by
  have mi := z_mark_inj V V'
  have pe := z_pic_eq V V' p1 p2
  rw [f_Ga_isSameAsPresent, if_neg (by rw [show (0 : Int32) = nI 0 from rfl, z_nI_lt (by omega) (by omega)]; omega), if_neg (by rw [z_nI_lt (by omega) (by omega)]; omega), if_neg (by rw [show (400 : Int32) = nI 400 from rfl, z_nI_lt (by omega) (by omega)]; omega), z_nI_clamp (by omega), z_nI_clamp (by omega), m1, m2]
  have s44 := z_isSame_44 marks pics (i := i) (c := c) (by omega) hc 4 0 rfl
  rw [show nI 0 = 0 from rfl] at s44
  rw [s44]
  have q : z_alF (fun b' => decide (pics (4 * i + b') = pics (4 * c + b'))) 0 4 = true ↔ z_menEq P P' = true := by
    rw [← pe, z_alF_iff]
    exact ⟨fun h b hb => by have := h b (by omega) (by omega); simpa using this, fun h b _ hb => by have := h b (by omega); simpa using this⟩
  unfold z_sameP
  by_cases c1 : z_mark P = z_mark P'
  · rw [if_pos c1]
    obtain ⟨a1, a2, a3⟩ := mi.mp c1
    simp only [a1, a2, a3, decide_true, Bool.true_and]
    by_cases c2 : z_menEq P P' = true
    · rw [if_pos (q.mpr c2), if_pos c2]
    · rw [if_neg (fun h => c2 (q.mp h)), if_neg c2]
  · rw [if_neg c1, if_neg]
    intro h
    simp only [Bool.and_eq_true, decide_eq_true_eq] at h
    exact c1 (mi.mpr ⟨h.1.1.1, h.1.1.2, h.1.2⟩)
set_option maxRecDepth 100000 in
theorem z_times_4 {marks : Nat → Int32} {pics : Nat → Int64} {c : Nat} (hc : c ≤ 400) {p : Nat → Bool} (hp : ∀ i, i ≤ c → f_Ga_isSameAsPresent (nI c) marks pics (nI i) = if p i then 1 else 0) :
    ∀ n i t, i + n = c + 1 → t ≤ i → f_Ga_timesStood_4 (nI c) marks pics (n + 1) (nI t) (nI i) = nI (t + z_cF p i n) := by
  intro n
  induction n with
  | zero =>
    intro i t h ht
    rw [f_Ga_timesStood_4]; dsimp only
    rw [if_pos (by rw [z_nI_lt (by omega) (by omega)]; omega)]; rfl
  | succ n ih =>
    intro i t h ht
    rw [f_Ga_timesStood_4]; dsimp only
    rw [if_neg (by rw [z_nI_lt (by omega) (by omega)]; omega), hp i (by omega), show nI i + 1 = nI (i + 1) from z_nI_add i 1, show nI t + 1 = nI (t + 1) from z_nI_add t 1, z_cF]
    cases p i
    · simp only [Bool.false_eq_true, if_false, if_true, Nat.zero_add]
      exact ih (i + 1) t (by omega) (by omega)
    · simp only [if_true]
      rw [if_neg (by decide), ih (i + 1) (t + 1) (by omega) (by omega)]; congr 1; omega
set_option maxRecDepth 100000 in
theorem z_times_eq {marks : Nat → Int32} {pics : Nat → Int64} {c : Nat} (hc : c ≤ 400) {p : Nat → Bool} (hp : ∀ i, i ≤ c → f_Ga_isSameAsPresent (nI c) marks pics (nI i) = if p i then 1 else 0) :
    f_Ga_timesStood (nI c) marks pics = nI (z_cF p 0 (c + 1)) := by
  rw [f_Ga_timesStood]
  have : ((nI c).toInt - 0).toNat = c := by rw [z_nI_toInt (by omega)]; omega
  rw [this]
  have := z_times_4 hc hp (c + 1) 0 0 (by omega) (by omega)
  rw [Nat.zero_add] at this; exact this
set_option maxRecDepth 100000 in
theorem z_atk_congr {men men' : Nat → Int32} (h : ∀ q, q < 64 → men q = men' q) (s t : Nat) : z_atk men s t = z_atk men' s t := by
  rw [Bool.eq_iff_iff, z_atk_iff, z_atk_iff]
  have hf : ∀ q, q < 64 → z_fre men q = z_fre men' q := fun q hq => by unfold z_fre; rw [h q hq]
  constructor
  · rintro ⟨q, hq, a, b⟩
    exact ⟨q, hq, by rw [← h q hq]; exact a, by rw [← h q hq, ← z_hits_congr hf]; exact b⟩
  · rintro ⟨q, hq, a, b⟩
    exact ⟨q, hq, by rw [h q hq]; exact a, by rw [h q hq, z_hits_congr hf]; exact b⟩
set_option maxRecDepth 100000 in
theorem z_kOf_congr {P P' : z_Pos} (V : z_Val P) (V' : z_Val P') (h : ∀ q, q < 64 → P.men q = P'.men q) (hs : P.side = P'.side) : z_kOf P = z_kOf P' := by
  have k1 := z_kOf_is V; have k2 := z_kOf_is V'
  have := (k1.2 _ k1.1).mpr rfl
  rw [h _ k1.1, hs] at this
  exact (k2.2 _ k1.1).mp this
set_option maxRecDepth 100000 in
theorem z_tkB_congr {P P' : z_Pos} (V : z_Val P) (V' : z_Val P') (h : ∀ q, q < 64 → P.men q = P'.men q) (hs : P.side = P'.side) (hp : P.passed = P'.passed) {q : Nat} (hq : q < 64) : z_tkB P q = z_tkB P' q := by
  unfold z_tkB
  rw [← hs, ← hp, h q hq]
  by_cases c : P'.men q = nI (1 + 8 * P.side)
  · congr 1
    unfold z_safeB
    rw [← z_kOf_congr V V' h hs, ← hs, ← hp]
    congr 1
    by_cases h64 : P.passed < 64
    · have hnK : z_nK P q P.passed (z_kOf P) = z_nK P' q P.passed (z_kOf P) := by unfold z_nK; rw [h q hq]
      rw [hnK]
      apply z_atk_congr
      intro r hr
      have k7 := (z_nk_facts 1 (by decide) (by decide) P.side V.hs).2.2.1
      have nca : ¬ z_isCa (P.men q) q P.passed := fun g => by have := g.1; rw [h q hq, c, k7] at this; exact absurd this (by decide)
      have nca' : ¬ z_isCa (P'.men q) q P.passed := fun g => by have := g.1; rw [c, k7] at this; exact absurd this (by decide)
      unfold z_mkMen
      simp only [if_neg nca, if_neg nca', h q hq]
      unfold upd
      split
      · rfl
      · split
        · rfl
        · split
          · dsimp only
            split
            · rfl
            · exact h r hr
          · exact h r hr
    · have hnK : z_nK P q P.passed (z_kOf P) = z_nK P' q P.passed (z_kOf P) := by unfold z_nK; rw [h q hq]
      rw [hnK]
      apply z_atk_congr
      intro r hr
      have k7 := (z_nk_facts 1 (by decide) (by decide) P.side V.hs).2.2.1
      have nca : ¬ z_isCa (P.men q) q P.passed := fun g => by have := g.1; rw [h q hq, c, k7] at this; exact absurd this (by decide)
      have nca' : ¬ z_isCa (P'.men q) q P.passed := fun g => by have := g.1; rw [c, k7] at this; exact absurd this (by decide)
      unfold z_mkMen
      simp only [if_neg nca, if_neg nca', h q hq]
      unfold upd
      split
      · rfl
      · split
        · rfl
        · split
          · dsimp only
            split
            · rfl
            · exact h r hr
          · exact h r hr
  · simp [c]
def z_TkOk (x : Int64) (P : z_Pos) : Prop := ∀ q, q < 64 → z_tb x q = z_tkB P q
set_option maxRecDepth 100000 in
theorem z_tk_zero {x : Int64} {P : z_Pos} (h : z_TkOk x P) : x = 0 ↔ z_cnt1 P = false := by
  rw [z_eq0_iff, ← Bool.not_eq_true]
  unfold z_cnt1
  rw [List.any_eq_true]
  constructor
  · rintro g ⟨q, h1, h2⟩
    have hq := List.mem_range.mp h1
    rw [← h q hq, g q hq] at h2; cases h2
  · intro g q hq
    rw [← Bool.not_eq_true, h q hq]
    exact fun e => g ⟨q, List.mem_range.mpr hq, e⟩
set_option maxRecDepth 100000 in
theorem z_cnt1_passed {P : z_Pos} (h : z_cnt1 P = true) : P.passed < 64 := by
  unfold z_cnt1 at h
  rw [List.any_eq_true] at h
  obtain ⟨q, -, h2⟩ := h
  simp only [z_tkB, Bool.and_eq_true, decide_eq_true_eq] at h2
  exact h2.1.1.1
set_option maxRecDepth 100000 in
theorem z_same_takes {P P' : z_Pos} (V : z_Val P) (V' : z_Val P') {x x' : Int64} (t : z_TkOk x P) (t' : z_TkOk x' P') (h : z_menEq P P' = true) (hs : P.side = P'.side) :
    (x = x' ∧ (x = 0 ∨ P.passed = P'.passed)) ↔ z_ptc P = z_ptc P' := by
  rw [z_menEq_iff] at h
  constructor
  · rintro ⟨rfl, g⟩
    unfold z_ptc
    cases c : z_cnt1 P
    · have := (z_tk_zero t).mpr c
      have c' := (z_tk_zero t').mp this
      rw [c']; rfl
    · rcases g with g | g
      · rw [(z_tk_zero t).mp g] at c; cases c
      · have c' : z_cnt1 P' = true := by
          cases e : z_cnt1 P'
          · have := (z_tk_zero t').mpr e; rw [(z_tk_zero t).mp this] at c; cases c
          · rfl
        rw [c', g]
  · intro g
    unfold z_ptc at g
    cases c : z_cnt1 P
    · cases c' : z_cnt1 P'
      · have a := (z_tk_zero t).mpr c; have a' := (z_tk_zero t').mpr c'
        rw [a, a']; exact ⟨rfl, .inl rfl⟩
      · rw [c, c'] at g
        have := z_cnt1_passed c'
        simp at g; omega
    · cases c' : z_cnt1 P'
      · rw [c, c'] at g
        have := z_cnt1_passed c
        simp at g; omega
      · rw [c, c'] at g
        simp at g
        refine ⟨?_, .inr g⟩
        apply z_tb_ext
        intro q hq
        rw [t q hq, t' q hq, z_tkB_congr V V' h hs g hq]
abbrev z_Past (pm ps pr pp z_pc pn : Nat → Int32) (pt : Nat → Int64) (i : Nat) (P : z_Pos) : Prop :=
  (∀ q, q < 64 → pm (64 * i + q) = P.men q) ∧ ps i = nI P.side ∧ pr i = nI P.rights ∧ pp i = z_pI P.passed ∧ z_pc i = nI P.clock ∧ pn i = nI P.number ∧ z_TkOk (pt i) P
set_option maxRecDepth 100000 in
theorem z_Past.m {pm ps pr pp z_pc pn : Nat → Int32} {pt : Nat → Int64} {i : Nat} {P : z_Pos} (h : z_Past pm ps pr pp z_pc pn pt i P) : ∀ q, q < 64 → pm (64 * i + q) = P.men q := h.1
set_option maxRecDepth 100000 in
theorem z_Past.s {pm ps pr pp z_pc pn : Nat → Int32} {pt : Nat → Int64} {i : Nat} {P : z_Pos} (h : z_Past pm ps pr pp z_pc pn pt i P) : ps i = nI P.side := h.2.1
set_option maxRecDepth 100000 in
theorem z_Past.r {pm ps pr pp z_pc pn : Nat → Int32} {pt : Nat → Int64} {i : Nat} {P : z_Pos} (h : z_Past pm ps pr pp z_pc pn pt i P) : pr i = nI P.rights := h.2.2.1
set_option maxRecDepth 100000 in
theorem z_Past.p {pm ps pr pp z_pc pn : Nat → Int32} {pt : Nat → Int64} {i : Nat} {P : z_Pos} (h : z_Past pm ps pr pp z_pc pn pt i P) : pp i = z_pI P.passed := h.2.2.2.1
set_option maxRecDepth 100000 in
theorem z_Past.c {pm ps pr pp z_pc pn : Nat → Int32} {pt : Nat → Int64} {i : Nat} {P : z_Pos} (h : z_Past pm ps pr pp z_pc pn pt i P) : z_pc i = nI P.clock := h.2.2.2.2.1
set_option maxRecDepth 100000 in
theorem z_Past.n {pm ps pr pp z_pc pn : Nat → Int32} {pt : Nat → Int64} {i : Nat} {P : z_Pos} (h : z_Past pm ps pr pp z_pc pn pt i P) : pn i = nI P.number := h.2.2.2.2.2.1
set_option maxRecDepth 100000 in
theorem z_Past.t {pm ps pr pp z_pc pn : Nat → Int32} {pt : Nat → Int64} {i : Nat} {P : z_Pos} (h : z_Past pm ps pr pp z_pc pn pt i P) : z_TkOk (pt i) P := h.2.2.2.2.2.2
set_option maxRecDepth 100000 in
theorem z_areSame_81 {pm ps pr pp : Nat → Int32} {pt : Nat → Int64} {a b : Nat} (ha : a ≤ 400) (hb : b ≤ 400) (k77 : Int32) : ∀ n q (v : Bool), q + n = 64 →
    f_Mo_areSame_81 pm ps pr pp pt (nI a) (nI b) k77 (n + 1) (if v then 1 else 0) (nI q) = if v && z_alF (fun r => decide (pm (64 * a + r) = pm (64 * b + r))) q n then 1 else 0 := by
  have i64 : ∀ a b : Nat, a ≤ 400 → b < 64 → ((64 : Int32) * nI a + nI b).toNatClampNeg = 64 * a + b := by
    intro a b ha hb
    rw [show (64 : Int32) = nI 64 from rfl, z_nI_mul, z_nI_add, z_nI_clamp (by omega)]
  intro n
  induction n with
  | zero =>
    intro q v h
    rw [f_Mo_areSame_81]; dsimp only
    rw [if_pos (by rw [show q = 64 by omega]; decide), z_alF]
    cases v <;> rfl
  | succ n ih =>
    intro q v h
    have hq : q < 64 := by omega
    rw [f_Mo_areSame_81]; dsimp only
    rw [if_neg (z_nI_lt64 q hq)]
    cases v
    · rw [if_pos (by decide : (if false = true then (1 : Int32) else 0) = 0)]; simp
    · rw [if_neg (by decide : ¬ (if true = true then (1 : Int32) else 0) = 0), i64 a q ha hq, i64 b q hb hq, z_nI_add1 q hq, z_alF]
      by_cases e : pm (64 * a + q) = pm (64 * b + q)
      · rw [if_pos e]
        have := ih (q + 1) true (by omega)
        rw [if_pos rfl] at this
        rw [this]; simp [e]
      · rw [if_neg e]
        have := ih (q + 1) false (by omega)
        simp only [Bool.false_eq_true, if_false, Bool.false_and] at this
        rw [this]; simp [e]
set_option maxRecDepth 100000 in
theorem z_areSame_eq {pm ps pr pp z_pc pn : Nat → Int32} {pt : Nat → Int64} {a b : Nat} {P P' : z_Pos} (V : z_Val P) (V' : z_Val P') (ha : a ≤ 400) (hb : b ≤ 400) (A : z_Past pm ps pr pp z_pc pn pt a P) (B : z_Past pm ps pr pp z_pc pn pt b P') :
    f_Mo_areSame pm ps pr pp pt (nI a) (nI b) = if z_sameP P P' then 1 else 0 := by
  have m1 : f_Mo_areSame_72 pm ps pr pp pt (nI a) (nI b) = if z_menEq P P' then 1 else 0 := by
    rw [f_Mo_areSame_72, f_Mo_areSame_77]
    have := z_areSame_81 (pm := pm) (ps := ps) (pr := pr) (pp := pp) (pt := pt) ha hb 1 64 0 true rfl
    rw [if_pos rfl, show nI 0 = 0 from rfl] at this
    rw [this]
    have iff : (true && z_alF (fun r => decide (pm (64 * a + r) = pm (64 * b + r))) 0 64) = true ↔ z_menEq P P' = true := by
      rw [z_menEq_iff, Bool.true_and, z_alF_iff]
      exact ⟨fun h q hq => by have := h q (by omega) (by omega); rw [decide_eq_true_eq, A.m q hq, B.m q hq] at this; exact this, fun h q _ hq => by rw [decide_eq_true_eq, A.m q (by omega), B.m q (by omega)]; exact h q (by omega)⟩
    by_cases c : z_menEq P P' = true
    · rw [if_pos (iff.mpr c), if_pos c]
    · rw [if_neg (fun h => c (iff.mp h)), if_neg c]
  have m0 : f_Mo_areSame_76 pm ps pr pp pt (nI a) (nI b) = 0 := by
    rw [f_Mo_areSame_76, f_Mo_areSame_77]
    have := z_areSame_81 (pm := pm) (ps := ps) (pr := pr) (pp := pp) (pt := pt) ha hb 0 64 0 false rfl
    rw [show nI 0 = 0 from rfl] at this
    simpa using this
  have h1 := V.hs; have h2 := V.hr; have h1' := V'.hs; have h2' := V'.hr
  rw [f_Mo_areSame, m1, m0, z_nI_clamp (by omega), z_nI_clamp (by omega), A.s, B.s, A.r, B.r, A.p, B.p]
  have es : nI P.side = nI P'.side ↔ P.side = P'.side := z_nI_inj (by omega) (by omega)
  have er : nI P.rights = nI P'.rights ↔ P.rights = P'.rights := z_nI_inj (by omega) (by omega)
  have ep : z_pI P.passed = z_pI P'.passed ↔ P.passed = P'.passed := by
    have := V.hp; have := V'.hp
    constructor
    · intro h
      unfold z_pI at h
      split at h <;> split at h
      · exact (z_nI_inj (by omega) (by omega)).mp h
      · exact absurd h (z_nI_m1 _ (by omega))
      · exact absurd h.symm (z_nI_m1 _ (by omega))
      · omega
    · intro h; rw [h]
  unfold z_sameP
  by_cases c1 : P.side = P'.side
  · rw [if_pos (es.mpr c1)]
    by_cases c2 : P.rights = P'.rights
    · rw [if_pos (er.mpr c2)]
      cases c3 : z_menEq P P'
      · simp
      · have st := z_same_takes V V' A.t B.t c3 c1
        simp only [c1, c2, decide_true, Bool.true_and, Bool.and_true, if_true]
        by_cases c4 : pt a = pt b
        · rw [if_pos c4]
          by_cases c5 : pt a = 0
          · rw [if_pos c5, if_pos (by simp; exact st.mp ⟨c4, .inl c5⟩)]
          · rw [if_neg c5]
            by_cases c6 : P.passed = P'.passed
            · rw [if_pos (ep.mpr c6), if_pos (by simp; exact st.mp ⟨c4, .inr c6⟩)]
            · rw [if_neg (fun h => c6 (ep.mp h)), if_neg]
              simp; intro h
              rcases (st.mpr h).2 with g | g
              · exact c5 g
              · exact c6 g
        · rw [if_neg c4, if_neg]
          simp; intro h; exact c4 (st.mpr h).1
    · rw [if_neg (fun h => c2 (er.mp h))]; simp [c2]
  · rw [if_neg (fun h => c1 (es.mp h))]; simp [c1]
set_option maxRecDepth 100000 in
theorem z_occ_4 {pm ps pr pp : Nat → Int32} {pt : Nat → Int64} {c : Nat} (hc : c ≤ 400) {p : Nat → Bool} (hp : ∀ i, i ≤ c → f_Mo_areSame pm ps pr pp pt (nI i) (nI c) = if p i then 1 else 0) :
    ∀ n i t, i + n = c + 1 → t ≤ i → f_Mo_occurrences_4 (nI c) pm ps pr pp pt (n + 1) (nI t) (nI i) = nI (t + z_cF p i n) := by
  intro n
  induction n with
  | zero =>
    intro i t h ht
    rw [f_Mo_occurrences_4]; dsimp only
    rw [if_pos (by rw [z_nI_lt (by omega) (by omega)]; omega)]; rfl
  | succ n ih =>
    intro i t h ht
    rw [f_Mo_occurrences_4]; dsimp only
    rw [if_neg (by rw [z_nI_lt (by omega) (by omega)]; omega), hp i (by omega), show nI i + 1 = nI (i + 1) from z_nI_add i 1, show nI t + 1 = nI (t + 1) from z_nI_add t 1, z_cF]
    cases p i
    · simp only [Bool.false_eq_true, if_false, if_true, Nat.zero_add]
      exact ih (i + 1) t (by omega) (by omega)
    · simp only [if_true]
      rw [if_neg (by decide), ih (i + 1) (t + 1) (by omega) (by omega)]; congr 1; omega
set_option maxRecDepth 100000 in
theorem z_occ_eq {pm ps pr pp : Nat → Int32} {pt : Nat → Int64} {c : Nat} (hc : c ≤ 400) {p : Nat → Bool} (hp : ∀ i, i ≤ c → f_Mo_areSame pm ps pr pp pt (nI i) (nI c) = if p i then 1 else 0) :
    f_Mo_occurrences (nI c) pm ps pr pp pt = nI (z_cF p 0 (c + 1)) := by
  rw [f_Mo_occurrences]
  have : ((nI c).toInt - 0).toNat = c := by rw [z_nI_toInt (by omega)]; omega
  rw [this]
  have := z_occ_4 hc hp (c + 1) 0 0 (by omega) (by omega)
  rw [Nat.zero_add] at this; exact this

def z_fre (men : Nat → Int32) (q : Nat) : Bool := decide (men q = 0)
def z_atk (men : Nat → Int32) (s t : Nat) : Bool := (List.range 64).any (fun q => z_isOf (men q) (nI s) && z_hits (men q) (z_fre men) q t)
set_option maxRecDepth 100000 in
theorem z_atk_iff {men : Nat → Int32} {s t : Nat} : z_atk men s t = true ↔ ∃ q, q < 64 ∧ z_isOf (men q) (nI s) = true ∧ z_hits (men q) (z_fre men) q t = true := by
  rw [z_atk, List.any_eq_true]
  constructor
  · rintro ⟨q, h1, h2⟩; rw [Bool.and_eq_true] at h2; exact ⟨q, List.mem_range.mp h1, h2⟩
  · rintro ⟨q, h1, h2⟩; exact ⟨q, List.mem_range.mpr h1, by rw [Bool.and_eq_true]; exact h2⟩
set_option maxRecDepth 100000 in
theorem z_atk_ref {men : Nat → Int32} {s t : Nat} (ht : t < 64) : f_Mo_attackersOf men (nI t) (nI s) = 0 ↔ z_atk men s t = false := by
  rw [z_eq0_iff, ← Bool.not_eq_true, z_atk_iff]
  constructor
  · rintro h ⟨q, hq, h1, h2⟩
    have := h q hq
    rw [z_attackersOf_ref men ht (nI s) hq, h1] at this
    rw [show (fun t => decide (men t = 0)) = z_fre men from rfl, h2] at this
    cases this
  · intro h q hq
    rw [z_attackersOf_ref men ht (nI s) hq]
    cases h1 : z_isOf (men q) (nI s)
    · rfl
    · cases h2 : z_hits (men q) (fun t => decide (men t = 0)) q t
      · rfl
      · exact absurd ⟨q, hq, h1, h2⟩ h
set_option maxRecDepth 100000 in
theorem z_atk_cls {men : Nat → Int32} {sets : Nat → Int64} (B : z_Bd men sets) {s t : Nat} (hs : s < 2) (ht : t < 64) : f_Bo_attackersOf sets (z_bt t) (nI s) (f_Bo_empty sets) = 0 ↔ z_atk men s t = false := by
  have he : ∀ q, q < 64 → z_tb (f_Bo_empty sets) q = z_fre men q := fun q hq => B.2 0 (by decide) q hq
  rw [z_eq0_iff, ← Bool.not_eq_true, z_atk_iff]
  have hc : ∀ q, q < 64 → z_hits (men q) (z_tb (f_Bo_empty sets)) q t = z_hits (men q) (z_fre men) q t := by
    intro q hq
    have : z_tb (f_Bo_empty sets) = fun q => if q < 64 then z_fre men q else false := by
      funext r; split
      · rename_i h; exact he r h
      · rename_i h; exact z_tb_ge _ (by omega)
    have rc : ∀ (e e' : Nat → Bool), (∀ q, q < 64 → e q = e' q) → ∀ d n q s, z_ray e d n q s = z_ray e' d n q s := by
      intro e e' h d n
      induction n with
      | zero => intro q s; rfl
      | succ n ih =>
        intro q s
        rw [z_ray, z_ray, ih]
        by_cases c : z_nx d q < 64
        · rw [h _ c]
        · simp [c]
    unfold z_hits z_lnR z_lnB z_ry
    simp only [rc (z_tb (f_Bo_empty sets)) (z_fre men) he]
  constructor
  · rintro h ⟨q, hq, h1, h2⟩
    have := h q hq
    rw [z_attackersOf_cls B ht hs _ hq, h1, hc q hq, h2] at this
    cases this
  · intro h q hq
    rw [z_attackersOf_cls B ht hs _ hq, hc q hq]
    cases h1 : z_isOf (men q) (nI s)
    · rfl
    · cases h2 : z_hits (men q) (z_fre men) q t
      · rfl
      · exact absurd ⟨q, hq, h1, h2⟩ h
set_option maxRecDepth 100000 in
theorem z_ray_congr {e e' : Nat → Bool} (h : ∀ q, q < 64 → e q = e' q) (d : Nat) : ∀ n q s, z_ray e d n q s = z_ray e' d n q s := by
  intro n
  induction n with
  | zero => intro q s; rfl
  | succ n ih =>
    intro q s
    rw [z_ray, z_ray, ih]
    by_cases c : z_nx d q < 64
    · rw [h _ c]
    · simp [c]
set_option maxRecDepth 100000 in
theorem z_hits_congr {e e' : Nat → Bool} (h : ∀ q, q < 64 → e q = e' q) (m : Int32) (s t : Nat) : z_hits m e s t = z_hits m e' s t := by
  unfold z_hits z_lnR z_lnB z_ry
  simp only [z_ray_congr h]
def z_isK (men : Nat → Int32) (s k : Nat) : Prop := k < 64 ∧ ∀ q, q < 64 → (men q = nI (6 + 8 * s) ↔ q = k)
set_option maxRecDepth 100000 in
theorem z_kingOf_4 (men : Nat → Int32) {s k : Nat} (hs : s < 2) (hk : z_isK men s k) : ∀ n q at0, q + n = 64 → (k < q → at0 = nI k) → f_Mo_kingOf_4 men (nI s) (n + 1) at0 (nI q) = nI k := by
  have e6 : (6 : Int32) + 8 * nI s = nI (6 + 8 * s) := by rw [show (8 : Int32) = nI 8 from rfl, z_nI_mul, show (6 : Int32) = nI 6 from rfl, z_nI_add]
  intro n
  induction n with
  | zero =>
    intro q at0 h h1
    rw [f_Mo_kingOf_4]; dsimp only
    rw [if_pos (by rw [show q = 64 by omega]; decide), h1 (by have := hk.1; omega)]
  | succ n ih =>
    intro q at0 h h1
    have hq : q < 64 := by omega
    rw [f_Mo_kingOf_4]; dsimp only
    rw [if_neg (z_nI_lt64 q hq), z_nI_clamp (by omega), e6, z_nI_add1 q hq]
    by_cases c : men q = nI (6 + 8 * s)
    · have := (hk.2 q hq).mp c
      rw [if_pos c]; exact ih (q + 1) _ (by omega) (fun _ => by rw [this])
    · rw [if_neg c]; exact ih (q + 1) _ (by omega) (fun h2 => h1 (by
        have : q ≠ k := fun h => c ((hk.2 q hq).mpr h)
        omega))
set_option maxRecDepth 100000 in
theorem z_kingOf_eq {men : Nat → Int32} {s k : Nat} (hs : s < 2) (hk : z_isK men s k) : f_Mo_kingOf men (nI s) = nI k :=
  z_kingOf_4 men hs hk 64 0 (-1) rfl (fun h => by omega)
set_option maxRecDepth 100000 in
theorem z_inCheck_eq {men : Nat → Int32} {s k : Nat} (hs : s < 2) (hk : z_isK men s k) : f_Mo_inCheck men (nI s) = if z_atk men (1 - s) k then 1 else 0 := by
  rw [f_Mo_inCheck, z_kingOf_eq hs hk, z_side_flip hs]
  cases h : z_atk men (1 - s) k
  · rw [if_pos ((z_atk_ref hk.1).mpr h)]; rfl
  · rw [if_neg (fun g => by rw [(z_atk_ref hk.1).mp g] at h; cases h)]; rfl
set_option maxRecDepth 100000 in
theorem z_setK {men : Nat → Int32} {sets : Nat → Int64} (B : z_Bd men sets) {s k : Nat} (hs : s < 2) (hk : z_isK men s k) : f_Bo_setOf sets 6 (nI s) = z_bt k := by
  apply z_tb_ext
  intro q hq
  rw [show f_Bo_setOf sets 6 (nI s) = f_Bo_setOf sets (nI 6) (nI s) from rfl, z_setOf_eq B (by decide) hs hq, z_tb_bt hk.1 hq]
  exact decide_eq_decide.mpr (hk.2 q hq)
set_option maxRecDepth 100000 in
theorem z_isInCheck_eq {men : Nat → Int32} {sets : Nat → Int64} (B : z_Bd men sets) {s k : Nat} (hs : s < 2) (hk : z_isK men s k) : f_Bo_isInCheck sets (nI s) = if z_atk men (1 - s) k then 1 else 0 := by
  rw [f_Bo_isInCheck, z_setK B hs hk, z_side_flip hs]
  cases h : z_atk men (1 - s) k
  · rw [if_pos ((z_atk_cls B (by omega) hk.1).mpr h)]; rfl
  · rw [if_neg (fun g => by rw [(z_atk_cls B (by omega) hk.1).mp g] at h; cases h)]; rfl
set_option maxRecDepth 100000 in
theorem z_tb_shr0 (x : Int64) {q : Nat} (hq : q < 64) : (shr64 x (nI q)) &&& 1 = 1 ↔ z_tb x q = true := by
  have e : (shr64 x (nI q)).toBitVec = x.toBitVec.sshiftRight q := by
    rw [shr64, Int64.toBitVec_shiftRight, z_k63 q hq, BitVec.sshiftRight_eq', BitVec.toNat_ofNat, Nat.mod_eq_of_lt (by omega)]
  have t0 : z_tb (shr64 x (nI q)) 0 = z_tb x q := by
    rw [z_tb, e, BitVec.getLsbD_sshiftRight]; simp [hq, z_tb]
  have : ((shr64 x (nI q)) &&& 1) = if z_tb x q then 1 else 0 := by
    apply z_tb_ext
    intro r hr
    rw [z_tb_and, z_tb_one]
    by_cases c : r = 0
    · subst c; rw [t0]; cases z_tb x q <;> simp [z_tb_zero, z_tb_one]
    · cases z_tb x q <;> simp [c, z_tb_zero, z_tb_one]
  rw [this]
  cases z_tb x q <;> simp
def z_upd8 (s : Nat) : Nat := if s = 0 then 2 else 3
def z_pawnG (P : z_Pos) (q t : Nat) : Bool :=
  (decide (z_nx (z_upd8 P.side) q < 64) && z_fre P.men (z_nx (z_upd8 P.side) q) && (decide (t = z_nx (z_upd8 P.side) q) ||
    (decide (q / 8 = if P.side = 0 then 1 else 6) && decide (t = z_nx (z_upd8 P.side) (z_nx (z_upd8 P.side) q)) && z_fre P.men t))) ||
  (z_pnHit (decide (P.side = 0)) q t && (z_isOf (P.men t) (nI (1 - P.side)) || decide (t = P.passed)))
set_option maxRecDepth 100000 in
theorem z_pawn103 (men : Nat → Int32) {side passed q : Nat} (hs : side < 2) (hps : passed ≤ 64) (hq : q < 64) (k0 : Int32) (v3 : Int64) : ∀ n r acc, r + n = 64 → ∀ t, t < 64 →
    z_tb (f_Mo_pawnGoals_103 men (nI side) (z_pI passed) (nI q) k0 v3 (n + 1) acc (nI r)) t = (z_tb acc t || (decide (r ≤ t) && z_tb (f_Mo_attacked men (nI q)) t && (z_isOf (men t) (nI (1 - side)) || decide (t = passed)))) := by
  intro n
  induction n with
  | zero =>
    intro r acc h t ht
    rw [f_Mo_pawnGoals_103]; dsimp only
    rw [if_pos (by rw [show r = 64 by omega]; decide)]
    have : ¬ r ≤ t := by omega
    simp [this]
  | succ n ih =>
    intro r acc h t ht
    have hr : r < 64 := by omega
    rw [f_Mo_pawnGoals_103]; dsimp only
    rw [if_neg (z_nI_lt64 r hr), f_Mo_pawnGoals_146, z_nI_add1 r hr, z_bit_eq hr, z_side_flip hs, z_isOf_ref men hr]
    have hle : t ≠ r → ((r ≤ t) ↔ (r + 1 ≤ t)) := by omega
    by_cases c1 : z_tb (f_Mo_attacked men (nI q)) r = true
    · rw [if_pos ((z_tb_shr0 _ hr).mpr c1)]
      cases c2 : z_isOf (men r) (nI (1 - side))
      · simp only [Bool.false_eq_true, if_false, if_pos]
        by_cases c3 : nI r = z_pI passed
        · rw [if_pos c3, ih _ _ (by omega) t ht, z_tb_or, z_tb_bt hr ht]
          have c3' := (z_pI_eq hr hps).mp c3
          by_cases c4 : t = r
          · subst c4; simp [c1, ← c3']
          · simp [c4, hle c4]
        · rw [if_neg c3, ih _ _ (by omega) t ht]
          have c3' : r ≠ passed := fun h => c3 ((z_pI_eq hr hps).mpr h)
          by_cases c4 : t = r
          · subst c4; simp [c2, c3']
          · simp [hle c4]
      · simp only [if_true]
        rw [if_neg (by decide), ih _ _ (by omega) t ht, z_tb_or, z_tb_bt hr ht]
        by_cases c4 : t = r
        · subst c4; simp [c1, c2]
        · simp [c4, hle c4]
    · rw [if_neg (fun h => c1 ((z_tb_shr0 _ hr).mp h)), ih _ _ (by omega) t ht]
      by_cases c4 : t = r
      · subst c4; simp [c1]
      · simp [hle c4]
set_option maxRecDepth 100000 in
theorem z_step_up0 : ∀ s, s < 2 → ∀ q, q < 64 → f_Mo_step (nI q) 0 (if s = 0 then 1 else -1) = if z_nx (z_upd8 s) q < 64 then nI (z_nx (z_upd8 s) q) else -1 := by decide +kernel
set_option maxRecDepth 100000 in
theorem z_two_ok : ∀ s, s < 2 → ∀ q, q < 64 → (q / 8 = if s = 0 then 1 else 6) → z_nx (z_upd8 s) (z_nx (z_upd8 s) q) < 64 := by decide +kernel
set_option maxRecDepth 100000 in
theorem z_pawnGoals_eq (P : z_Pos) (hs : P.side < 2) (hps : P.passed ≤ 64) {q t : Nat} (hq : q < 64) (ht : t < 64) (hm : P.men q = nI (1 + 8 * P.side)) :
    z_tb (f_Mo_pawnGoals P.men (nI P.side) (z_pI P.passed) (nI q)) t = z_pawnG P q t := by
  have key : ∀ k0 : Int32, k0 = (if P.side = 0 then 1 else -1) → z_tb (f_Mo_pawnGoals_12 P.men (nI P.side) (z_pI P.passed) (nI q) k0) t = z_pawnG P q t := by
    intro k0 hk
    have s1 := z_step_up0 P.side hs q hq
    rw [← hk] at s1
    have hat : z_tb (f_Mo_attacked P.men (nI q)) t = z_pnHit (decide (P.side = 0)) q t := by
      rw [z_attacked_hits _ hq ht, hm]
      have : P.side = 0 ∨ P.side = 1 := by omega
      rcases this with h | h <;> rw [h] <;> rfl
    have f93 : ∀ v, z_tb (f_Mo_pawnGoals_93 P.men (nI P.side) (z_pI P.passed) (nI q) k0 v) t = (z_tb v t || (z_pnHit (decide (P.side = 0)) q t && (z_isOf (P.men t) (nI (1 - P.side)) || decide (t = P.passed)))) := by
      intro v
      have := z_pawn103 P.men hs hps hq k0 v 64 0 v rfl t ht
      rw [hat, show nI 0 = 0 from rfl] at this
      rw [f_Mo_pawnGoals_93]
      simpa using this
    have f72 : ∀ k72 : Int32, k72 = nI (if P.side = 0 then 1 else 6) → z_nx (z_upd8 P.side) q < 64 → z_fre P.men (z_nx (z_upd8 P.side) q) = true → z_tb (f_Mo_pawnGoals_72 P.men (nI P.side) (z_pI P.passed) (nI q) k0 k72) t = z_pawnG P q t := by
      intro k72 hk72 ho hfr
      have e8 : nI q / 8 = nI (q / 8) := z_nI_div (b := 8) (by omega) (by decide) (by decide)
      have s2 := z_step_up0 P.side hs _ ho
      rw [← hk] at s2
      rw [f_Mo_pawnGoals_72, e8, hk72, s1, if_pos ho, s2]
      have hz : (0 : Int64) ||| f_Mo_bit (nI (z_nx (z_upd8 P.side) q)) = z_bt (z_nx (z_upd8 P.side) q) := by
        rw [z_bit_eq ho]; apply z_tb_ext; intro r _; rw [z_tb_or, z_tb_zero]; simp
      rw [hz]
      unfold z_pawnG
      by_cases c1 : q / 8 = if P.side = 0 then 1 else 6
      · rw [if_pos (by rw [c1])]
        have h2 := z_two_ok P.side hs q hq c1
        rw [if_pos h2, z_nI_clamp (by omega), z_bit_eq h2]
        by_cases c2 : P.men (z_nx (z_upd8 P.side) (z_nx (z_upd8 P.side) q)) = 0
        · rw [if_pos c2, f93, z_tb_or, z_tb_bt ho ht, z_tb_bt h2 ht]
          simp only [ho, hfr, c1, decide_true, Bool.true_and]
          congr 2
          by_cases c3 : t = z_nx (z_upd8 P.side) (z_nx (z_upd8 P.side) q)
          · subst c3; simp [z_fre, c2]
          · simp [c3]
        · rw [if_neg c2, f93, z_tb_bt ho ht]
          simp only [ho, hfr, c1, decide_true, Bool.true_and]
          congr 1
          by_cases c3 : t = z_nx (z_upd8 P.side) (z_nx (z_upd8 P.side) q)
          · subst c3; simp [z_fre, c2]
          · simp [c3]
      · rw [if_neg (fun h => c1 ((z_nI_inj (by omega) (by split <;> omega)).mp h)), f93, z_tb_bt ho ht]
        simp [ho, hfr, c1]
    rw [f_Mo_pawnGoals_12, s1]
    by_cases ho : z_nx (z_upd8 P.side) q < 64
    · rw [if_pos ho, if_neg (z_nI_ge _ ho), z_nI_clamp (by omega)]
      by_cases c : P.men (z_nx (z_upd8 P.side) q) = 0
      · rw [if_pos c]
        have hfr : z_fre P.men (z_nx (z_upd8 P.side) q) = true := by simp [z_fre, c]
        have : P.side = 0 ∨ P.side = 1 := by omega
        rcases this with h | h
        · rw [if_pos (by rw [h]; decide)]; exact f72 1 (by rw [h]; rfl) ho hfr
        · rw [if_neg (by rw [h]; decide)]; exact f72 6 (by rw [h]; rfl) ho hfr
      · rw [if_neg c, f93, z_tb_zero]
        simp [z_pawnG, z_fre, c]
    · rw [if_neg ho, if_pos (by decide), f93, z_tb_zero]
      simp [z_pawnG, ho]
  rw [f_Mo_pawnGoals]
  have : P.side = 0 ∨ P.side = 1 := by omega
  rcases this with h | h
  · rw [if_pos (by rw [h]; decide)]; exact key 1 (by rw [h]; rfl)
  · rw [if_neg (by rw [h]; decide)]; exact key (-1) (by rw [h]; rfl)
def z_allE (men : Nat → Int32) : Nat → Nat → Bool
  | _, 0 => true
  | q, n + 1 => z_fre men q && z_allE men (q + 1) n
set_option maxRecDepth 100000 in
theorem z_between_16 (men : Nat → Int32) {a b hi : Nat} (ha : a < 64) (hb : b < 64) (hh : hi = if b ≤ a then a else b) : ∀ n q (v : Bool), q + n = hi →
    ∀ m, n ≤ m → f_Mo_isEmptyBetween_16 men (nI a) (nI b) (m + 1) (if v then 1 else 0) (nI q) = if v && z_allE men q n then 1 else 0 := by
  have e : ∀ m (v3 v4 : Int32), f_Mo_isEmptyBetween_16 men (nI a) (nI b) (m + 1) v3 v4 = if nI hi ≤ v4 then v3 else (if v3 = 0 then (f_Mo_isEmptyBetween_16 men (nI a) (nI b) m) 0 (v4 + 1) else (if (men v4.toNatClampNeg) = 0 then (f_Mo_isEmptyBetween_16 men (nI a) (nI b) m) 1 (v4 + 1) else (f_Mo_isEmptyBetween_16 men (nI a) (nI b) m) 0 (v4 + 1))) := by
    intro m v3 v4
    rw [f_Mo_isEmptyBetween_16]; dsimp only
    by_cases c : b ≤ a
    · rw [if_pos ((z_nI_le (by omega) (by omega)).mpr c), hh, if_pos c]
    · rw [if_neg (fun h => c ((z_nI_le (by omega) (by omega)).mp h)), hh, if_neg c]
  intro n
  induction n with
  | zero =>
    intro q v h m _
    rw [e, if_pos (by rw [show q = hi by omega]; exact Int32.le_refl _), z_allE]; simp
  | succ n ih =>
    intro q v h m hm
    have hq : q < 64 := by rw [hh] at h; split at h <;> omega
    have hhi : hi < 64 := by rw [hh]; split <;> omega
    rw [e, if_neg (by rw [z_nI_le (by omega) (by omega)]; omega), z_nI_clamp (by omega), z_nI_add1 q hq, z_allE]
    obtain ⟨m, rfl⟩ : ∃ k, m = k + 1 := ⟨m - 1, by omega⟩
    cases v
    · rw [if_pos (by decide : (if false = true then (1 : Int32) else 0) = 0)]
      have := ih (q + 1) false (by omega) m (by omega)
      simpa using this
    · rw [if_neg (by decide)]
      by_cases c : men q = 0
      · rw [if_pos c]
        have := ih (q + 1) true (by omega) m (by omega)
        simp only [z_fre, c, decide_true, Bool.true_and]
        simpa using this
      · rw [if_neg c]
        have := ih (q + 1) false (by omega) m (by omega)
        simp only [z_fre, c, decide_false, Bool.false_and, Bool.and_false]
        simpa using this
set_option maxRecDepth 100000 in
theorem z_between_eq (men : Nat → Int32) {a b : Nat} (ha : a < 64) (hb : b < 64) (hab : a ≠ b) :
    f_Mo_isEmptyBetween men (nI a) (nI b) = if z_allE men ((if b ≤ a then b else a) + 1) ((if b ≤ a then a else b) - ((if b ≤ a then b else a) + 1)) then 1 else 0 := by
  rw [f_Mo_isEmptyBetween]
  by_cases c : b ≤ a
  · rw [if_pos ((z_nI_le (by omega) (by omega)).mpr c)]
    simp only [if_pos c]
    rw [z_nI_add1 b hb]
    have := z_between_16 men ha hb (hi := a) (by rw [if_pos c]) (a - (b + 1)) (b + 1) true (by omega) 64 (by omega)
    simpa using this
  · rw [if_neg (fun h => c ((z_nI_le (by omega) (by omega)).mp h))]
    simp only [if_neg c]
    rw [z_nI_add1 a ha]
    have := z_between_16 men ha hb (hi := b) (by rw [if_neg c]) (b - (a + 1)) (a + 1) true (by omega) 64 (by omega)
    simpa using this
def z_home (s : Nat) : Nat := 56 * s + 4
def z_mayC (P : z_Pos) (sh : Bool) : Bool :=
  P.rights.testBit (2 * P.side + (if sh then 0 else 1)) &&
  (if sh then z_fre P.men (z_home P.side + 1) && z_fre P.men (z_home P.side + 2) else z_fre P.men (z_home P.side - 3) && z_fre P.men (z_home P.side - 2) && z_fre P.men (z_home P.side - 1)) &&
  !z_atk P.men (1 - P.side) (z_home P.side) && !z_atk P.men (1 - P.side) (if sh then z_home P.side + 1 else z_home P.side - 1)
abbrev z_Val (P : z_Pos) : Prop :=
  P.side < 2 ∧ P.rights < 16 ∧ P.passed ≤ 64 ∧ (∀ q, q < 64 → z_vm (P.men q) = true) ∧ (∀ s, s < 2 → ∃ k, z_isK P.men s k) ∧
  (∀ s, s < 2 → ∀ w, w < 2 → P.rights.testBit (2 * s + w) = true → P.men (z_home s) = nI (6 + 8 * s) ∧ P.men (56 * s + (if w = 0 then 7 else 0)) = nI (4 + 8 * s)) ∧
  (P.passed < 64 → P.men P.passed = 0 ∧ P.passed / 8 = (if P.side = 0 then 5 else 2) ∧ P.men (if P.side = 0 then P.passed - 8 else P.passed + 8) = nI (1 + 8 * (1 - P.side)) ∧ P.men (if P.side = 0 then P.passed + 8 else P.passed - 8) = 0) ∧
  (∀ k, z_isK P.men (1 - P.side) k → z_atk P.men P.side k = false)
set_option maxRecDepth 100000 in
theorem z_Val.hs {P : z_Pos} (V : z_Val P) : P.side < 2 := V.1
set_option maxRecDepth 100000 in
theorem z_Val.hr {P : z_Pos} (V : z_Val P) : P.rights < 16 := V.2.1
set_option maxRecDepth 100000 in
theorem z_Val.hp {P : z_Pos} (V : z_Val P) : P.passed ≤ 64 := V.2.2.1
set_option maxRecDepth 100000 in
theorem z_Val.hv {P : z_Pos} (V : z_Val P) : ∀ q, q < 64 → z_vm (P.men q) = true := V.2.2.2.1
set_option maxRecDepth 100000 in
theorem z_Val.hk {P : z_Pos} (V : z_Val P) : ∀ s, s < 2 → ∃ k, z_isK P.men s k := V.2.2.2.2.1
set_option maxRecDepth 100000 in
theorem z_Val.rk {P : z_Pos} (V : z_Val P) : ∀ s, s < 2 → ∀ w, w < 2 → P.rights.testBit (2 * s + w) = true → P.men (z_home s) = nI (6 + 8 * s) ∧ P.men (56 * s + (if w = 0 then 7 else 0)) = nI (4 + 8 * s) := V.2.2.2.2.2.1
set_option maxRecDepth 100000 in
theorem z_Val.pp {P : z_Pos} (V : z_Val P) : P.passed < 64 → P.men P.passed = 0 ∧ P.passed / 8 = (if P.side = 0 then 5 else 2) ∧ P.men (if P.side = 0 then P.passed - 8 else P.passed + 8) = nI (1 + 8 * (1 - P.side)) ∧ P.men (if P.side = 0 then P.passed + 8 else P.passed - 8) = 0 := V.2.2.2.2.2.2.1
set_option maxRecDepth 100000 in
theorem z_Val.sf {P : z_Pos} (V : z_Val P) : ∀ k, z_isK P.men (1 - P.side) k → z_atk P.men P.side k = false := V.2.2.2.2.2.2.2
set_option maxRecDepth 100000 in
theorem z_right_bit : ∀ r, r < 16 → ∀ s, s < 2 → (nI r &&& ((1 : Int32) <<< ((2 * nI s) &&& 31)) = 0 ↔ r.testBit (2 * s) = false) ∧ (nI r &&& ((2 : Int32) <<< ((2 * nI s) &&& 31)) = 0 ↔ r.testBit (2 * s + 1) = false) := by decide +kernel
set_option maxRecDepth 100000 in
theorem z_home_eq {s : Nat} (hs : s < 2) : (56 : Int32) * nI s + 4 = nI (z_home s) := (by decide : ∀ s, s < 2 → (56 : Int32) * nI s + 4 = nI (z_home s)) s hs
set_option maxRecDepth 100000 in
theorem z_isK_home {P : z_Pos} (V : z_Val P) {s w : Nat} (hs : s < 2) (hw : w < 2) (h : P.rights.testBit (2 * s + w) = true) : z_isK P.men s (z_home s) := by
  obtain ⟨k, hk⟩ := V.hk s hs
  have h1 := (V.rk s hs w hw h).1
  have hh : z_home s < 64 := by unfold z_home; omega
  have := (hk.2 _ hh).mp h1
  rw [this]; exact hk
set_option maxRecDepth 100000 in
theorem z_mayCastle_eq {P : z_Pos} (V : z_Val P) (sh : Bool) : f_Mo_mayCastle P.men (nI P.side) (nI P.rights) (if sh then 1 else 0) = if z_mayC P sh then 1 else 0 := by
  have hs := V.hs
  have hh : z_home P.side < 61 ∧ 4 ≤ z_home P.side := by unfold z_home; omega
  have hsf := z_side_flip hs
  cases sh
  · show f_Mo_mayCastle P.men (nI P.side) (nI P.rights) 0 = if z_mayC P false then 1 else 0
    have z0 : (0 : Int32) = 0 := rfl
    have z4 : nI (z_home P.side) - 4 = nI (z_home P.side - 4) := z_nI_sub (b := 4) (by omega) (by omega)
    have z1 : nI (z_home P.side) - 1 = nI (z_home P.side - 1) := z_nI_sub (b := 1) (by omega) (by omega)
    rw [f_Mo_mayCastle, if_pos z0, f_Mo_mayCastle_19, if_pos z0, f_Mo_mayCastle_40, if_pos z0, z_home_eq hs, z4, z1]
    rw [hsf, z_between_eq _ (by omega) (by omega) (by omega), if_pos (show z_home P.side - 4 ≤ z_home P.side by omega), if_pos (show z_home P.side - 4 ≤ z_home P.side by omega), show z_home P.side - (z_home P.side - 4 + 1) = 3 by omega]
    cases hb : P.rights.testBit (2 * P.side + 1)
    · rw [if_pos ((z_right_bit _ V.hr _ hs).2.mpr hb)]; simp [z_mayC, hb]
    · rw [if_neg (fun h => by rw [(z_right_bit _ V.hr _ hs).2.mp h] at hb; cases hb)]
      have hK := z_isK_home V hs (w := 1) (by decide) hb
      rw [z_inCheck_eq hs hK]
      have a3 : z_allE P.men (z_home P.side - 4 + 1) 3 = (z_fre P.men (z_home P.side - 3) && z_fre P.men (z_home P.side - 2) && z_fre P.men (z_home P.side - 1)) := by
        simp only [z_allE]
        rw [show z_home P.side - 4 + 1 = z_home P.side - 3 by omega, show z_home P.side - 3 + 1 = z_home P.side - 2 by omega, show z_home P.side - 2 + 1 = z_home P.side - 1 by omega]; simp [Bool.and_assoc]
      rw [a3]
      unfold z_mayC
      simp only [hb, Bool.true_and, Bool.false_eq_true, if_false]
      have at1 := z_atk_ref (men := P.men) (s := 1 - P.side) (t := z_home P.side - 1) (by omega)
      cases h1 : (z_fre P.men (z_home P.side - 3) && z_fre P.men (z_home P.side - 2) && z_fre P.men (z_home P.side - 1))
      · simp
      · cases h2 : z_atk P.men (1 - P.side) (z_home P.side)
        · cases h3 : z_atk P.men (1 - P.side) (z_home P.side - 1)
          · simp [at1.mpr h3]
          · simp; intro h; rw [at1.mp h] at h3; cases h3
        · simp
  · show f_Mo_mayCastle P.men (nI P.side) (nI P.rights) 1 = if z_mayC P true then 1 else 0
    have z0 : ¬ (1 : Int32) = 0 := by decide
    have z4 : nI (z_home P.side) + 3 = nI (z_home P.side + 3) := z_nI_add _ 3
    have z1 : nI (z_home P.side) + 1 = nI (z_home P.side + 1) := z_nI_add _ 1
    rw [f_Mo_mayCastle, if_neg z0, f_Mo_mayCastle_19, if_neg z0, f_Mo_mayCastle_40, if_neg z0, z_home_eq hs, z4, z1]
    rw [hsf, z_between_eq _ (by omega) (by omega) (by omega), if_neg (show ¬ z_home P.side + 3 ≤ z_home P.side by omega), if_neg (show ¬ z_home P.side + 3 ≤ z_home P.side by omega), show z_home P.side + 3 - (z_home P.side + 1) = 2 by omega]
    cases hb : P.rights.testBit (2 * P.side)
    · rw [if_pos ((z_right_bit _ V.hr _ hs).1.mpr hb)]; simp [z_mayC, hb]
    · rw [if_neg (fun h => by rw [(z_right_bit _ V.hr _ hs).1.mp h] at hb; cases hb)]
      have hK := z_isK_home V hs (w := 0) (by decide) hb
      rw [z_inCheck_eq hs hK]
      have a3 : z_allE P.men (z_home P.side + 1) 2 = (z_fre P.men (z_home P.side + 1) && z_fre P.men (z_home P.side + 2)) := by
        simp only [z_allE]; simp
      rw [a3]
      unfold z_mayC
      simp only [Nat.add_zero, hb, Bool.true_and, if_true]
      have at1 := z_atk_ref (men := P.men) (s := 1 - P.side) (t := z_home P.side + 1) (by omega)
      cases h1 : (z_fre P.men (z_home P.side + 1) && z_fre P.men (z_home P.side + 2))
      · simp
      · cases h2 : z_atk P.men (1 - P.side) (z_home P.side)
        · cases h3 : z_atk P.men (1 - P.side) (z_home P.side + 1)
          · simp [at1.mpr h3]
          · simp; intro h; rw [at1.mp h] at h3; cases h3
        · simp
def z_castB (P : z_Pos) (q t : Nat) : Bool := decide (P.men q &&& 7 = 6) && decide (q = z_home P.side) && ((z_mayC P true && decide (t = q + 2)) || (z_mayC P false && decide (t + 2 = q)))
def z_goalsB (P : z_Pos) (q t : Nat) : Bool :=
  if P.men q &&& 7 = 1 then z_pawnG P q t else (z_hits (P.men q) (z_fre P.men) q t && !z_isOf (P.men t) (nI P.side)) || z_castB P q t
set_option maxRecDepth 100000 in
theorem z_goals_28 {P : z_Pos} (V : z_Val P) {q : Nat} (hq : q < 64) : ∀ n r acc, r + n = 64 → ∀ t, t < 64 →
    z_tb (f_Mo_goals_28 P.men (nI P.side) (nI P.rights) (z_pI P.passed) (nI q) (n + 1) acc (nI r)) t = ((z_tb acc t && !(decide (r ≤ t) && z_isOf (P.men t) (nI P.side))) || z_castB P q t) := by
  have hs := V.hs
  intro n
  induction n with
  | zero =>
    intro r acc h t ht
    rw [f_Mo_goals_28]; dsimp only
    rw [if_pos (by rw [show r = 64 by omega]; decide), z_nI_clamp (by omega), show f_Mo_kind (P.men q) = P.men q &&& 7 from rfl, z_home_eq hs]
    have hrt : ¬ r ≤ t := by omega
    have hh : z_home P.side < 61 ∧ 4 ≤ z_home P.side := by unfold z_home; omega
    simp only [hrt, decide_false, Bool.false_and, Bool.not_false, Bool.and_true]
    unfold z_castB
    by_cases c6 : P.men q &&& 7 = 6
    · rw [if_pos c6]
      by_cases ch : q = z_home P.side
      · have e2 : nI q + 2 = nI (q + 2) := by rw [show (2 : Int32) = nI 2 from rfl, z_nI_add]
        have e2' : nI q - 2 = nI (q - 2) := by rw [show (2 : Int32) = nI 2 from rfl, z_nI_sub (by omega) (by omega)]
        have m1 := z_mayCastle_eq V true
        have m0 := z_mayCastle_eq V false
        simp only [if_true] at m1
        simp only [Bool.false_eq_true, if_false] at m0
        rw [if_pos (by rw [ch]), m1, f_Mo_goals_112, f_Mo_goals_112, m0, e2, e2', z_bit_eq (by omega), z_bit_eq (by omega)]
        have t2 : decide (t + 2 = q) = decide (t = q - 2) := decide_eq_decide.mpr (by omega)
        rw [t2]
        subst ch
        simp only [c6, decide_true, Bool.true_and]
        cases z_mayC P true <;> cases z_mayC P false <;> simp [z_tb_or, z_tb_zero, z_tb_bt (show z_home P.side + 2 < 64 by omega) ht, z_tb_bt (show z_home P.side - 2 < 64 by omega) ht, Bool.or_assoc]
      · rw [if_neg (fun h => ch ((z_nI_inj (by omega) (by omega)).mp h))]; simp [ch]
    · rw [if_neg c6]; simp [c6]
  | succ n ih =>
    intro r acc h t ht
    have hr : r < 64 := by omega
    rw [f_Mo_goals_28]; dsimp only
    rw [if_neg (z_nI_lt64 r hr), z_isOf_ref _ hr, z_nI_add1 r hr, z_bit_eq hr]
    have hle : t ≠ r → ((r ≤ t) ↔ (r + 1 ≤ t)) := by omega
    cases c : z_isOf (P.men r) (nI P.side)
    · simp only [Bool.false_eq_true, if_false, if_true]
      rw [ih _ _ (by omega) t ht]
      by_cases c4 : t = r
      · subst c4; simp [c]
      · simp [hle c4]
    · simp only [if_true]
      rw [if_neg (by decide), ih _ _ (by omega) t ht, z_tb_and, z_tb_not _ ht, z_tb_bt hr ht]
      by_cases c4 : t = r
      · subst c4; simp [c]
      · simp [c4, hle c4]
set_option maxRecDepth 100000 in
theorem z_goals_eq {P : z_Pos} (V : z_Val P) {q t : Nat} (hq : q < 64) (ht : t < 64) (ho : z_isOf (P.men q) (nI P.side) = true) :
    z_tb (f_Mo_goals P.men (nI P.side) (nI P.rights) (z_pI P.passed) (nI q)) t = z_goalsB P q t := by
  rw [f_Mo_goals, z_nI_clamp (by omega), show f_Mo_kind (P.men q) = P.men q &&& 7 from rfl, z_goalsB]
  by_cases c : P.men q &&& 7 = 1
  · rw [if_pos c, if_pos c]
    apply z_pawnGoals_eq P V.hs V.hp hq ht
    have hs2 : P.side = 0 ∨ P.side = 1 := by have := V.hs; omega
    have hv := z_vm_cases (V.hv q hq)
    generalize P.men q = m at *
    rcases hs2 with h | h <;> rw [h] at ho ⊢ <;>
    rcases hv with rfl | rfl | rfl | rfl | rfl | rfl | rfl | rfl | rfl | rfl | rfl | rfl | rfl <;> revert c ho <;> decide
  · rw [if_neg c, if_neg c]
    have := z_goals_28 V hq 64 0 (f_Mo_attacked P.men (nI q)) rfl t ht
    rw [show nI 0 = 0 from rfl, z_attacked_hits _ hq ht] at this
    rw [this]; simp; rfl
set_option maxRecDepth 100000 in
theorem z_allOf_eq {men : Nat → Int32} {sets : Nat → Int64} (B : z_Bd men sets) {side : Nat} (hs : side < 2) {q : Nat} (hq : q < 64) :
    z_tb (f_Bo_allOf sets (nI side)) q = z_isOf (men q) (nI side) := by
  have hs2 : side = 0 ∨ side = 1 := by omega
  have hv := z_vm_cases (B.1 q hq)
  have b1 := B.2 1 (by decide) q hq; have b2 := B.2 2 (by decide) q hq; have b3 := B.2 3 (by decide) q hq
  have b4 := B.2 4 (by decide) q hq; have b5 := B.2 5 (by decide) q hq; have b6 := B.2 6 (by decide) q hq
  have b9 := B.2 9 (by decide) q hq; have b10 := B.2 10 (by decide) q hq; have b11 := B.2 11 (by decide) q hq
  have b12 := B.2 12 (by decide) q hq; have b13 := B.2 13 (by decide) q hq; have b14 := B.2 14 (by decide) q hq
  rcases hs2 with rfl | rfl
  · have e : f_Bo_allOf sets (nI 0) = 0 ||| sets 1 ||| sets 2 ||| sets 3 ||| sets 4 ||| sets 5 ||| sets 6 := rfl
    rw [e]; simp only [z_tb_or, z_tb_zero, b1, b2, b3, b4, b5, b6]
    generalize men q = m at *
    rcases hv with rfl | rfl | rfl | rfl | rfl | rfl | rfl | rfl | rfl | rfl | rfl | rfl | rfl <;> decide
  · have e : f_Bo_allOf sets (nI 1) = 0 ||| sets 9 ||| sets 10 ||| sets 11 ||| sets 12 ||| sets 13 ||| sets 14 := rfl
    rw [e]; simp only [z_tb_or, z_tb_zero, b9, b10, b11, b12, b13, b14]
    generalize men q = m at *
    rcases hv with rfl | rfl | rfl | rfl | rfl | rfl | rfl | rfl | rfl | rfl | rfl | rfl | rfl <;> decide
set_option maxRecDepth 100000 in
theorem z_kn_cls1 : ((List.range 64).all (fun q => (List.range 64).all (fun t => z_tb (f_Ra_byKnight (z_bt q)) t == z_knHit q t))) = true := by decide +kernel
set_option maxRecDepth 100000 in
theorem z_kg_cls1 : ((List.range 64).all (fun q => (List.range 64).all (fun t => z_tb (f_Ra_byKing (z_bt q)) t == z_kgHit q t))) = true := by decide +kernel
set_option maxRecDepth 100000 in
theorem z_pn_cls1 : ((List.range 64).all (fun q => (List.range 64).all (fun t => (z_tb (f_Ra_byPawn (z_bt q) 0) t == z_pnHit true q t) && (z_tb (f_Ra_byPawn (z_bt q) 1) t == z_pnHit false q t)))) = true := by decide +kernel
set_option maxRecDepth 100000 in
theorem z_ahead_eq : ∀ s, s < 2 → ∀ q, q < 64 → f_Ra_ahead (z_bt q) (nI s) = z_bo (z_nx (z_upd8 s) q) := by decide +kernel
set_option maxRecDepth 100000 in
theorem z_ahead_0 : ∀ s, s < 2 → f_Ra_ahead 0 (nI s) = 0 := by decide
set_option maxRecDepth 100000 in
theorem z_single_eq : ∀ s, s < 2 → ∀ q, q < 64 → z_bo (z_nx (z_upd8 s) q) &&& (if s = 0 then 16711680 else 280375465082880) = if (q / 8 = if s = 0 then 1 else 6) then z_bo (z_nx (z_upd8 s) q) else 0 := by decide +kernel
set_option maxRecDepth 100000 in
theorem z_pawn_cls {s q t : Nat} (hs : s < 2) (hq : q < 64) (ht : t < 64) : z_tb (f_Ra_byPawn (z_bt q) (nI s)) t = z_pnHit (decide (s = 0)) q t := by
  have h := z_all2 z_pn_cls1 hq ht
  rw [Bool.and_eq_true, beq_iff_eq, beq_iff_eq] at h
  have : s = 0 ∨ s = 1 := by omega
  rcases this with rfl | rfl
  · exact h.1
  · exact h.2
set_option maxRecDepth 100000 in
theorem z_passedSet_eq {p t : Nat} (hp : p ≤ 64) (ht : t < 64) : z_tb (f_Po_passedSet (z_pI p)) t = decide (t = p) := by
  rw [f_Po_passedSet, z_pI]
  by_cases c : p < 64
  · rw [if_pos c, if_neg (z_nI_m1 p (by omega))]; exact z_tb_bt c ht
  · rw [if_neg c, if_pos rfl, z_tb_zero]; symm; rw [decide_eq_false_iff_not]; omega
set_option maxRecDepth 100000 in
theorem z_zero_and (x : Int64) : 0 &&& x = 0 := z_tb_ext (fun q _ => by rw [z_tb_and, z_tb_zero]; rfl)
set_option maxRecDepth 100000 in
theorem z_empty_eq {P : z_Pos} (V : z_Val P) {cm : Nat → Int32} {sets : Nat → Int64} (hc : ∀ q, q < 64 → cm q = P.men q) (B : z_Bd P.men sets) {q : Nat} (hq : q < 64) : z_tb (f_Bo_empty sets) q = z_fre P.men q := B.2 0 (by decide) q hq
set_option maxRecDepth 100000 in
theorem z_pawnTargets_eq {P : z_Pos} (V : z_Val P) {cm : Nat → Int32} {sets : Nat → Int64} (hc : ∀ q, q < 64 → cm q = P.men q) (B : z_Bd P.men sets) {q t : Nat} (hq : q < 64) (ht : t < 64) : z_tb (f_Po_pawnTargets (cm, sets) (nI P.side) (z_pI P.passed) (z_bt q)) t = z_pawnG P q t := by
  have hs := V.hs
  have key : ∀ k : Int64, k = (if P.side = 0 then 16711680 else 280375465082880) → z_tb (f_Po_pawnTargets_16 (cm, sets) (nI P.side) (z_pI P.passed) (z_bt q) k) t = z_pawnG P q t := by
    intro k hk
    rw [f_Po_pawnTargets_16, z_ahead_eq _ hs q hq]
    simp only [z_tb_or, z_tb_and]
    rw [z_pawn_cls hs hq ht, z_side_flip hs, z_allOf_eq B (by omega) ht, z_passedSet_eq V.hp ht, z_empty_eq V hc B ht]
    unfold z_pawnG
    congr 1
    generalize ho : z_nx (z_upd8 P.side) q = o
    by_cases h64 : o < 64
    · have hbo : z_bo o = z_bt o := by rw [z_bo, if_pos h64]
      have hba : z_bo o &&& f_Bo_empty sets = if z_fre P.men o then z_bt o else 0 := by
        rw [hbo, z_bt_and h64, z_empty_eq V hc B h64]
      rw [hba, z_tb_bo ht]
      have hsi := z_single_eq P.side hs q hq
      rw [ho, ← hk] at hsi
      cases hf : z_fre P.men o
      · simp only [Bool.false_eq_true, if_false, z_zero_and, z_ahead_0 _ hs, z_tb_zero]
        by_cases c : t = o
        · subst c; simp [hf]
        · simp [c]
      · simp only [if_true]
        rw [← hbo, hsi]
        by_cases c1 : q / 8 = if P.side = 0 then 1 else 6
        · rw [if_pos c1, hbo, z_ahead_eq _ hs o h64, z_tb_bo ht]
          have h2 := z_two_ok P.side hs q hq c1
          rw [ho] at h2
          simp only [h64, h2, c1, decide_true, Bool.true_and]
          by_cases c : t = o
          · subst c; simp [hf]
          · simp [c]
        · rw [if_neg c1, z_ahead_0 _ hs, z_tb_zero]
          by_cases c : t = o
          · subst c; simp [hf, h64, c1]
          · simp [c, c1]
    · have hbo : z_bo o = 0 := by rw [z_bo, if_neg h64]
      rw [hbo, z_zero_and, z_zero_and, z_ahead_0 _ hs, z_tb_zero]; simp [h64]
  rw [f_Po_pawnTargets]
  have : P.side = 0 ∨ P.side = 1 := by omega
  rcases this with h | h
  · rw [if_pos (by rw [h]; decide)]; exact key _ (by rw [h]; rfl)
  · rw [if_neg (by rw [h]; decide)]; exact key _ (by rw [h]; rfl)
set_option maxRecDepth 100000 in
theorem z_byLines_eq {P : z_Pos} (V : z_Val P) {cm : Nat → Int32} {sets : Nat → Int64} (hc : ∀ q, q < 64 → cm q = P.men q) (B : z_Bd P.men sets) (m : Int32) {q t : Nat} (hq : q < 64) (ht : t < 64) (h : m &&& 7 = 3 ∨ m &&& 7 = 4 ∨ m &&& 7 = 5) :
    z_tb (f_Ra_byLines (m &&& 7) (z_bt q) (f_Bo_empty sets)) t = z_hits m (z_fre P.men) q t := by
  have a : ∀ d, d < 8 → z_tb (f_Ra_along (nI d) (z_bt q) (f_Bo_empty sets)) t = z_ry (z_fre P.men) d q t := by
    intro d hd
    rw [z_along_bt hd hq _ ht, z_ry, z_ry, z_ray_congr (e' := z_fre P.men) (fun r hr => z_empty_eq V hc B hr)]
  have a0 : z_tb (f_Ra_along 0 (z_bt q) (f_Bo_empty sets)) t = z_ry (z_fre P.men) 0 q t := a 0 (by decide)
  have a1 : z_tb (f_Ra_along 1 (z_bt q) (f_Bo_empty sets)) t = z_ry (z_fre P.men) 1 q t := a 1 (by decide)
  have a2 : z_tb (f_Ra_along 2 (z_bt q) (f_Bo_empty sets)) t = z_ry (z_fre P.men) 2 q t := a 2 (by decide)
  have a3 : z_tb (f_Ra_along 3 (z_bt q) (f_Bo_empty sets)) t = z_ry (z_fre P.men) 3 q t := a 3 (by decide)
  have a4 : z_tb (f_Ra_along 4 (z_bt q) (f_Bo_empty sets)) t = z_ry (z_fre P.men) 4 q t := a 4 (by decide)
  have a5 : z_tb (f_Ra_along 5 (z_bt q) (f_Bo_empty sets)) t = z_ry (z_fre P.men) 5 q t := a 5 (by decide)
  have a6 : z_tb (f_Ra_along 6 (z_bt q) (f_Bo_empty sets)) t = z_ry (z_fre P.men) 6 q t := a 6 (by decide)
  have a7 : z_tb (f_Ra_along 7 (z_bt q) (f_Bo_empty sets)) t = z_ry (z_fre P.men) 7 q t := a 7 (by decide)
  unfold z_hits
  generalize m &&& 7 = k at *
  rcases h with rfl | rfl | rfl
  · have e : f_Ra_byLines 3 (z_bt q) (f_Bo_empty sets) = 0 ||| f_Ra_along 4 (z_bt q) (f_Bo_empty sets) ||| f_Ra_along 5 (z_bt q) (f_Bo_empty sets) ||| f_Ra_along 6 (z_bt q) (f_Bo_empty sets) ||| f_Ra_along 7 (z_bt q) (f_Bo_empty sets) := rfl
    rw [e]; simp only [z_tb_or, z_tb_zero, a4, a5, a6, a7]
    simp [z_lnB]
  · have e : f_Ra_byLines 4 (z_bt q) (f_Bo_empty sets) = 0 ||| f_Ra_along 0 (z_bt q) (f_Bo_empty sets) ||| f_Ra_along 1 (z_bt q) (f_Bo_empty sets) ||| f_Ra_along 2 (z_bt q) (f_Bo_empty sets) ||| f_Ra_along 3 (z_bt q) (f_Bo_empty sets) := rfl
    rw [e]; simp only [z_tb_or, z_tb_zero, a0, a1, a2, a3]
    simp [z_lnR]
  · have e : f_Ra_byLines 5 (z_bt q) (f_Bo_empty sets) = 0 ||| f_Ra_along 0 (z_bt q) (f_Bo_empty sets) ||| f_Ra_along 1 (z_bt q) (f_Bo_empty sets) ||| f_Ra_along 2 (z_bt q) (f_Bo_empty sets) ||| f_Ra_along 3 (z_bt q) (f_Bo_empty sets) ||| f_Ra_along 4 (z_bt q) (f_Bo_empty sets) ||| f_Ra_along 5 (z_bt q) (f_Bo_empty sets) ||| f_Ra_along 6 (z_bt q) (f_Bo_empty sets) ||| f_Ra_along 7 (z_bt q) (f_Bo_empty sets) := rfl
    rw [e]; simp only [z_tb_or, z_tb_zero, a0, a1, a2, a3, a4, a5, a6, a7]
    simp [z_lnR, z_lnB, Bool.or_assoc]
def z_tgtB (P : z_Pos) (q t : Nat) : Bool := if P.men q &&& 7 = 1 then z_pawnG P q t else z_hits (P.men q) (z_fre P.men) q t && !z_isOf (P.men t) (nI P.side)
set_option maxRecDepth 100000 in
theorem z_targetsFrom_eq {P : z_Pos} (V : z_Val P) {cm : Nat → Int32} {sets : Nat → Int64} (hc : ∀ q, q < 64 → cm q = P.men q) (B : z_Bd P.men sets) {q t : Nat} (hq : q < 64) (ht : t < 64) (ho : z_isOf (P.men q) (nI P.side) = true) :
    z_tb (f_Po_targetsFrom (cm, sets) (nI P.side) (z_pI P.passed) (nI q)) t = z_tgtB P q t := by
  have hs := V.hs
  have ho' := ho
  rw [z_isOf, Bool.and_eq_true, decide_eq_true_eq] at ho'
  have h0 : ¬ P.men q = 0 := by have := ho'.1; simpa using this
  rw [f_Po_targetsFrom]
  dsimp only
  rw [z_manAt_eq _ hq, hc q hq, if_neg h0, show ((3 : Int32) &&& 31) = 3 from by decide, if_pos ho'.2, z_tgtB]
  rw [show shl64 1 (nI q) = z_bt q from rfl]
  have hn : z_tb ((f_Bo_allOf sets (nI P.side)) ^^^ (-1)) t = !z_isOf (P.men t) (nI P.side) := by rw [z_tb_not _ ht, z_allOf_eq B hs ht]
  by_cases c1 : P.men q &&& 7 = 1
  · rw [if_pos c1, if_pos c1]; exact z_pawnTargets_eq V hc B hq ht
  · rw [if_neg c1, if_neg c1]
    by_cases c2 : P.men q &&& 7 = 2
    · rw [if_pos c2, z_tb_and, hn, beq_iff_eq.mp (z_all2 z_kn_cls1 hq ht), z_hits, if_neg c1, if_pos c2]
    · rw [if_neg c2]
      by_cases c6 : P.men q &&& 7 = 6
      · rw [if_pos c6, z_tb_and, hn, beq_iff_eq.mp (z_all2 z_kg_cls1 hq ht), z_hits, if_neg c1, if_neg c2, if_pos c6]
      · rw [if_neg c6, z_tb_and, hn, z_byLines_eq V hc B _ hq ht]
        have hv := z_vm_cases (V.hv q hq)
        generalize P.men q = m at *
        rcases hv with rfl | rfl | rfl | rfl | rfl | rfl | rfl | rfl | rfl | rfl | rfl | rfl | rfl <;> revert c1 c2 c6 h0 <;> decide
set_option maxRecDepth 100000 in
theorem z_isFree_eq {P : z_Pos} (V : z_Val P) {cm : Nat → Int32} {sets : Nat → Int64} (hc : ∀ q, q < 64 → cm q = P.men q) (B : z_Bd P.men sets) {q : Nat} (hq : q < 64) : f_Bo_isFree cm (nI q) = if z_fre P.men q then 1 else 0 := by
  rw [f_Bo_isFree, z_manAt_eq _ hq, hc q hq, z_fre]
  by_cases h : P.men q = 0
  · simp [h]
  · simp [h]
set_option maxRecDepth 100000 in
theorem z_isAttacked_eq {P : z_Pos} (V : z_Val P) {cm : Nat → Int32} {sets : Nat → Int64} (hc : ∀ q, q < 64 → cm q = P.men q) (B : z_Bd P.men sets) {q : Nat} (hq : q < 64) : f_Po_isAttacked (cm, sets) (nI P.side) (nI q) = if z_atk P.men (1 - P.side) q then 1 else 0 := by
  rw [f_Po_isAttacked, z_side_flip V.hs, show shl64 1 (nI q) = z_bt q from rfl]
  have := z_atk_cls B (s := 1 - P.side) (t := q) (by omega) hq
  cases h : z_atk P.men (1 - P.side) q
  · rw [if_pos (this.mpr h)]; rfl
  · rw [if_neg (fun g => by rw [this.mp g] at h; cases h)]; rfl
set_option maxRecDepth 100000 in
theorem z_hasRight_bit {P : z_Pos} (V : z_Val P) {cm : Nat → Int32} {sets : Nat → Int64} (hc : ∀ q, q < 64 → cm q = P.men q) (B : z_Bd P.men sets) : ∀ r, r < 16 → ∀ s, s < 2 → ∀ w, w < 2 → f_Po_hasRight (nI r) (nI s) (nI w) = if r.testBit (2 * s + w) then 1 else 0 := by decide +kernel
set_option maxRecDepth 100000 in
theorem z_castling_eq {P : z_Pos} (V : z_Val P) {cm : Nat → Int32} {sets : Nat → Int64} (hc : ∀ q, q < 64 → cm q = P.men q) (B : z_Bd P.men sets) {t : Nat} (ht : t < 64) : z_tb (f_Po_castlingTargets (cm, sets) (nI P.side) (nI P.rights)) t =
    ((z_mayC P true && decide (t = z_home P.side + 2)) || (z_mayC P false && decide (t + 2 = z_home P.side))) := by
  have hs := V.hs
  have hh : z_home P.side < 61 ∧ 4 ≤ z_home P.side := by unfold z_home; omega
  have hk : f_Po_kingHome (nI P.side) = nI (z_home P.side) := (by decide : ∀ s, s < 2 → f_Po_kingHome (nI s) = nI (z_home s)) _ hs
  have p1 : nI (z_home P.side) + 1 = nI (z_home P.side + 1) := z_nI_add _ 1
  have p2 : nI (z_home P.side) + 2 = nI (z_home P.side + 2) := z_nI_add _ 2
  have q1 : nI (z_home P.side) - 1 = nI (z_home P.side - 1) := z_nI_sub (b := 1) (by omega) (by omega)
  have q2 : nI (z_home P.side) - 2 = nI (z_home P.side - 2) := z_nI_sub (b := 2) (by omega) (by omega)
  have q3 : nI (z_home P.side) - 3 = nI (z_home P.side - 3) := z_nI_sub (b := 3) (by omega) (by omega)
  have r0 := z_hasRight_bit V hc B P.rights V.hr P.side hs 0 (by decide)
  have r1 := z_hasRight_bit V hc B P.rights V.hr P.side hs 1 (by decide)
  have s2 : shl64 1 (nI (z_home P.side + 2)) = z_bt (z_home P.side + 2) := rfl
  have s2' : shl64 1 (nI (z_home P.side - 2)) = z_bt (z_home P.side - 2) := rfl
  have t2 : decide (t + 2 = z_home P.side) = decide (t = z_home P.side - 2) := decide_eq_decide.mpr (by omega)
  have z01 : ¬ (1 : Int32) = 0 := by decide
  have k74 : ∀ v, z_tb (f_Po_castlingTargets_74 (cm, sets) (nI P.side) (nI P.rights) v) t = (z_tb v t || (z_mayC P false && decide (t + 2 = z_home P.side))) := by
    intro v
    rw [f_Po_castlingTargets_74, hk, q1, q2, q3, show f_Po_hasRight (nI P.rights) (nI P.side) 1 = _ from r1]
    dsimp only
    rw [z_isFree_eq V hc B (by omega), z_isFree_eq V hc B (by omega), z_isFree_eq V hc B (by omega), z_isAttacked_eq V hc B (by omega), z_isAttacked_eq V hc B (by omega), s2', t2]
    have hm : z_mayC P false = (P.rights.testBit (2 * P.side + 1) && (z_fre P.men (z_home P.side - 3) && z_fre P.men (z_home P.side - 2) && z_fre P.men (z_home P.side - 1)) && !z_atk P.men (1 - P.side) (z_home P.side) && !z_atk P.men (1 - P.side) (z_home P.side - 1)) := by
      unfold z_mayC; simp
    rw [hm]
    cases P.rights.testBit (2 * P.side + 1)
    · simp
    · cases z_fre P.men (z_home P.side - 1)
      · simp
      · cases z_fre P.men (z_home P.side - 2)
        · simp
        · cases z_fre P.men (z_home P.side - 3)
          · simp
          · cases z_atk P.men (1 - P.side) (z_home P.side)
            · cases z_atk P.men (1 - P.side) (z_home P.side - 1)
              · simp [z_tb_or, z_tb_bt (show z_home P.side - 2 < 64 by omega) ht]
              · simp
            · simp
  rw [f_Po_castlingTargets, hk, p1, p2]
  dsimp only
  rw [show f_Po_hasRight (nI P.rights) (nI P.side) 0 = _ from r0, z_isFree_eq V hc B (by omega), z_isFree_eq V hc B (by omega), z_isAttacked_eq V hc B (by omega), z_isAttacked_eq V hc B (by omega), s2]
  have hm : z_mayC P true = (P.rights.testBit (2 * P.side + 0) && (z_fre P.men (z_home P.side + 1) && z_fre P.men (z_home P.side + 2)) && !z_atk P.men (1 - P.side) (z_home P.side) && !z_atk P.men (1 - P.side) (z_home P.side + 1)) := by
    unfold z_mayC; simp
  rw [hm]
  cases P.rights.testBit (2 * P.side + 0)
  · simp [k74, z_tb_zero]
  · cases z_fre P.men (z_home P.side + 1)
    · simp [k74, z_tb_zero]
    · cases z_fre P.men (z_home P.side + 2)
      · simp [k74, z_tb_zero]
      · cases z_atk P.men (1 - P.side) (z_home P.side)
        · cases z_atk P.men (1 - P.side) (z_home P.side + 1)
          · simp [k74, z_tb_or, z_tb_zero, z_tb_bt (show z_home P.side + 2 < 64 by omega) ht]
          · simp [k74, z_tb_zero]
        · simp [k74, z_tb_zero]
